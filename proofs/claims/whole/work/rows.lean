section
-- ===== PART A: goes FIRST, ahead of the names: the tables' words, and 'selects' of the private methods out of them =====
/-- a private method of a class that the tables say can be made, by its rows of tables_1 -/
def lw_okq (q : MethodName × Nat) : Prop := (q.1.cls ≠ "java/lang/invoke/MethodHandle" ∧ q.1.cls ≠ "java/lang/invoke/VarHandle") ∧ Cond.instantiable q.1.cls q.2 ∈ tables_1 ∧ Cond.privateMethod q.1 ∈ tables_1 ∧ Cond.instanceMethod q.1 ∈ tables_1
theorem lw_p0 : lw_okq (⟨"RingHeap$Counting", "lower", "(LRingHeap$Thing;)V"⟩, 4) := ⟨⟨by decide +kernel, by decide +kernel⟩, List.mem_of_getElem? (i := 76) (by decide +kernel), List.mem_of_getElem? (i := 195) (by decide +kernel), List.mem_of_getElem? (i := 196) (by decide +kernel)⟩
theorem lw_p1 : lw_okq (⟨"RingHeap$Counting", "suspect", "(LRingHeap$Thing;)V"⟩, 4) := ⟨⟨by decide +kernel, by decide +kernel⟩, List.mem_of_getElem? (i := 76) (by decide +kernel), List.mem_of_getElem? (i := 199) (by decide +kernel), List.mem_of_getElem? (i := 200) (by decide +kernel)⟩
theorem lw_p2 : lw_okq (⟨"RingHeap$Counting", "finish", "(LRingHeap$Thing;)V"⟩, 4) := ⟨⟨by decide +kernel, by decide +kernel⟩, List.mem_of_getElem? (i := 76) (by decide +kernel), List.mem_of_getElem? (i := 224) (by decide +kernel), List.mem_of_getElem? (i := 225) (by decide +kernel)⟩
theorem lw_p3 : lw_okq (⟨"RingHeap$Collector", "markListed", "()V"⟩, 7) := ⟨⟨by decide +kernel, by decide +kernel⟩, List.mem_of_getElem? (i := 114) (by decide +kernel), List.mem_of_getElem? (i := 256) (by decide +kernel), List.mem_of_getElem? (i := 257) (by decide +kernel)⟩
theorem lw_p4 : lw_okq (⟨"RingHeap$Collector", "markFrom", "(LRingHeap$Thing;)V"⟩, 7) := ⟨⟨by decide +kernel, by decide +kernel⟩, List.mem_of_getElem? (i := 114) (by decide +kernel), List.mem_of_getElem? (i := 262) (by decide +kernel), List.mem_of_getElem? (i := 263) (by decide +kernel)⟩
theorem lw_p5 : lw_okq (⟨"RingHeap$Collector", "turnGray", "(LRingHeap$Thing;)V"⟩, 7) := ⟨⟨by decide +kernel, by decide +kernel⟩, List.mem_of_getElem? (i := 114) (by decide +kernel), List.mem_of_getElem? (i := 270) (by decide +kernel), List.mem_of_getElem? (i := 271) (by decide +kernel)⟩
theorem lw_p6 : lw_okq (⟨"RingHeap$Collector", "scanListed", "()V"⟩, 7) := ⟨⟨by decide +kernel, by decide +kernel⟩, List.mem_of_getElem? (i := 114) (by decide +kernel), List.mem_of_getElem? (i := 276) (by decide +kernel), List.mem_of_getElem? (i := 277) (by decide +kernel)⟩
theorem lw_p7 : lw_okq (⟨"RingHeap$Collector", "scanFrom", "(LRingHeap$Thing;)V"⟩, 7) := ⟨⟨by decide +kernel, by decide +kernel⟩, List.mem_of_getElem? (i := 114) (by decide +kernel), List.mem_of_getElem? (i := 280) (by decide +kernel), List.mem_of_getElem? (i := 281) (by decide +kernel)⟩
theorem lw_p8 : lw_okq (⟨"RingHeap$Collector", "judge", "(LRingHeap$Thing;)V"⟩, 7) := ⟨⟨by decide +kernel, by decide +kernel⟩, List.mem_of_getElem? (i := 114) (by decide +kernel), List.mem_of_getElem? (i := 284) (by decide +kernel), List.mem_of_getElem? (i := 285) (by decide +kernel)⟩
theorem lw_p9 : lw_okq (⟨"RingHeap$Collector", "blackenFrom", "(LRingHeap$Thing;)V"⟩, 7) := ⟨⟨by decide +kernel, by decide +kernel⟩, List.mem_of_getElem? (i := 114) (by decide +kernel), List.mem_of_getElem? (i := 288) (by decide +kernel), List.mem_of_getElem? (i := 289) (by decide +kernel)⟩
theorem lw_p10 : lw_okq (⟨"RingHeap$Collector", "turnBlack", "(LRingHeap$Thing;)V"⟩, 7) := ⟨⟨by decide +kernel, by decide +kernel⟩, List.mem_of_getElem? (i := 114) (by decide +kernel), List.mem_of_getElem? (i := 292) (by decide +kernel), List.mem_of_getElem? (i := 293) (by decide +kernel)⟩
theorem lw_p11 : lw_okq (⟨"RingHeap$Collector", "tellWishes", "()V"⟩, 7) := ⟨⟨by decide +kernel, by decide +kernel⟩, List.mem_of_getElem? (i := 114) (by decide +kernel), List.mem_of_getElem? (i := 296) (by decide +kernel), List.mem_of_getElem? (i := 297) (by decide +kernel)⟩
theorem lw_p12 : lw_okq (⟨"RingHeap$Collector", "emptyList", "()V"⟩, 7) := ⟨⟨by decide +kernel, by decide +kernel⟩, List.mem_of_getElem? (i := 114) (by decide +kernel), List.mem_of_getElem? (i := 309) (by decide +kernel), List.mem_of_getElem? (i := 310) (by decide +kernel)⟩
theorem lw_p13 : lw_okq (⟨"RingHeap$Collector", "freeWhite", "()V"⟩, 7) := ⟨⟨by decide +kernel, by decide +kernel⟩, List.mem_of_getElem? (i := 114) (by decide +kernel), List.mem_of_getElem? (i := 313) (by decide +kernel), List.mem_of_getElem? (i := 314) (by decide +kernel)⟩
theorem lw_p14 : lw_okq (⟨"java/lang/Throwable", "fillInStackTrace", "(I)Ljava/lang/Throwable;"⟩, 6) := ⟨⟨by decide +kernel, by decide +kernel⟩, List.mem_of_getElem? (i := 394) (by decide +kernel), List.mem_of_getElem? (i := 392) (by decide +kernel), List.mem_of_getElem? (i := 393) (by decide +kernel)⟩
theorem lw_p15 : lw_okq (⟨"RingHeap", "makeRoomByMoving", "(LRingHeap$Kind;)Z"⟩, 5) := ⟨⟨by decide +kernel, by decide +kernel⟩, List.mem_of_getElem? (i := 16) (by decide +kernel), List.mem_of_getElem? (i := 483) (by decide +kernel), List.mem_of_getElem? (i := 484) (by decide +kernel)⟩
def lw_privs_1 : List (MethodName × Nat) := [(⟨"RingHeap$Counting", "lower", "(LRingHeap$Thing;)V"⟩, 4), (⟨"RingHeap$Counting", "suspect", "(LRingHeap$Thing;)V"⟩, 4), (⟨"RingHeap$Counting", "finish", "(LRingHeap$Thing;)V"⟩, 4), (⟨"RingHeap$Collector", "markListed", "()V"⟩, 7), (⟨"RingHeap$Collector", "markFrom", "(LRingHeap$Thing;)V"⟩, 7), (⟨"RingHeap$Collector", "turnGray", "(LRingHeap$Thing;)V"⟩, 7), (⟨"RingHeap$Collector", "scanListed", "()V"⟩, 7), (⟨"RingHeap$Collector", "scanFrom", "(LRingHeap$Thing;)V"⟩, 7), (⟨"RingHeap$Collector", "judge", "(LRingHeap$Thing;)V"⟩, 7), (⟨"RingHeap$Collector", "blackenFrom", "(LRingHeap$Thing;)V"⟩, 7), (⟨"RingHeap$Collector", "turnBlack", "(LRingHeap$Thing;)V"⟩, 7), (⟨"RingHeap$Collector", "tellWishes", "()V"⟩, 7), (⟨"RingHeap$Collector", "emptyList", "()V"⟩, 7), (⟨"RingHeap$Collector", "freeWhite", "()V"⟩, 7), (⟨"java/lang/Throwable", "fillInStackTrace", "(I)Ljava/lang/Throwable;"⟩, 6), (⟨"RingHeap", "makeRoomByMoving", "(LRingHeap$Kind;)Z"⟩, 5)]
theorem lw_r1 : ∀ q ∈ lw_privs_1, lw_okq q := List.forall_mem_cons.mpr ⟨lw_p0, List.forall_mem_cons.mpr ⟨lw_p1, List.forall_mem_cons.mpr ⟨lw_p2, List.forall_mem_cons.mpr ⟨lw_p3, List.forall_mem_cons.mpr ⟨lw_p4, List.forall_mem_cons.mpr ⟨lw_p5, List.forall_mem_cons.mpr ⟨lw_p6, List.forall_mem_cons.mpr ⟨lw_p7, List.forall_mem_cons.mpr ⟨lw_p8, List.forall_mem_cons.mpr ⟨lw_p9, List.forall_mem_cons.mpr ⟨lw_p10, List.forall_mem_cons.mpr ⟨lw_p11, List.forall_mem_cons.mpr ⟨lw_p12, List.forall_mem_cons.mpr ⟨lw_p13, List.forall_mem_cons.mpr ⟨lw_p14, List.forall_mem_cons.mpr ⟨lw_p15, fun _ h => absurd h List.not_mem_nil⟩⟩⟩⟩⟩⟩⟩⟩⟩⟩⟩⟩⟩⟩⟩⟩
theorem lw_p16 : lw_okq (⟨"RingHeapModel", "mark", "()V"⟩, 31) := ⟨⟨by decide +kernel, by decide +kernel⟩, List.mem_of_getElem? (i := 620) (by decide +kernel), List.mem_of_getElem? (i := 729) (by decide +kernel), List.mem_of_getElem? (i := 730) (by decide +kernel)⟩
theorem lw_p17 : lw_okq (⟨"RingHeapModel", "free", "(I)V"⟩, 31) := ⟨⟨by decide +kernel, by decide +kernel⟩, List.mem_of_getElem? (i := 620) (by decide +kernel), List.mem_of_getElem? (i := 733) (by decide +kernel), List.mem_of_getElem? (i := 734) (by decide +kernel)⟩
theorem lw_p18 : lw_okq (⟨"RingHeapModel", "gray", "(I)V"⟩, 31) := ⟨⟨by decide +kernel, by decide +kernel⟩, List.mem_of_getElem? (i := 620) (by decide +kernel), List.mem_of_getElem? (i := 737) (by decide +kernel), List.mem_of_getElem? (i := 738) (by decide +kernel)⟩
theorem lw_p19 : lw_okq (⟨"RingHeapModel", "grayOne", "(I)V"⟩, 31) := ⟨⟨by decide +kernel, by decide +kernel⟩, List.mem_of_getElem? (i := 620) (by decide +kernel), List.mem_of_getElem? (i := 741) (by decide +kernel), List.mem_of_getElem? (i := 742) (by decide +kernel)⟩
theorem lw_p20 : lw_okq (⟨"RingHeapModel", "fieldsOf", "(I)I"⟩, 31) := ⟨⟨by decide +kernel, by decide +kernel⟩, List.mem_of_getElem? (i := 620) (by decide +kernel), List.mem_of_getElem? (i := 745) (by decide +kernel), List.mem_of_getElem? (i := 746) (by decide +kernel)⟩
theorem lw_p21 : lw_okq (⟨"RingHeapModel", "scan", "(I)V"⟩, 31) := ⟨⟨by decide +kernel, by decide +kernel⟩, List.mem_of_getElem? (i := 620) (by decide +kernel), List.mem_of_getElem? (i := 749) (by decide +kernel), List.mem_of_getElem? (i := 750) (by decide +kernel)⟩
theorem lw_p22 : lw_okq (⟨"RingHeapModel", "scanOne", "(I)V"⟩, 31) := ⟨⟨by decide +kernel, by decide +kernel⟩, List.mem_of_getElem? (i := 620) (by decide +kernel), List.mem_of_getElem? (i := 753) (by decide +kernel), List.mem_of_getElem? (i := 754) (by decide +kernel)⟩
theorem lw_p23 : lw_okq (⟨"RingHeapModel", "blacken", "(I)V"⟩, 31) := ⟨⟨by decide +kernel, by decide +kernel⟩, List.mem_of_getElem? (i := 620) (by decide +kernel), List.mem_of_getElem? (i := 757) (by decide +kernel), List.mem_of_getElem? (i := 758) (by decide +kernel)⟩
theorem lw_p24 : lw_okq (⟨"RingHeapModel", "turn", "(II)V"⟩, 31) := ⟨⟨by decide +kernel, by decide +kernel⟩, List.mem_of_getElem? (i := 620) (by decide +kernel), List.mem_of_getElem? (i := 761) (by decide +kernel), List.mem_of_getElem? (i := 762) (by decide +kernel)⟩
theorem lw_p25 : lw_okq (⟨"RingHeapModel", "findByAddress", "()V"⟩, 31) := ⟨⟨by decide +kernel, by decide +kernel⟩, List.mem_of_getElem? (i := 620) (by decide +kernel), List.mem_of_getElem? (i := 765) (by decide +kernel), List.mem_of_getElem? (i := 766) (by decide +kernel)⟩
theorem lw_p26 : lw_okq (⟨"RingHeapModel", "hasWish", "(I)Z"⟩, 31) := ⟨⟨by decide +kernel, by decide +kernel⟩, List.mem_of_getElem? (i := 620) (by decide +kernel), List.mem_of_getElem? (i := 769) (by decide +kernel), List.mem_of_getElem? (i := 770) (by decide +kernel)⟩
theorem lw_p27 : lw_okq (⟨"RingHeapModel", "comesToWishes", "(I)V"⟩, 31) := ⟨⟨by decide +kernel, by decide +kernel⟩, List.mem_of_getElem? (i := 620) (by decide +kernel), List.mem_of_getElem? (i := 773) (by decide +kernel), List.mem_of_getElem? (i := 774) (by decide +kernel)⟩
theorem lw_p28 : lw_okq (⟨"RingHeapModel", "gather", "()V"⟩, 31) := ⟨⟨by decide +kernel, by decide +kernel⟩, List.mem_of_getElem? (i := 620) (by decide +kernel), List.mem_of_getElem? (i := 777) (by decide +kernel), List.mem_of_getElem? (i := 778) (by decide +kernel)⟩
theorem lw_p29 : lw_okq (⟨"RingHeapModel", "isThere", "(I)Z"⟩, 31) := ⟨⟨by decide +kernel, by decide +kernel⟩, List.mem_of_getElem? (i := 620) (by decide +kernel), List.mem_of_getElem? (i := 781) (by decide +kernel), List.mem_of_getElem? (i := 782) (by decide +kernel)⟩
theorem lw_p30 : lw_okq (⟨"RingHeapModel", "less", "(I)V"⟩, 31) := ⟨⟨by decide +kernel, by decide +kernel⟩, List.mem_of_getElem? (i := 620) (by decide +kernel), List.mem_of_getElem? (i := 785) (by decide +kernel), List.mem_of_getElem? (i := 786) (by decide +kernel)⟩
theorem lw_p31 : lw_okq (⟨"RingHeapModel", "isLetGo", "(I)Z"⟩, 31) := ⟨⟨by decide +kernel, by decide +kernel⟩, List.mem_of_getElem? (i := 620) (by decide +kernel), List.mem_of_getElem? (i := 789) (by decide +kernel), List.mem_of_getElem? (i := 790) (by decide +kernel)⟩
def lw_privs_2 : List (MethodName × Nat) := [(⟨"RingHeapModel", "mark", "()V"⟩, 31), (⟨"RingHeapModel", "free", "(I)V"⟩, 31), (⟨"RingHeapModel", "gray", "(I)V"⟩, 31), (⟨"RingHeapModel", "grayOne", "(I)V"⟩, 31), (⟨"RingHeapModel", "fieldsOf", "(I)I"⟩, 31), (⟨"RingHeapModel", "scan", "(I)V"⟩, 31), (⟨"RingHeapModel", "scanOne", "(I)V"⟩, 31), (⟨"RingHeapModel", "blacken", "(I)V"⟩, 31), (⟨"RingHeapModel", "turn", "(II)V"⟩, 31), (⟨"RingHeapModel", "findByAddress", "()V"⟩, 31), (⟨"RingHeapModel", "hasWish", "(I)Z"⟩, 31), (⟨"RingHeapModel", "comesToWishes", "(I)V"⟩, 31), (⟨"RingHeapModel", "gather", "()V"⟩, 31), (⟨"RingHeapModel", "isThere", "(I)Z"⟩, 31), (⟨"RingHeapModel", "less", "(I)V"⟩, 31), (⟨"RingHeapModel", "isLetGo", "(I)Z"⟩, 31)]
theorem lw_r2 : ∀ q ∈ lw_privs_2, lw_okq q := List.forall_mem_cons.mpr ⟨lw_p16, List.forall_mem_cons.mpr ⟨lw_p17, List.forall_mem_cons.mpr ⟨lw_p18, List.forall_mem_cons.mpr ⟨lw_p19, List.forall_mem_cons.mpr ⟨lw_p20, List.forall_mem_cons.mpr ⟨lw_p21, List.forall_mem_cons.mpr ⟨lw_p22, List.forall_mem_cons.mpr ⟨lw_p23, List.forall_mem_cons.mpr ⟨lw_p24, List.forall_mem_cons.mpr ⟨lw_p25, List.forall_mem_cons.mpr ⟨lw_p26, List.forall_mem_cons.mpr ⟨lw_p27, List.forall_mem_cons.mpr ⟨lw_p28, List.forall_mem_cons.mpr ⟨lw_p29, List.forall_mem_cons.mpr ⟨lw_p30, List.forall_mem_cons.mpr ⟨lw_p31, fun _ h => absurd h List.not_mem_nil⟩⟩⟩⟩⟩⟩⟩⟩⟩⟩⟩⟩⟩⟩⟩⟩
theorem lw_p32 : lw_okq (⟨"RingHeapModel", "place", "(I)I"⟩, 31) := ⟨⟨by decide +kernel, by decide +kernel⟩, List.mem_of_getElem? (i := 620) (by decide +kernel), List.mem_of_getElem? (i := 801) (by decide +kernel), List.mem_of_getElem? (i := 802) (by decide +kernel)⟩
theorem lw_p33 : lw_okq (⟨"RingHeapModel", "number", "()I"⟩, 31) := ⟨⟨by decide +kernel, by decide +kernel⟩, List.mem_of_getElem? (i := 620) (by decide +kernel), List.mem_of_getElem? (i := 805) (by decide +kernel), List.mem_of_getElem? (i := 806) (by decide +kernel)⟩
theorem lw_p34 : lw_okq (⟨"RingHeapModel", "freeWords", "()I"⟩, 31) := ⟨⟨by decide +kernel, by decide +kernel⟩, List.mem_of_getElem? (i := 620) (by decide +kernel), List.mem_of_getElem? (i := 810) (by decide +kernel), List.mem_of_getElem? (i := 811) (by decide +kernel)⟩
theorem lw_p35 : lw_okq (⟨"RingHeapModel", "isWhole", "(I)Z"⟩, 31) := ⟨⟨by decide +kernel, by decide +kernel⟩, List.mem_of_getElem? (i := 620) (by decide +kernel), List.mem_of_getElem? (i := 819) (by decide +kernel), List.mem_of_getElem? (i := 820) (by decide +kernel)⟩
theorem lw_p36 : lw_okq (⟨"RingHeapModel", "more", "(I)V"⟩, 31) := ⟨⟨by decide +kernel, by decide +kernel⟩, List.mem_of_getElem? (i := 620) (by decide +kernel), List.mem_of_getElem? (i := 823) (by decide +kernel), List.mem_of_getElem? (i := 824) (by decide +kernel)⟩
def lw_privs_3 : List (MethodName × Nat) := [(⟨"RingHeapModel", "place", "(I)I"⟩, 31), (⟨"RingHeapModel", "number", "()I"⟩, 31), (⟨"RingHeapModel", "freeWords", "()I"⟩, 31), (⟨"RingHeapModel", "isWhole", "(I)Z"⟩, 31), (⟨"RingHeapModel", "more", "(I)V"⟩, 31)]
theorem lw_r3 : ∀ q ∈ lw_privs_3, lw_okq q := List.forall_mem_cons.mpr ⟨lw_p32, List.forall_mem_cons.mpr ⟨lw_p33, List.forall_mem_cons.mpr ⟨lw_p34, List.forall_mem_cons.mpr ⟨lw_p35, List.forall_mem_cons.mpr ⟨lw_p36, fun _ h => absurd h List.not_mem_nil⟩⟩⟩⟩⟩
def lw_privs : List (MethodName × Nat) := lw_privs_1 ++ (lw_privs_2 ++ (lw_privs_3))
def lw_tbl : List Cond := k2_sels lw_privs ++ tables_1
theorem lw_privs_ok : ∀ q ∈ lw_privs, lw_okq q := by
  show ∀ q ∈ lw_privs_1 ++ (lw_privs_2 ++ (lw_privs_3)), lw_okq q
  exact List.forall_mem_append.mpr ⟨lw_r1, List.forall_mem_append.mpr ⟨lw_r2, lw_r3⟩⟩
end
section
/-! ===== BEGIN words of one list among another's, by their places ===== -/
theorem goodIn_r {big : List Cond} (ws : List Cond) (ps : List Nat) (hp : ws = ps.filterMap (fun i => big[i]?)) (h : ws.all goodWord = true) : GoodIn big ws := by
  intro w hw
  have h1 := List.all_eq_true.mp h w hw
  rw [hp] at hw
  obtain ⟨i, -, hi⟩ := List.mem_filterMap.mp hw
  have hm : w ∈ big := by first | exact List.mem_of_getElem? hi | exact List.getElem?_mem hi
  exact ⟨hm, good_of_word h1⟩
theorem goodIn_app {big a b : List Cond} (ha : GoodIn big a) (hb : GoodIn big b) : GoodIn big (a ++ b) := fun w h => (List.mem_append.mp h).elim (ha w) (hb w)
theorem goodIn_ca {big a b : List Cond} {c : Cond} (ha : GoodIn big (c :: a)) (hb : GoodIn big b) : GoodIn big (c :: (a ++ b)) := fun w h => (List.mem_cons.mp h).elim (fun e => ha w (List.mem_cons.mpr (Or.inl e))) (fun h => (List.mem_append.mp h).elim (fun h => ha w (List.mem_cons.mpr (Or.inr h))) (hb w))
theorem goodIn_sub {big ws : List Cond} (hm : ∀ w ∈ ws, w ∈ big) (h : ws.all goodWord = true) : GoodIn big ws := fun w hw => ⟨hm w hw, good_of_word (List.all_eq_true.mp h w hw)⟩
/-! ===== END ===== -/

/-! ===== BEGIN exceptions that leave a method, and their catching by the caller (launches without stack traces) ===== -/
section VXA
/-! The laws vx_back, vx_callV, vx_callS, vx_callSW, vx_throw0, vx_throwS follow proofs of the library, with one case more: JvmDerived/Free/Laws.lean (Back.of_free), Shelf42/LK1.lean (callV, callS), Shelf/KitTraced.lean (throwNew0V, throwNewS). -/
/-- where a method has thrown q: the class by its name, the cell, what was written, the world -/
def vx_T (XC : String → State → State → Prop) (st : State) (q : Addr) (t : State) (mc ms : Nat) (free : Addr → Prop) : Prop :=
  ∃ (E : String) (ce : Cell) (L : List Loc), XC E st t ∧ t.heap[q]? = some ce ∧ ce.vm = .none ∧ st.vm.findClass E = some ce.cls ∧ st.WarmedH t.vm ∧ st.sameButNew ({ t with vm := st.vm } : State) L mc ms ∧ ∀ z ∈ L, free z.base
def vx_Q (Qc : Array Value → State → Outcome → State → Prop) (XC : String → State → State → Prop) (mc ms : Nat) (free : Addr → Prop) : Array Value → State → Outcome → State → Prop := fun a st o t =>
  (Qc a st o t ∧ ∃ L, FrameEnd st o t L mc ms ∧ ∀ q ∈ L, free q.base) ∨ ∃ q, o = .threw q ∧ vx_T XC st q t mc ms free
/-- a callee that returns or throws -/
def vx_Met (l : Launch) (y : MethodName) (ws : List Cond) (rm : Room) (Pc : Array Value → State → Prop) (Qc : Array Value → State → Outcome → State → Prop) (XC : String → State → State → Prop) (mc ms : Nat) (free : Addr → Prop) : Prop :=
  MetFree l y (headSpec ws rm) Pc (fun _ _ _ _ _ => True) (vx_Q Qc XC mc ms free)
def vx_Post (XC : String → State → State → Prop) (mc ms : Nat) (free : Addr → Prop) : Pt → Array Value → Addr → Pt → Prop := fun A a q B =>
  ∃ (g : JFrame) (mk : MethodId) (t : State) (L : List Loc) (E : String) (ce : Cell), B.U.heap = t.heap ∧ B.U.vm = t.vm ∧ XC E (A.U.calling g mk a) t ∧ t.heap[q]? = some ce ∧ ce.vm = .none ∧ A.U.vm.findClass E = some ce.cls ∧ B.locs = A.locs ++ L ∧ (∀ z ∈ L, free z.base) ∧ B.cells = A.cells + mc ∧ B.slots = A.slots + ms
def vx_Back (l : Launch) (R : Room) (p : Program) (e : Env) (below : List Frame) (s : State) (sargs : Array Value) (y : MethodName) (len W9 : Nat)
    (Pre : Pt → Array Value → Prop) (Post : Pt → Array Value → Option Value → Pt → Prop) (PostX : Pt → Array Value → Addr → Pt → Prop) : Prop :=
  ∀ (m : MethodId) (meth : Method) (c : Code) (A : Pt) (g : JFrame) (ig : Instr) (mk : MethodId) (a : Array Value),
    Stand p l e R s m sargs below meth c A.U A.locs A.cells A.slots → g.method = m → g.locals.size = c.maxLocals → decode c.code g.pc = .ok (ig, len) →
    2 * g.monitorRoom + (g.stack.map fun v => v.category).sum ≤ W9 → A.U.methodNamed? y = some mk → Pre A a →
    (∃ (v : Option Value) (B : Pt), Stand p l e R s m sargs below meth c B.U B.locs B.cells B.slots ∧ Post A a v B ∧
      Steps p.tables e below (doInvoke e (A.U.setTop g) [] mk a).1 (B.U.setTop { g with pc := g.pc + len, stack := v.toList ++ g.stack })) ∨
    (∃ (q : Addr) (B : Pt), Stand p l e R s m sargs below meth c B.U B.locs B.cells B.slots ∧ PostX A a q B ∧
      Steps p.tables e below (doInvoke e (A.U.setTop g) [] mk a).1 ((B.U.setTop g).pushFrame (.throwing q)))
section Payer
variable {l : Launch} {R : Room} {p : Program} {e : Env} {below : List Frame} {s : State} {sargs : Array Value} {y : MethodName} {len W9 : Nat}
theorem vx_back {ws : List Cond} {rm : Room} {Pc : Array Value → State → Prop} {Qc : Array Value → State → Outcome → State → Prop} {XC : String → State → State → Prop} {mc ms : Nat} {free : Addr → Prop} {bytes : ByteArray} {maxL : Nat} {ret : Option FieldType}
    (hM : vx_Met l y ws rm Pc Qc XC mc ms free) (hblind : FrameBlind Pc) (hrc : rm.cells = mc) (hrs : rm.slots = ms)
    (hframes : rm.frames + 1 ≤ R.frames) (hlocals : W9 + (maxL + 11) + rm.locals ≤ R.locals)
    (hws : ∀ w ∈ ws, ∀ a' U, s.WarmedH U.vm → w.before a' U = true) (hcode : Cond.code y bytes maxL ret ∈ ws) (hinit : ∀ a' U, s.WarmedH U.vm → (Cond.initialized y.cls).before a' U = true) :
    vx_Back l R p e below s sargs y len W9 (PreOf R mc ms Pc) (PostOf Qc mc ms free) (vx_Post XC mc ms free) := by
  intro m meth c A g ig mk a X hg hsize hdg hW hn hp
  have h1 : (headSpec ws rm).pre.before a A.U = true := atoms_intro fun w hw => hws w hw _ _ X.warmed
  have h2 : (Cond.code y bytes maxL ret).before a A.U = true := hws _ hcode _ _ X.warmed
  have h3 : (Cond.initialized y.cls).before a A.U = true := hinit _ _ X.warmed
  have h4 : A.cells + (headSpec ws rm).room.cells ≤ R.cells := by rw [show (headSpec ws rm).room.cells = mc from hrc]; exact hp.1
  have h5 : A.slots + (headSpec ws rm).room.slots ≤ R.slots := by rw [show (headSpec ws rm).room.slots = ms from hrs]; exact hp.2.1
  have hPc : Pc a (A.U.calling g mk a) := hblind _ _ _ _ hp.2.2
  obtain ⟨U, Ls, c0, s0⟩ := A
  dsimp only [Pt.U, Pt.locs, Pt.cells, Pt.slots] at h1 h2 h3 h4 h5 X hn hPc ⊢
  obtain ⟨methY, cY, hmY, hcY, -, hlY, -, -, -, -⟩ := Cond.code_spec hn h2
  obtain ⟨kY, hkY, -⟩ := className_of_methodNamed hn
  have hinitY : kY.init = .initialized := Cond.initialized_spec (findClass_of_methodNamed hn) hkY h3
  have h : At U g.method c below := by rw [hg]; exact X.here
  have hlocals9 : W9 + (maxL + 11) + (headSpec ws rm).room.locals ≤ R.locals := hlocals
  have happ : (headSpec ws rm).appliesLoose y e.platform (U.calling g mk a) = true :=
    Spec.appliesLoose_calling (g := g) h hdg hn hkY hinitY
      (X.room_calling (g := g) (R' := (headSpec ws rm).room) hsize hmY hcY hframes (by rw [hlY]; omega) h4 h5) h1
  obtain ⟨mid, hmid⟩ := h.above
  have hfr : (U.setTop g).frames = (.java g :: mid) ++ below := by rw [State.frames_setTop' g h.top, hmid]; rfl
  obtain ⟨o, s₂, hsteps, -, hend, hq⟩ := Steps.callFree hM p X.admits X.cas X.clock (acts := []) hfr happ hPc trivial
  have hq' : vx_Q Qc XC mc ms free a (U.calling g mk a) o s₂ := hq
  rw [State.frames_setTop' g h.top] at hend
  obtain ⟨g₀, hg0⟩ := Option.isSome_iff_exists.mp h.top
  obtain ⟨r, hr⟩ := State.topJava?_eq_some.mp hg0
  have hr' : (({ U with heap := s₂.heap, slotsUsed := s₂.slotsUsed } : State).setVm s₂.vm).frames = .java g₀ :: r := hr
  rcases hq' with ⟨hqc, L, hfe, hL⟩ | ⟨q, rfl, E, ce, L, hx, hce, hcv, hcl, hW₂, hsm, hL⟩
  · obtain ⟨⟨v, rfl⟩, hW₂, e2, q2, q3, q4, q5, q6⟩ := id hfe
    have e3 : s₂ = ({ (U.calling g mk a).setFrames s₂.frames with heap := s₂.heap, slotsUsed := s₂.slotsUsed } : State).setVm s₂.vm := by
      have : s₂ = ({ s₂ with vm := (U.calling g mk a).vm } : State).setVm s₂.vm := rfl
      rw [e2] at this
      exact this
    obtain ⟨c₂, i₂, len₂, hc₂, hd₂, hf₂⟩ := hend
    have hW' : U.WarmedH s₂.vm := hW₂
    have hcc : c₂ = c := by
      have h1 : s₂.code? g.method = U.code? g.method := by
        rw [State.code?_eq, State.code?_eq, hW'.alike.method?]
      exact Option.some.inj (hc₂.symm.trans (h1.trans h.code))
    subst hcc
    have hlen : len₂ = len := by rw [hdg] at hd₂; cases hd₂; rfl
    subst hlen
    have hs₂ : s₂ = (({ U with heap := s₂.heap, slotsUsed := s₂.slotsUsed } : State).setVm s₂.vm).setTop { g with pc := g.pc + len₂, stack := v.toList ++ g.stack } := by
      refine e3.trans ?_
      rw [hf₂, State.calling_eq h.top, State.setFrames_setFrames, State.setTop_of_frames _ hr', hr]
      rfl
    have hsame : U.sameButNew ({ U with heap := s₂.heap, slotsUsed := s₂.slotsUsed } : State) L mc ms := by
      refine ⟨?_, q2, q3, q4, q5, q6⟩
      obtain ⟨t, ht, -⟩ := State.frames_cons hr
      show ({ U with heap := s₂.heap, slotsUsed := s₂.slotsUsed } : State) = { U.setFrames U.frames with heap := s₂.heap, slotsUsed := s₂.slotsUsed }
      rw [State.setFrames_self ht]
    subst hg
    refine Or.inl ⟨v, ⟨(({ U with heap := s₂.heap, slotsUsed := s₂.slotsUsed } : State).setVm s₂.vm), Ls ++ L, c0 + mc, s0 + ms⟩,
      ⟨X.admits, X.cas, X.clock, X.frames, X.room, X.hears, X.method, X.code, (X.here.setHeapUsed s₂.heap s₂.slotsUsed).setVm hW'.alike, X.tail, State.WarmedH.trans X.warmed hW', X.limits, X.bytes, X.same.trans (hsame.setVm s.vm)⟩,
      ⟨g, mk, s₂, L, rfl, rfl, hqc, rfl, hL, rfl, rfl⟩, ?_⟩
    show Steps p.tables e below _ ((({ U with heap := s₂.heap, slotsUsed := s₂.slotsUsed } : State).setVm s₂.vm).setTop { g with pc := g.pc + len₂, stack := v.toList ++ g.stack })
    rw [← hs₂]
    exact hsteps
  · obtain ⟨e2, q2, q3, q4, q5, q6⟩ := id hsm
    have e3 : s₂ = ({ (U.calling g mk a).setFrames s₂.frames with heap := s₂.heap, slotsUsed := s₂.slotsUsed } : State).setVm s₂.vm := by
      have : s₂ = ({ s₂ with vm := (U.calling g mk a).vm } : State).setVm s₂.vm := rfl
      rw [e2] at this
      exact this
    have hf₂ : s₂.frames = .throwing q :: .java g :: U.frames.tail := hend
    have hW' : U.WarmedH s₂.vm := hW₂
    have hs₂ : s₂ = ((({ U with heap := s₂.heap, slotsUsed := s₂.slotsUsed } : State).setVm s₂.vm).setTop g).pushFrame (.throwing q) := by
      refine e3.trans ?_
      rw [hf₂, State.calling_eq h.top, State.setFrames_setFrames, State.pushFrame, State.frames_setTop _ hr', State.setTop_of_frames _ hr', State.setFrames_setFrames, hr]
      rfl
    have hsame : U.sameButNew ({ U with heap := s₂.heap, slotsUsed := s₂.slotsUsed } : State) L mc ms := by
      refine ⟨?_, q2, q3, q4, q5, q6⟩
      obtain ⟨t, ht, -⟩ := State.frames_cons hr
      show ({ U with heap := s₂.heap, slotsUsed := s₂.slotsUsed } : State) = { U.setFrames U.frames with heap := s₂.heap, slotsUsed := s₂.slotsUsed }
      rw [State.setFrames_self ht]
    subst hg
    refine Or.inr ⟨q, ⟨(({ U with heap := s₂.heap, slotsUsed := s₂.slotsUsed } : State).setVm s₂.vm), Ls ++ L, c0 + mc, s0 + ms⟩,
      ⟨X.admits, X.cas, X.clock, X.frames, X.room, X.hears, X.method, X.code, (X.here.setHeapUsed s₂.heap s₂.slotsUsed).setVm hW'.alike, X.tail, State.WarmedH.trans X.warmed hW', X.limits, X.bytes, X.same.trans (hsame.setVm s.vm)⟩,
      ⟨g, mk, s₂, L, E, ce, rfl, rfl, hx, hce, hcv, hcl, rfl, hL, rfl, rfl⟩, ?_⟩
    show Steps p.tables e below _ (((({ U with heap := s₂.heap, slotsUsed := s₂.slotsUsed } : State).setVm s₂.vm).setTop g).pushFrame (.throwing q))
    rw [← hs₂]
    exact hsteps
end Payer
section Calls
variable {p : Program} {l : Launch} {e : Env} {R : Room} {s : State} {m : MethodId} {args : Array Value} {below : List Frame} {meth : Method} {c : Code} {T : State} {locs : List Loc} {cells slots : Nat}
theorem vx_callV (X : Stand p l e R s m args below meth c T locs cells slots) (hexec : p.tables.exec = Jvm.exec) {own C : String} {index : Nat} {y : MethodName} {bytes : ByteArray} {maxL : Nat} {ret : Option FieldType}
    (hown : s.vm.findClass own = some m.cls) (hlink : (Cond.methodLink own index y).before args s = true) (hinst : (Cond.instanceMethod y).before args s = true) (hsel : (Cond.selects C y y).before args s = true)
    (hcode : (Cond.code y bytes maxL ret).before args s = true) (hy : y.cls ≠ "java/lang/invoke/MethodHandle" ∧ y.cls ≠ "java/lang/invoke/VarHandle")
    {W9 : Nat} {Pre : Pt → Array Value → Prop} {Post : Pt → Array Value → Option Value → Pt → Prop} {PostX : Pt → Array Value → Addr → Pt → Prop} (hK : vx_Back l R p e below s args y 3 W9 Pre Post PostX)
    {b : Addr} {cellB : Cell} (hcell : T.heap[b]? = some cellB) (hobj : cellB.vm.isStatics = false) (hcls : s.vm.findClass C = some cellB.cls)
    {g : JFrame} (hg : g.method = m) (hsize : g.locals.size = c.maxLocals) {argsL rest : List Value} (hlen : ∀ sig, parseMethodDescriptor y.desc = some sig → argsL.length = sig.parameters.length)
    (hstack : g.stack = argsL.reverse ++ .ref b :: rest) (hW : 2 * g.monitorRoom + (rest.map fun v => v.category).sum ≤ W9) (hdg : decode c.code g.pc = .ok (.invokevirtual index, 3))
    (hpre : ∀ vm₁, s.WarmedH vm₁ → Pre ⟨T.setVm vm₁, locs, cells, slots⟩ (Value.ref b :: argsL).toArray) :
    (∃ (v : Option Value) (vm₁ : Vm) (B : Pt), s.WarmedH vm₁ ∧ Stand p l e R s m args below meth c B.U B.locs B.cells B.slots ∧ Post ⟨T.setVm vm₁, locs, cells, slots⟩ (Value.ref b :: argsL).toArray v B ∧
      ∀ target, Steps p.tables e below (B.U.setTop { g with pc := g.pc + 3, stack := v.toList ++ rest }) target → Steps p.tables e below (T.setTop g) target) ∨
    (∃ (q : Addr) (vm₁ : Vm) (B : Pt), s.WarmedH vm₁ ∧ Stand p l e R s m args below meth c B.U B.locs B.cells B.slots ∧ PostX ⟨T.setVm vm₁, locs, cells, slots⟩ (Value.ref b :: argsL).toArray q B ∧
      Steps p.tables e below (T.setTop g) ((B.U.setTop { g with stack := rest }).pushFrame (.throwing q))) := by
  obtain ⟨mk, methM, hnamed, hmethM, hstM, habM⟩ := Cond.instanceMethod_spec hinst
  obtain ⟨methM', cM, hmethM', -, -, -, -, -, -, hsigM⟩ := Cond.code_spec hnamed hcode
  cases hmethM.symm.trans hmethM'
  obtain ⟨c2, r2, m2, q1, q2, q3, q4, kP, hkP, hkPi⟩ := Cond.selects_spec hsel
  cases hcls.symm.trans q1
  cases (State.methodFound?_of_named hnamed hy).symm.trans q2
  cases hnamed.symm.trans q3
  have hselP : selectMethod e.platform s.vm cellB.cls mk = .method mk := by rw [Launch.admits_selectMethod X.admits]; exact q4
  obtain ⟨vm₁, X₁, hstep₁⟩ := X.invokevirtual hexec hown hlink hnamed hmethM hstM hkP hkPi hy (a := b) (cell := cellB) hcell
    (fun z h => by rw [h] at hobj; cases hobj) hselP hmethM habM hkP hkPi (g := g) hg (argsL := argsL) (rest := rest) (hlen _ hsigM) hstack hdg
  rcases hK m meth c ⟨T.setVm vm₁, locs, cells, slots⟩ { g with stack := rest } (.invokevirtual index) mk (Value.ref b :: argsL).toArray X₁ hg hsize hdg hW (X₁.named hnamed) (hpre vm₁ X₁.warmed) with ⟨v, B, X', hpost, hsteps⟩ | ⟨q, B, X', hpost, hsteps⟩
  · exact Or.inl ⟨v, vm₁, B, X₁.warmed, X', hpost, fun target h => hstep₁ _ fun acts => by rw [doInvoke_state]; exact hsteps.trans h⟩
  · exact Or.inr ⟨q, vm₁, B, X₁.warmed, X', hpost, hstep₁ _ fun acts => by rw [doInvoke_state]; exact hsteps⟩
theorem vx_callS (X : Stand p l e R s m args below meth c T locs cells slots) (hexec : p.tables.exec = Jvm.exec) {own : String} {index : Nat} {y : MethodName} {bytes : ByteArray} {maxL : Nat} {ret : Option FieldType}
    (hown : s.vm.findClass own = some m.cls) (hlink : (Cond.methodLink own index y).before args s = true) (hstat : (Cond.static y).before args s = true) (hinit : (Cond.initialized y.cls).before args s = true)
    (hcode : (Cond.code y bytes maxL ret).before args s = true) (hy : y.cls ≠ "java/lang/invoke/MethodHandle" ∧ y.cls ≠ "java/lang/invoke/VarHandle")
    {W9 : Nat} {Pre : Pt → Array Value → Prop} {Post : Pt → Array Value → Option Value → Pt → Prop} {PostX : Pt → Array Value → Addr → Pt → Prop} (hK : vx_Back l R p e below s args y 3 W9 Pre Post PostX)
    {g : JFrame} (hg : g.method = m) (hsize : g.locals.size = c.maxLocals) {argsL rest : List Value} (hlen : ∀ sig, parseMethodDescriptor y.desc = some sig → argsL.length = sig.parameters.length)
    (hstack : g.stack = argsL.reverse ++ rest) (hW : 2 * g.monitorRoom + (rest.map fun v => v.category).sum ≤ W9) (hdg : decode c.code g.pc = .ok (.invokestatic index, 3))
    (hpre : ∀ vm₁, s.WarmedH vm₁ → Pre ⟨T.setVm vm₁, locs, cells, slots⟩ argsL.toArray) :
    (∃ (v : Option Value) (vm₁ : Vm) (B : Pt), s.WarmedH vm₁ ∧ Stand p l e R s m args below meth c B.U B.locs B.cells B.slots ∧ Post ⟨T.setVm vm₁, locs, cells, slots⟩ argsL.toArray v B ∧
      ∀ target, Steps p.tables e below (B.U.setTop { g with pc := g.pc + 3, stack := v.toList ++ rest }) target → Steps p.tables e below (T.setTop g) target) ∨
    (∃ (q : Addr) (vm₁ : Vm) (B : Pt), s.WarmedH vm₁ ∧ Stand p l e R s m args below meth c B.U B.locs B.cells B.slots ∧ PostX ⟨T.setVm vm₁, locs, cells, slots⟩ argsL.toArray q B ∧
      Steps p.tables e below (T.setTop g) ((B.U.setTop { g with stack := rest }).pushFrame (.throwing q))) := by
  obtain ⟨mk, hnamed⟩ := Cond.code_named hcode
  obtain ⟨methM, cM, hmethM, -, -, -, -, -, -, hsigM⟩ := Cond.code_spec hnamed hcode
  have hstatic : methM.isStatic = true := Cond.static_spec hnamed hmethM hstat
  obtain ⟨kP, hkP, -⟩ := className_of_methodNamed hnamed
  have hinitP : kP.init = .initialized := Cond.initialized_spec (findClass_of_methodNamed hnamed) hkP hinit
  obtain ⟨vm₁, X₁, hstep₁⟩ := X.invokestatic hexec hown hlink hnamed hmethM hstatic hkP hinitP hy (g := g) hg (argsL := argsL) (rest := rest) (hlen _ hsigM) hstack hdg
  rcases hK m meth c ⟨T.setVm vm₁, locs, cells, slots⟩ { g with stack := rest } (.invokestatic index) mk argsL.toArray X₁ hg hsize hdg hW (X₁.named hnamed) (hpre vm₁ X₁.warmed) with ⟨v, B, X', hpost, hsteps⟩ | ⟨q, B, X', hpost, hsteps⟩
  · exact Or.inl ⟨v, vm₁, B, X₁.warmed, X', hpost, fun target h => hstep₁ _ fun acts => by rw [doInvoke_state]; exact hsteps.trans h⟩
  · exact Or.inr ⟨q, vm₁, B, X₁.warmed, X', hpost, hstep₁ _ fun acts => by rw [doInvoke_state]; exact hsteps⟩
end Calls
theorem vx_cls {s : State} {T : State} {vm₁ : Vm} {E : String} {k : ClassId} (hW : s.WarmedH vm₁) (h : (T.setVm vm₁).vm.findClass E = some k) : s.vm.findClass E = some k := by
  have h1 : vm₁.findClass E = some k := h
  rw [hW.alike.findClass] at h1
  exact h1
/-- the method's frame g, with q thrown over it -/
def vx_W (p : Program) (l : Launch) (e : Env) (R : Room) (s : State) (m : MethodId) (args : Array Value) (below : List Frame) (meth : Method) (c : Code) (H : Heap) (locs : List Loc) (cells slots : Nat) (Q : State → Prop) (g : JFrame) (q : Addr) : Prop :=
  ∀ T : State, T.heap = H → Stand p l e R s m args below meth c T locs cells slots → ∃ t, Steps p.tables e below ((T.setTop g).pushFrame (.throwing q)) t ∧ Q t
def vx_Run (p : Program) (l : Launch) (e : Env) (R : Room) (s : State) (m : MethodId) (args : Array Value) (below : List Frame) (meth : Method) (c : Code) (H : Heap) (locs : List Loc) (cells slots mc ms : Nat) (g : JFrame) (rest : List Value) (Qa : State → Outcome → State → Prop) (XC : String → State → State → Prop) (free : Addr → Prop) : Prop :=
  ∀ T : State, T.heap = H → Stand p l e R s m args below meth c T locs cells slots →
    (∃ (v : Option Value) (st₀ t T' : State) (L : List Loc), st₀.heap = H ∧ Stand p l e R s m args below meth c T' (locs ++ L) (cells + mc) (slots + ms) ∧ (∀ q ∈ L, free q.base) ∧ T'.heap = t.heap ∧ T'.vm = t.vm ∧ Qa st₀ (.returned v) t ∧
      Goes p e below T g T' { g with pc := g.pc + 3, stack := v.toList ++ rest }) ∨
    (∃ (q : Addr) (st₀ t T' : State) (L : List Loc) (E : String) (ce : Cell), st₀.heap = H ∧ Stand p l e R s m args below meth c T' (locs ++ L) (cells + mc) (slots + ms) ∧ (∀ z ∈ L, free z.base) ∧ T'.heap = t.heap ∧ T'.vm = t.vm ∧ XC E st₀ t ∧ t.heap[q]? = some ce ∧ ce.vm = .none ∧ s.vm.findClass E = some ce.cls ∧
      Steps p.tables e below (T.setTop g) ((T'.setTop { g with stack := rest }).pushFrame (.throwing q)))
def vx_X {S : Type} (px : S → Prop) (B : String → S → State → Prop) (A : Nat → Prop) : String → State → State → Prop := fun E st t => ∃ u : S, px u ∧ B E u t ∧ va_F A st t
section Runs
variable {p : Program} {l : Launch} {e : Env} {R : Room} {s : State} {m : MethodId} {args : Array Value} {below : List Frame} {meth : Method} {c : Code} {H : Heap} {locs : List Loc} {cells slots : Nat}
variable {y : MethodName} {bytes cc : ByteArray} {maxL nL mc ms n index : Nat} {ret : Option FieldType} {ws : List Cond} {rm : Room} {Pc : Array Value → State → Prop} {Qc : Array Value → State → Outcome → State → Prop} {XC : String → State → State → Prop} {free : Addr → Prop} {Ts : List Cond} {own C : String} {b : Addr} {As rest : List Value} {g : JFrame}
theorem vx_callBack (cb : CallB R s args own index y bytes maxL ret ws rm mc ms n) (hM : vx_Met l y ws rm Pc Qc XC mc ms free) (hbl : FrameBlind Pc) : vx_Back l R p e below s args y 3 8 (PreOf R mc ms Pc) (PostOf Qc mc ms free) (vx_Post XC mc ms free) := by
  obtain ⟨hrc, hrs, hfr, hlo, hws, hcw, -, hini, -⟩ := cb
  exact vx_back (bytes := bytes) (maxL := maxL) (ret := ret) hM hbl hrc hrs hfr hlo hws hcw (fun a' U hW => word_at hW (Or.inl (by first | rfl | simp [Cond.onTables, Cond.keeps, Cond.steady])) hini)
theorem vx_runV (S : CallFix p m c cc nL s args Ts own) (hM : vx_Met l y ws rm Pc Qc XC mc ms free) (cw : CallW R s args own C index y bytes maxL ret ws rm mc ms n) (hp : PreV s H C b Pc As)
    (hg : g.method = m) (hn : As.length = n) (hsize : g.locals.size = nL) (hstack : g.stack = As.reverse ++ .ref b :: rest) (hW : 2 * g.monitorRoom + (rest.map fun v => v.category).sum ≤ 8) (hdg : decode cc g.pc = .ok (.invokevirtual index, 3)) (hf : cells + mc ≤ R.cells ∧ slots + ms ≤ R.slots) :
    vx_Run p l e R s m args below meth c H locs cells slots mc ms g rest (Qc (Value.ref b :: As).toArray) XC free := by
  have hK : vx_Back l R p e below s args y 3 8 (PreOf R mc ms Pc) (PostOf Qc mc ms free) (vx_Post XC mc ms free) := vx_callBack cw.1 hM hp.1
  obtain ⟨⟨-, -, -, -, -, -, hcode, -, hy, hlen, hl⟩, hin, hse⟩ := cw
  obtain ⟨hx, hb, hml, ho, -⟩ := S
  obtain ⟨-, ⟨cellB, hcB, hoB, hclB⟩, hPc⟩ := hp
  intro T hT X
  rcases vx_callV X hx (C := C) (bytes := bytes) (maxL := maxL) (ret := ret) ho hl hin hse hcode hy hK (by rw [hT]; exact hcB) hoB hclB hg (hsize.trans hml.symm) (argsL := As) (rest := rest) (fun sig h => hn.trans (hlen sig h)) hstack hW (by rw [hb]; exact hdg)
    (fun vm₁ hW₁ => ⟨hf.1, hf.2, hPc (T.setVm vm₁) hT hW₁⟩) with ⟨v, vm₁, ⟨U', l2, c2, s2⟩, hW₁, X', ⟨g', mk, t, L, e1, e2, hq, h1, hL, h2, h3⟩, st⟩ | ⟨q, vm₁, ⟨U', l2, c2, s2⟩, hW₁, X', ⟨g', mk, t, L, E, ce, e1, e2, hq, hce, hcv, hcl, h1, hL, h2, h3⟩, st⟩
  · dsimp only [Pt.U, Pt.locs, Pt.cells, Pt.slots] at X' e1 e2 h1 h2 h3 st
    subst h1; subst h2; subst h3
    exact Or.inl ⟨v, (T.setVm vm₁).calling g' mk (Value.ref b :: As).toArray, t, U', L, hT, X', hL, e1, e2, hq, st⟩
  · dsimp only [Pt.U, Pt.locs, Pt.cells, Pt.slots] at X' e1 e2 h1 h2 h3 st hcl
    subst h1; subst h2; subst h3
    exact Or.inr ⟨q, (T.setVm vm₁).calling g' mk (Value.ref b :: As).toArray, t, U', L, E, ce, hT, X', hL, e1, e2, hq, hce, hcv, vx_cls hW₁ hcl, st⟩
theorem vx_runS (S : CallFix p m c cc nL s args Ts own) (hM : vx_Met l y ws rm Pc Qc XC mc ms free) (cw : CallB R s args own index y bytes maxL ret ws rm mc ms n ∧ (Cond.static y).before args s = true) (hp : PreS s H Pc As)
    (hg : g.method = m) (hn : As.length = n) (hsize : g.locals.size = nL) (hstack : g.stack = As.reverse ++ rest) (hW : 2 * g.monitorRoom + (rest.map fun v => v.category).sum ≤ 8) (hdg : decode cc g.pc = .ok (.invokestatic index, 3)) (hf : cells + mc ≤ R.cells ∧ slots + ms ≤ R.slots) :
    vx_Run p l e R s m args below meth c H locs cells slots mc ms g rest (Qc As.toArray) XC free := by
  have hK : vx_Back l R p e below s args y 3 8 (PreOf R mc ms Pc) (PostOf Qc mc ms free) (vx_Post XC mc ms free) := vx_callBack cw.1 hM hp.1
  obtain ⟨⟨-, -, -, -, -, -, hcode, hini, hy, hlen, hl⟩, hstt⟩ := cw
  obtain ⟨hx, hb, hml, ho, -⟩ := S
  intro T hT X
  rcases vx_callS X hx (bytes := bytes) (maxL := maxL) (ret := ret) ho hl hstt hini hcode hy hK hg (hsize.trans hml.symm) (argsL := As) (rest := rest) (fun sig h => hn.trans (hlen sig h)) hstack hW (by rw [hb]; exact hdg)
    (fun vm₁ hW₁ => ⟨hf.1, hf.2, hp.2 (T.setVm vm₁) hT hW₁⟩) with ⟨v, vm₁, ⟨U', l2, c2, s2⟩, hW₁, X', ⟨g', mk, t, L, e1, e2, hq, h1, hL, h2, h3⟩, st⟩ | ⟨q, vm₁, ⟨U', l2, c2, s2⟩, hW₁, X', ⟨g', mk, t, L, E, ce, e1, e2, hq, hce, hcv, hcl, h1, hL, h2, h3⟩, st⟩
  · dsimp only [Pt.U, Pt.locs, Pt.cells, Pt.slots] at X' e1 e2 h1 h2 h3 st
    subst h1; subst h2; subst h3
    exact Or.inl ⟨v, (T.setVm vm₁).calling g' mk As.toArray, t, U', L, hT, X', hL, e1, e2, hq, st⟩
  · dsimp only [Pt.U, Pt.locs, Pt.cells, Pt.slots] at X' e1 e2 h1 h2 h3 st hcl
    subst h1; subst h2; subst h3
    exact Or.inr ⟨q, (T.setVm vm₁).calling g' mk As.toArray, t, U', L, E, ce, hT, X', hL, e1, e2, hq, hce, hcv, vx_cls hW₁ hcl, st⟩
end Runs
section Rows
variable {p : Program} {l : Launch} {e : Env} {R : Room} {s : State} {m : MethodId} {args : Array Value} {below : List Frame} {meth : Method} {c : Code} {H : Heap} {locs : List Loc} {cells slots : Nat} {Q : State → Prop}
variable {mc ms : Nat} {free : Addr → Prop} {A0 A1 : Nat → Prop} {H0 : Heap} {a : Array Value} {pc : Nat} {ls : Array Slot} {st0 rest : List Value}
theorem vx_keep {st₀ t T' : State} {L : List Loc} (h0 : st₀.heap = H) (e1 : T'.heap = t.heap) (hS : va_S A0 H0 H locs) (hA : ∀ q, q < H.size → A1 q → A0 q) (hf : ∀ q, free q → A0 q) (hL : ∀ q ∈ L, free q.base) (hF : va_F A1 st₀ t) :
    H.size ≤ T'.heap.size ∧ (∀ q : Nat, q < H.size → ¬ A1 q → T'.heap[q]? = H[q]?) ∧ va_S A0 H0 T'.heap (locs ++ L) := by
  obtain ⟨hz, hk⟩ := hF
  rw [h0] at hz hk
  exact ⟨by rw [e1]; exact hz, fun q h1 h2 => by rw [e1]; exact hk q h1 h2,
    ⟨Nat.le_trans hS.1 (by rw [e1]; exact hz), fun q h1 h2 => by rw [e1, hk q (Nat.lt_of_lt_of_le h1 hS.1) (fun z => h2 (hA q (Nat.lt_of_lt_of_le h1 hS.1) z))]; exact hS.2.1 q h1 h2, fun q hq => by
      rcases List.mem_append.mp hq with h | h
      · exact hS.2.2 q h
      · exact hf _ (hL q h)⟩⟩
theorem vx_calli {S SX : Type} {post : Int32 → S → Prop} {px : SX → Prop} {B : S → State → Prop} {BX : String → SX → State → Prop} {AX : Nat → Prop} (hr : vx_Run p l e R s m args below meth c H locs cells slots mc ms (F0 m pc ls st0) rest (va_Qi post B A1 a) (vx_X px BX AX) free) (hS : va_S A0 H0 H locs) (hA : ∀ q, q < H.size → A1 q → A0 q) (hf : ∀ q, free q → A0 q) (hAX : ∀ q, q < H.size → AX q → A0 q)
    (kx : ∀ (E : String) (ce : Cell) (q9 : Addr) (u : SX) (t : State) (H1 : Heap) (locs1 : List Loc), t.heap = H1 → s.vm.Alike t.vm → px u → BX E u t → H.size ≤ H1.size → (∀ q : Nat, q < H.size → ¬ AX q → H1[q]? = H[q]?) → va_S A0 H0 H1 locs1 → H1[q9]? = some ce → ce.vm = .none → s.vm.findClass E = some ce.cls → vx_W p l e R s m args below meth c H1 locs1 (cells + mc) (slots + ms) Q (F0 m pc ls rest) q9)
    (kk : ∀ (r : Int32) (u : S) (t : State) (H1 : Heap) (locs1 : List Loc), t.heap = H1 → s.vm.Alike t.vm → post r u → B u t → H.size ≤ H1.size → (∀ q : Nat, q < H.size → ¬ A1 q → H1[q]? = H[q]?) → va_S A0 H0 H1 locs1 → W p l e R s m args below meth c H1 locs1 (cells + mc) (slots + ms) Q (F0 m (pc + 3) ls (.int r :: rest))) : W p l e R s m args below meth c H locs cells slots Q (F0 m pc ls st0) := by
  intro T hT X
  rcases hr T hT X with ⟨v, st₀, t, T', L, h0, X', hL, e1, e2, ⟨⟨r, u, hv, hp, hb⟩, hF⟩, st⟩ | ⟨q, st₀, t, T', L, E, ce, h0, X', hL, e1, e2, ⟨u, hp, hb, hF⟩, hce, hcv, hcl, st⟩
  · cases hv
    obtain ⟨k1, k2, k3⟩ := vx_keep h0 e1 hS hA hf hL hF
    obtain ⟨t2, a1, b1⟩ := kk r u t T'.heap (locs ++ L) e1.symm (by rw [← e2]; exact X'.warmed.alike) hp hb k1 k2 k3 T' rfl X'
    exact ⟨t2, st t2 a1, b1⟩
  · obtain ⟨k1, k2, k3⟩ := vx_keep h0 e1 hS hAX hf hL hF
    obtain ⟨t2, a1, b1⟩ := kx E ce q u t T'.heap (locs ++ L) e1.symm (by rw [← e2]; exact X'.warmed.alike) hp hb k1 k2 k3 (by rw [e1]; exact hce) hcv hcl T' rfl X'
    exact ⟨t2, st.trans a1, b1⟩
theorem vx_calll {S SX : Type} {post : Int64 → S → Prop} {px : SX → Prop} {B : S → State → Prop} {BX : String → SX → State → Prop} {AX : Nat → Prop} (hr : vx_Run p l e R s m args below meth c H locs cells slots mc ms (F0 m pc ls st0) rest (va_Ql post B A1 a) (vx_X px BX AX) free) (hS : va_S A0 H0 H locs) (hA : ∀ q, q < H.size → A1 q → A0 q) (hf : ∀ q, free q → A0 q) (hAX : ∀ q, q < H.size → AX q → A0 q)
    (kx : ∀ (E : String) (ce : Cell) (q9 : Addr) (u : SX) (t : State) (H1 : Heap) (locs1 : List Loc), t.heap = H1 → s.vm.Alike t.vm → px u → BX E u t → H.size ≤ H1.size → (∀ q : Nat, q < H.size → ¬ AX q → H1[q]? = H[q]?) → va_S A0 H0 H1 locs1 → H1[q9]? = some ce → ce.vm = .none → s.vm.findClass E = some ce.cls → vx_W p l e R s m args below meth c H1 locs1 (cells + mc) (slots + ms) Q (F0 m pc ls rest) q9)
    (kk : ∀ (r : Int64) (u : S) (t : State) (H1 : Heap) (locs1 : List Loc), t.heap = H1 → s.vm.Alike t.vm → post r u → B u t → H.size ≤ H1.size → (∀ q : Nat, q < H.size → ¬ A1 q → H1[q]? = H[q]?) → va_S A0 H0 H1 locs1 → W p l e R s m args below meth c H1 locs1 (cells + mc) (slots + ms) Q (F0 m (pc + 3) ls (.long r :: rest))) : W p l e R s m args below meth c H locs cells slots Q (F0 m pc ls st0) := by
  intro T hT X
  rcases hr T hT X with ⟨v, st₀, t, T', L, h0, X', hL, e1, e2, ⟨⟨r, u, hv, hp, hb⟩, hF⟩, st⟩ | ⟨q, st₀, t, T', L, E, ce, h0, X', hL, e1, e2, ⟨u, hp, hb, hF⟩, hce, hcv, hcl, st⟩
  · cases hv
    obtain ⟨k1, k2, k3⟩ := vx_keep h0 e1 hS hA hf hL hF
    obtain ⟨t2, a1, b1⟩ := kk r u t T'.heap (locs ++ L) e1.symm (by rw [← e2]; exact X'.warmed.alike) hp hb k1 k2 k3 T' rfl X'
    exact ⟨t2, st t2 a1, b1⟩
  · obtain ⟨k1, k2, k3⟩ := vx_keep h0 e1 hS hAX hf hL hF
    obtain ⟨t2, a1, b1⟩ := kx E ce q u t T'.heap (locs ++ L) e1.symm (by rw [← e2]; exact X'.warmed.alike) hp hb k1 k2 k3 (by rw [e1]; exact hce) hcv hcl T' rfl X'
    exact ⟨t2, st.trans a1, b1⟩
theorem vx_callf {S SX : Type} {post : UInt32 → S → Prop} {px : SX → Prop} {B : S → State → Prop} {BX : String → SX → State → Prop} {AX : Nat → Prop} (hr : vx_Run p l e R s m args below meth c H locs cells slots mc ms (F0 m pc ls st0) rest (va_Qf post B A1 a) (vx_X px BX AX) free) (hS : va_S A0 H0 H locs) (hA : ∀ q, q < H.size → A1 q → A0 q) (hf : ∀ q, free q → A0 q) (hAX : ∀ q, q < H.size → AX q → A0 q)
    (kx : ∀ (E : String) (ce : Cell) (q9 : Addr) (u : SX) (t : State) (H1 : Heap) (locs1 : List Loc), t.heap = H1 → s.vm.Alike t.vm → px u → BX E u t → H.size ≤ H1.size → (∀ q : Nat, q < H.size → ¬ AX q → H1[q]? = H[q]?) → va_S A0 H0 H1 locs1 → H1[q9]? = some ce → ce.vm = .none → s.vm.findClass E = some ce.cls → vx_W p l e R s m args below meth c H1 locs1 (cells + mc) (slots + ms) Q (F0 m pc ls rest) q9)
    (kk : ∀ (r : UInt32) (u : S) (t : State) (H1 : Heap) (locs1 : List Loc), t.heap = H1 → s.vm.Alike t.vm → post r u → B u t → H.size ≤ H1.size → (∀ q : Nat, q < H.size → ¬ A1 q → H1[q]? = H[q]?) → va_S A0 H0 H1 locs1 → W p l e R s m args below meth c H1 locs1 (cells + mc) (slots + ms) Q (F0 m (pc + 3) ls (.float r :: rest))) : W p l e R s m args below meth c H locs cells slots Q (F0 m pc ls st0) := by
  intro T hT X
  rcases hr T hT X with ⟨v, st₀, t, T', L, h0, X', hL, e1, e2, ⟨⟨r, u, hv, hp, hb⟩, hF⟩, st⟩ | ⟨q, st₀, t, T', L, E, ce, h0, X', hL, e1, e2, ⟨u, hp, hb, hF⟩, hce, hcv, hcl, st⟩
  · cases hv
    obtain ⟨k1, k2, k3⟩ := vx_keep h0 e1 hS hA hf hL hF
    obtain ⟨t2, a1, b1⟩ := kk r u t T'.heap (locs ++ L) e1.symm (by rw [← e2]; exact X'.warmed.alike) hp hb k1 k2 k3 T' rfl X'
    exact ⟨t2, st t2 a1, b1⟩
  · obtain ⟨k1, k2, k3⟩ := vx_keep h0 e1 hS hAX hf hL hF
    obtain ⟨t2, a1, b1⟩ := kx E ce q u t T'.heap (locs ++ L) e1.symm (by rw [← e2]; exact X'.warmed.alike) hp hb k1 k2 k3 (by rw [e1]; exact hce) hcv hcl T' rfl X'
    exact ⟨t2, st.trans a1, b1⟩
theorem vx_calld {S SX : Type} {post : UInt64 → S → Prop} {px : SX → Prop} {B : S → State → Prop} {BX : String → SX → State → Prop} {AX : Nat → Prop} (hr : vx_Run p l e R s m args below meth c H locs cells slots mc ms (F0 m pc ls st0) rest (va_Qd post B A1 a) (vx_X px BX AX) free) (hS : va_S A0 H0 H locs) (hA : ∀ q, q < H.size → A1 q → A0 q) (hf : ∀ q, free q → A0 q) (hAX : ∀ q, q < H.size → AX q → A0 q)
    (kx : ∀ (E : String) (ce : Cell) (q9 : Addr) (u : SX) (t : State) (H1 : Heap) (locs1 : List Loc), t.heap = H1 → s.vm.Alike t.vm → px u → BX E u t → H.size ≤ H1.size → (∀ q : Nat, q < H.size → ¬ AX q → H1[q]? = H[q]?) → va_S A0 H0 H1 locs1 → H1[q9]? = some ce → ce.vm = .none → s.vm.findClass E = some ce.cls → vx_W p l e R s m args below meth c H1 locs1 (cells + mc) (slots + ms) Q (F0 m pc ls rest) q9)
    (kk : ∀ (r : UInt64) (u : S) (t : State) (H1 : Heap) (locs1 : List Loc), t.heap = H1 → s.vm.Alike t.vm → post r u → B u t → H.size ≤ H1.size → (∀ q : Nat, q < H.size → ¬ A1 q → H1[q]? = H[q]?) → va_S A0 H0 H1 locs1 → W p l e R s m args below meth c H1 locs1 (cells + mc) (slots + ms) Q (F0 m (pc + 3) ls (.double r :: rest))) : W p l e R s m args below meth c H locs cells slots Q (F0 m pc ls st0) := by
  intro T hT X
  rcases hr T hT X with ⟨v, st₀, t, T', L, h0, X', hL, e1, e2, ⟨⟨r, u, hv, hp, hb⟩, hF⟩, st⟩ | ⟨q, st₀, t, T', L, E, ce, h0, X', hL, e1, e2, ⟨u, hp, hb, hF⟩, hce, hcv, hcl, st⟩
  · cases hv
    obtain ⟨k1, k2, k3⟩ := vx_keep h0 e1 hS hA hf hL hF
    obtain ⟨t2, a1, b1⟩ := kk r u t T'.heap (locs ++ L) e1.symm (by rw [← e2]; exact X'.warmed.alike) hp hb k1 k2 k3 T' rfl X'
    exact ⟨t2, st t2 a1, b1⟩
  · obtain ⟨k1, k2, k3⟩ := vx_keep h0 e1 hS hAX hf hL hF
    obtain ⟨t2, a1, b1⟩ := kx E ce q u t T'.heap (locs ++ L) e1.symm (by rw [← e2]; exact X'.warmed.alike) hp hb k1 k2 k3 (by rw [e1]; exact hce) hcv hcl T' rfl X'
    exact ⟨t2, st.trans a1, b1⟩
theorem vx_callv {S SX : Type} {post : S → Prop} {px : SX → Prop} {B : S → State → Prop} {BX : String → SX → State → Prop} {AX : Nat → Prop} (hr : vx_Run p l e R s m args below meth c H locs cells slots mc ms (F0 m pc ls st0) rest (va_Qv post B A1 a) (vx_X px BX AX) free) (hS : va_S A0 H0 H locs) (hA : ∀ q, q < H.size → A1 q → A0 q) (hf : ∀ q, free q → A0 q) (hAX : ∀ q, q < H.size → AX q → A0 q)
    (kx : ∀ (E : String) (ce : Cell) (q9 : Addr) (u : SX) (t : State) (H1 : Heap) (locs1 : List Loc), t.heap = H1 → s.vm.Alike t.vm → px u → BX E u t → H.size ≤ H1.size → (∀ q : Nat, q < H.size → ¬ AX q → H1[q]? = H[q]?) → va_S A0 H0 H1 locs1 → H1[q9]? = some ce → ce.vm = .none → s.vm.findClass E = some ce.cls → vx_W p l e R s m args below meth c H1 locs1 (cells + mc) (slots + ms) Q (F0 m pc ls rest) q9)
    (kk : ∀ (u : S) (t : State) (H1 : Heap) (locs1 : List Loc), t.heap = H1 → s.vm.Alike t.vm → post u → B u t → H.size ≤ H1.size → (∀ q : Nat, q < H.size → ¬ A1 q → H1[q]? = H[q]?) → va_S A0 H0 H1 locs1 → W p l e R s m args below meth c H1 locs1 (cells + mc) (slots + ms) Q (F0 m (pc + 3) ls (rest))) : W p l e R s m args below meth c H locs cells slots Q (F0 m pc ls st0) := by
  intro T hT X
  rcases hr T hT X with ⟨v, st₀, t, T', L, h0, X', hL, e1, e2, ⟨⟨u, hv, hp, hb⟩, hF⟩, st⟩ | ⟨q, st₀, t, T', L, E, ce, h0, X', hL, e1, e2, ⟨u, hp, hb, hF⟩, hce, hcv, hcl, st⟩
  · cases hv
    obtain ⟨k1, k2, k3⟩ := vx_keep h0 e1 hS hA hf hL hF
    obtain ⟨t2, a1, b1⟩ := kk u t T'.heap (locs ++ L) e1.symm (by rw [← e2]; exact X'.warmed.alike) hp hb k1 k2 k3 T' rfl X'
    exact ⟨t2, st t2 a1, b1⟩
  · obtain ⟨k1, k2, k3⟩ := vx_keep h0 e1 hS hAX hf hL hF
    obtain ⟨t2, a1, b1⟩ := kx E ce q u t T'.heap (locs ++ L) e1.symm (by rw [← e2]; exact X'.warmed.alike) hp hb k1 k2 k3 (by rw [e1]; exact hce) hcv hcl T' rfl X'
    exact ⟨t2, st.trans a1, b1⟩
/-- caught by the row x of this method's table; the rows ahead don't take it -/
theorem vx_catch {own name : String} {E : String} {ce : Cell} {q : Addr} (hown : s.vm.findClass own = some m.cls) (pre : List ExceptionTableEntry) (x : ExceptionTableEntry) (suf : List ExceptionTableEntry) (hsplit : c.exceptionTable.toList = pre ++ x :: suf)
    (hpass : ∀ z ∈ pre, covers z pc = false ∨ (z.catchType ≠ 0 ∧ ∃ nm : String, (Cond.classLink own z.catchType nm).before args s = true ∧ va_Nc E nm s)) (hx : covers x pc = true) (h0 : x.catchType ≠ 0)
    (hlink : (Cond.classLink own x.catchType name).before args s = true) (hcast : (Cond.castable E name).before args s = true) (hcell : H[q]? = some ce) (hv : ce.vm = .none) (hcl : s.vm.findClass E = some ce.cls)
    (kk : W p l e R s m args below meth c H locs cells slots Q (F0 m x.handlerPc ls [.ref q])) : vx_W p l e R s m args below meth c H locs cells slots Q (F0 m pc ls rest) q := by
  intro T hT X
  have hpl : e.platform.magicAccessors = ({} : Platform).magicAccessors := by rw [X.admits.platform]
  obtain ⟨c3, c4, hc3, hc4, hasg⟩ := Cond.castable_spec hcast
  cases Option.some.inj (hc3.symm.trans hcl)
  obtain ⟨c5, hc5, hcl5⟩ := Cond.classLink_spec hown hlink e.platform hpl
  cases Option.some.inj (hc4.symm.trans hc5)
  obtain ⟨vm', X', st⟩ := X.thenCaughtThrough q (g := F0 m pc ls rest) rfl (Steps.refl _) (by rw [hT]; exact hcell) (by rw [hv]; rfl) (by obtain ⟨k9, h9, -⟩ := Vm.findClass_spec hcl; exact ⟨k9, h9⟩) pre x suf hsplit
    (fun z hz => by
      rcases hpass z hz with h | ⟨hz0, nm, hl1, hn1⟩
      · exact Or.inl h
      · obtain ⟨c6, hc6, hcl6⟩ := Cond.classLink_spec hown hl1 e.platform hpl
        obtain ⟨a8, b8, h1, h2, h3⟩ := hn1
        cases Option.some.inj (h1.symm.trans hcl)
        cases Option.some.inj (h2.symm.trans hc6)
        exact Or.inr ⟨hz0, _, hcl6, h3⟩) hx (Or.inr ⟨h0, c4, hcl5, hasg⟩)
  obtain ⟨t, a1, b1⟩ := kk (T.setVm vm') hT X'
  exact ⟨t, st.trans a1, b1⟩
end Rows
section Ends
variable {p : Program} {l : Launch} {e : Env} {R : Room} {s : State} {m : MethodId} {args : Array Value} {below : List Frame} {meth : Method} {c : Code} {H : Heap} {locs : List Loc} {cells slots : Nat} {Q : State → Prop}
variable {mc ms : Nat} {free : Addr → Prop} {A0 A1 : Nat → Prop} {H0 : Heap} {a : Array Value} {ls : Array Slot} {st0 rest : List Value}
variable {Qc : Array Value → State → Outcome → State → Prop} {XC : String → State → State → Prop}
/-- what a body that may throw owes at its end -/
def vx_MQ (below : List Frame) (Qc : Array Value → State → Outcome → State → Prop) (XC : String → State → State → Prop) (a : Array Value) (s : State) (mc ms : Nat) (free : Addr → Prop) : State → Prop := fun t =>
  ∃ o, t.status = .running ∧ Ended t below o ∧ vx_Q Qc XC mc ms free a s o t
theorem vx_ret {g : JFrame} {mc ms : Nat} (k : W p l e R s m args below meth c H locs cells slots (MQ below Qc args s mc ms free) g) : W p l e R s m args below meth c H locs cells slots (vx_MQ below Qc XC args s mc ms free) g := by
  intro T hT X
  obtain ⟨t, a1, o, b1, b2, b3, b4⟩ := k T hT X
  exact ⟨t, a1, o, b1, b2, Or.inl ⟨b3, b4⟩⟩
/-- not caught here: it goes on to the caller -/
theorem vx_widen {g : JFrame} {q : Addr} {k n : Nat} (h1 : cells ≤ k) (h2 : slots ≤ n) (kk : vx_W p l e R s m args below meth c H locs k n Q g q) : vx_W p l e R s m args below meth c H locs cells slots Q g q := fun T hT X => kk T hT (stand_widen X h1 h2)
theorem vx_out {pc : Nat} {E : String} {ce : Cell} {q : Addr} {mc ms : Nat} (hout : ∀ x ∈ c.exceptionTable.toList, covers x pc = false) (hlocks : meth.locks = false) (hcell : H[q]? = some ce) (hv : ce.vm = .none) (hcl : s.vm.findClass E = some ce.cls)
    (hx : ∀ t : State, t.heap = H → s.vm.Alike t.vm → XC E s t) (hf : ∀ z ∈ locs, free z.base) (hc : cells ≤ mc) (hs : slots ≤ ms) :
    vx_W p l e R s m args below meth c H locs cells slots (vx_MQ below Qc XC args s mc ms free) (F0 m pc ls rest) q := by
  intro T hT X
  obtain ⟨st1, hrun, hend, hW, hsm⟩ := X.leaveThrown q (g := F0 m pc ls rest) rfl rfl rfl hout hlocks
  have hcell9 : (T.setFrames (.throwing q :: below)).heap[q]? = some ce := by
    show T.heap[q]? = some ce
    rw [hT]; exact hcell
  exact ⟨_, st1, .threw q, hrun, hend, Or.inr ⟨q, rfl, E, ce, locs, hx _ hT hW.alike, hcell9, hv, hcl, hW, hsm.mono hc hs, hf⟩⟩
theorem vx_frame {U : State} {k n : Nat} (h : s.sameButNew ({ U with vm := s.vm } : State) locs k n) : s.heap.size ≤ U.heap.size ∧ ∀ q : Nat, q < s.heap.size → (∀ z ∈ locs, z.base ≠ q) → U.heap[q]? = s.heap[q]? := by
  obtain ⟨-, h2, -, -, -, h6⟩ := h
  refine ⟨h2, fun q hq hz => ?_⟩
  obtain ⟨c9, e1, e2, e3, e4⟩ := h6 q _ (Array.getElem?_eq_getElem hq)
  have hs : c9.slots = (s.heap[q]).slots := Array.ext_getElem? fun i => e4 i fun hm => hz _ hm rfl
  have h9 : c9 = s.heap[q] := by
    rw [hs] at e2
    exact e2
  have e5 : U.heap[q]? = some c9 := e1
  rw [e5, h9, Array.getElem?_eq_getElem hq]
/-- the words of a throw but the four that speak of the heap -/
def vx_no (w : Cond) : Bool := decide (w ≠ .isRef (.static Bundle.tN "UNASSIGNED_STACK" Bundle.steD)) && decide (w ≠ .isRef (.static Bundle.tN "SUPPRESSED_SENTINEL" Bundle.listD)) && decide (w ≠ .laysStatic Bundle.tN "UNASSIGNED_STACK" Bundle.steD) && decide (w ≠ .laysStatic Bundle.tN "SUPPRESSED_SENTINEL" Bundle.listD)
def vx_at0 (own : String) (ic : Nat) (X : String) (names : List String) : List Cond := (Bundle.ownAtoms0 own ic X names).filter vx_no
def vx_atS (own : String) (ic : Nat) (X : String) (names : List String) : List Cond := (Bundle.ownAtoms own ic X names).filter vx_no
/-- a word that the tables alone decide, or a good one -/
def vx_ot (w : Cond) : Bool := w.onTables || goodWord w
theorem vx_ot_at {args a' : Array Value} {s U : State} {w : Cond} (hW : s.WarmedH U.vm) (hvm : s.vm = U.vm) (hg : vx_ot w = true) (h : w.before args s = true) : w.before a' U = true := by
  simp only [vx_ot, Bool.or_eq_true] at hg
  rcases hg with hg | hg
  · exact va_tabs hg hvm h
  · exact word_at hW (good_of_word hg) h
/-- a list's words: the good ones out of the method's own list, the others by premises of their own -/
theorem vx_hat {args : Array Value} {s : State} {L B : List Cond} (h1 : ∀ w ∈ L.filter goodWord, w.before args s = true) (h2 : ∀ w ∈ L.filter (fun w => !goodWord w), w ∈ B) (h3 : ∀ w ∈ B, w.before args s = true) : ∀ w ∈ L, w.before args s = true := by
  intro w hw
  by_cases g : goodWord w = true
  · exact h1 w (List.mem_filter.mpr ⟨hw, g⟩)
  · refine h3 w (h2 w (List.mem_filter.mpr ⟨hw, ?_⟩))
    show (!goodWord w) = true
    cases hgw : goodWord w
    · rfl
    · exact absurd hgw g
theorem vx_c {args : Array Value} {s : State} {w : Cond} {B : List Cond} (h : w.before args s = true) (t : ∀ w ∈ B, w.before args s = true) : ∀ w' ∈ w :: B, w'.before args s = true := fun w' h' => (List.mem_cons.mp h').elim (fun e => by rw [e]; exact h) (t w')
theorem vx_n {args : Array Value} {s : State} : ∀ w ∈ ([] : List Cond), w.before args s = true := fun _ h => nomatch h
theorem vx_own {args : Array Value} {s : State} {L : List Cond} (h1 : ∀ w ∈ L.filter vx_no, w.before args s = true)
    (hU : (Cond.isRef (.static Bundle.tN "UNASSIGNED_STACK" Bundle.steD)).before args s = true) (hN : (Cond.isRef (.static Bundle.tN "SUPPRESSED_SENTINEL" Bundle.listD)).before args s = true)
    (lU : (Cond.laysStatic Bundle.tN "UNASSIGNED_STACK" Bundle.steD).before args s = true) (lN : (Cond.laysStatic Bundle.tN "SUPPRESSED_SENTINEL" Bundle.listD).before args s = true) : ∀ w ∈ L, w.before args s = true := by
  intro w hw
  by_cases e1 : w = .isRef (.static Bundle.tN "UNASSIGNED_STACK" Bundle.steD)
  · rw [e1]; exact hU
  · by_cases e2 : w = .isRef (.static Bundle.tN "SUPPRESSED_SENTINEL" Bundle.listD)
    · rw [e2]; exact hN
    · by_cases e3 : w = .laysStatic Bundle.tN "UNASSIGNED_STACK" Bundle.steD
      · rw [e3]; exact lU
      · by_cases e4 : w = .laysStatic Bundle.tN "SUPPRESSED_SENTINEL" Bundle.listD
        · rw [e4]; exact lN
        · exact h1 w (List.mem_filter.mpr ⟨hw, by unfold vx_no; rw [decide_eq_true e1, decide_eq_true e2, decide_eq_true e3, decide_eq_true e4]; rfl⟩)
/-- where a static field lies, its class's statics cell in H -/
def vx_L (C n d : String) (A : Nat → Prop) (U : State) (H : Heap) : Prop := ∃ (c : ClassId) (k : Class) (i : Nat) (f : Field) (a : Nat) (cell : Cell), U.vm.findClass C = some c ∧ U.fieldFound? C n d = some (c, k, i, f) ∧ f.isStatic = true ∧ k.statics = some a ∧ H[a]? = some cell ∧ cell.vm.isStatics = true ∧ cell.cls = c ∧ f.slot < cell.slots.size ∧ k.staticTypes[f.slot]? = some f.type ∧ ¬ A a
theorem vx_L.moved {C n d : String} {A : Nat → Prop} {u U : State} {H : Heap} (hvm : u.vm.Alike U.vm) (h : vx_L C n d A u H) : vx_L C n d A U H := by
  obtain ⟨c, k, i, f, a, cell, h1, h2, h3, h4, h5, h6, h7, h8, h9, h10⟩ := h
  obtain ⟨k', hi', he⟩ := State.fieldFound?_setVm hvm h2
  exact ⟨c, k', i, f, a, cell, by rw [hvm.findClass]; exact h1, hi', h3, by rw [he]; exact h4, h5, h6, h7, h8, by rw [he]; exact h9, h10⟩
theorem vx_L.kept {C n d : String} {A : Nat → Prop} {U : State} {H H1 : Heap} (h : vx_L C n d A U H) (hq : ∀ a : Nat, a < H.size → ¬ A a → H1[a]? = H[a]?) : vx_L C n d A U H1 := by
  obtain ⟨c, k, i, f, a, cell, h1, h2, h3, h4, h5, h6, h7, h8, h9, h10⟩ := h
  exact ⟨c, k, i, f, a, cell, h1, h2, h3, h4, by rw [hq a (Array.getElem?_eq_some_iff.mp h5).1 h10]; exact h5, h6, h7, h8, h9, h10⟩
theorem vx_L.narrow {C n d : String} {A B : Nat → Prop} {U : State} {H : Heap} (h : vx_L C n d A U H) (hAB : ∀ q, B q → A q) : vx_L C n d B U H := by
  obtain ⟨c, k, i, f, a, cell, h1, h2, h3, h4, h5, h6, h7, h8, h9, h10⟩ := h
  exact ⟨c, k, i, f, a, cell, h1, h2, h3, h4, h5, h6, h7, h8, h9, fun z => h10 (hAB _ z)⟩
theorem vx_L.word {C n d : String} {A : Nat → Prop} {s : State} {args : Array Value} (h : vx_L C n d A s s.heap) : (Cond.laysStatic C n d).before args s = true := by
  obtain ⟨c, k, i, f, a, cell, h1, h2, h3, h4, h5, h6, h7, h8, h9, -⟩ := h
  show (Cond.laysStatic C n d).holds args s none s [] = true
  exact Cond.laysStatic_of h1 h2 h3 h4 h5 h6 h7 h8 h9
/-- .. and what it holds: null or some reference -/
def vx_Zq (C n d : String) (A : Nat → Prop) (U : State) (H : Heap) : Prop := va_Zq C n d A U H ∧ vx_L C n d A U H
theorem vx_Zq.moved {C n d : String} {A : Nat → Prop} {u U : State} {H : Heap} (hvm : u.vm.Alike U.vm) (h : vx_Zq C n d A u H) : vx_Zq C n d A U H := ⟨va_Zq.moved hvm h.1, vx_L.moved hvm h.2⟩
theorem vx_Zq.kept {C n d : String} {A : Nat → Prop} {U : State} {H H1 : Heap} (h : vx_Zq C n d A U H) (hq : ∀ a : Nat, a < H.size → ¬ A a → H1[a]? = H[a]?) : vx_Zq C n d A U H1 := ⟨va_Zq.kept h.1 hq, vx_L.kept h.2 hq⟩
theorem vx_Zq.narrow {C n d : String} {A B : Nat → Prop} {U : State} {H : Heap} (h : vx_Zq C n d A U H) (hAB : ∀ q, B q → A q) : vx_Zq C n d B U H := ⟨va_Zq.narrow h.1 hAB, vx_L.narrow h.2 hAB⟩
theorem vx_Zqof {args : Array Value} {s : State} {C n d : String} {A : Nat → Prop} (hl : (Cond.laysStatic C n d).before args s = true) (hini : (Cond.initialized C).before args s = true) (h : (Cond.isRef (.static C n d)).before args s = true) (hA : ∀ a : Nat, a < s.heap.size → ¬ A a) : vx_Zq C n d A s s.heap := by
  refine ⟨va_Zqof hl hini h hA, ?_⟩
  obtain ⟨c, k, i, f, a, cell, h1, h2, h3, h4, h5, h6, h7, h8, h9⟩ := Cond.laysStatic_spec hl
  exact ⟨c, k, i, f, a, cell, h1, h2, h3, h4, h5, h6, h7, h8, h9, hA a (Array.getElem?_eq_some_iff.mp h5).1⟩
theorem vx_isRef {C n d : String} {v : Value} {A : Nat → Prop} {s : State} {args : Array Value} (h : va_Z C n d v A s s.heap) (hv : v.isRef = true) : (Cond.isRef (.static C n d)).before args s = true := by
  obtain ⟨cf, kf, fi, f, a, cell, h1, h2, h3, h4, h5, h6, h7, -⟩ := h
  have he : (Term.static C n d).eval args s none [] s = some v := by
    simp [Term.eval, State.fieldNamed?, h1, h2, h4, h5, h6, h7]
  simp only [Cond.before, Cond.holds, Cond.value, he]
  cases v <;> simp_all [Value.isRef]
theorem vx_isRefq {C n d : String} {A : Nat → Prop} {s : State} {args : Array Value} (h : va_Zq C n d A s s.heap) : (Cond.isRef (.static C n d)).before args s = true := by
  rcases h with h | ⟨t, h⟩
  · exact vx_isRef h rfl
  · exact vx_isRef h rfl
/-- the same frame, seen from here: as if the method were called anew in this heap -/
theorem vx_rebase {T : State} (X : Stand p l e R s m args below meth c T locs cells slots) {R' : Room} (hf : R'.frames ≤ R.frames) (hl : R'.locals ≤ R.locals) (hc : cells + R'.cells ≤ R.cells) (hs : slots + R'.slots ≤ R.slots) :
    Stand p l e R' ((T.setVm s.vm).setFrames (.invoking m args :: below)) m args below meth c T [] 0 0 := by
  have htop : (T.setVm s.vm).topJava?.isSome := X.here.top
  have hF : ((T.setVm s.vm).setFrames (.invoking m args :: below)).frames = .invoking m args :: below := State.frames_setFrames _ (State.cur_lt_of_top htop)
  obtain ⟨g₀, hg0⟩ := Option.isSome_iff_exists.mp htop
  obtain ⟨r, hr⟩ := State.topJava?_eq_some.mp hg0
  have hl9 : e.platform.stackLimits (T.setVm s.vm).me = e.platform.stackLimits s.me := X.limits
  have hb9 : (T.setVm s.vm).me.stackBytes = s.me.stackBytes := X.bytes
  refine ⟨X.admits, X.cas, X.clock, hF, ?_, X.hears, X.method, X.code, X.here, X.tail, X.warmed, ?_, ?_, ?_⟩
  · have h := X.room
    have hU : ((T.setVm s.vm).setFrames (.invoking m args :: below)).localsInUse = s.localsInUse := by
      rw [State.localsInUse_invoking hF (meth := meth) (c := c) X.method X.code, State.localsInUse_invoking X.frames X.method X.code]
    simp only [State.hasRoom, Bool.and_eq_true, decide_eq_true_eq] at h ⊢
    obtain ⟨⟨⟨⟨h1, h2, h3, h4, h5, h6⟩, h7⟩, h8⟩, h9⟩ := h
    rw [X.frames, List.length_cons] at h2 h3
    have q1 := X.heapSize
    have q2 := X.used
    simp only [hF, hU, List.length_cons, State.stackLimits_setFrames, State.stackBytes_setFrames, hl9, hb9]
    refine ⟨⟨⟨⟨by omega, by omega, by omega, by omega, by omega, h6⟩, ?_⟩, ?_⟩, X.book⟩
    · show T.heap.size + R'.cells ≤ e.platform.maxCells
      omega
    · show T.slotsUsed + R'.slots ≤ e.platform.maxSlots
      omega
  · rw [State.stackLimits_setFrames]; rfl
  · rw [State.stackBytes_setFrames]; rfl
  · refine ⟨?_, Nat.le_refl _, Nat.le_refl _, ?_, ?_, fun a c9 h9 => ⟨c9, h9, rfl, rfl, fun _ _ => rfl⟩⟩
    · obtain ⟨t, ht, -⟩ := State.frames_cons hr
      show T.setVm s.vm = { ((T.setVm s.vm).setFrames (.invoking m args :: below)).setFrames (T.setVm s.vm).frames with heap := T.heap, slotsUsed := T.slotsUsed }
      rw [State.setFrames_setFrames, State.setFrames_self ht]
      rfl
    · show T.slotsUsed = T.slotsUsed + ((T.heap.toList.drop T.heap.size).map (·.slots.size)).sum
      rw [List.drop_eq_nil_of_le (Nat.le_of_eq Array.length_toList)]
      rfl
    · show ((T.heap.toList.drop T.heap.size).map (·.slots.size)).sum ≤ 0
      rw [List.drop_eq_nil_of_le (Nat.le_of_eq Array.length_toList)]
      exact Nat.le_refl _
/-- 'throw new E()': new; dup; invokespecial; athrow -/
theorem vx_throw0 {cc : ByteArray} {pc : Nat} (hexec : p.tables.exec = Jvm.exec) (hb : c.code = cc) (hl : l.stackTraces = false) {own cls : String} {names : List String} {ik ic mc ms : Nat} {A : Nat → Prop}
    (hown : s.vm.findClass own = some m.cls) (hcls : Bundle.fit cls = true) (hnames : ∀ n ∈ names, Bundle.fit n = true)
    (hk : (Cond.classLink own ik cls).before args s = true) (hini : (Cond.initialized cls).before args s = true) (hat : ∀ w ∈ vx_at0 own ic cls names, w.before args s = true)
    (hgood : ∀ w ∈ Cond.classLink own ik cls :: Cond.initialized cls :: vx_at0 own ic cls names, vx_ot w = true)
    (hU : vx_Zq Bundle.tN "UNASSIGNED_STACK" Bundle.steD A s s.heap) (hN : vx_Zq Bundle.tN "SUPPRESSED_SENTINEL" Bundle.listD A s s.heap) (hS : va_S A s.heap H locs) (hsize : ls.size = c.maxLocals)
    (d0 : decode cc pc = .ok (.new ik, 3)) (d3 : decode cc (pc + 3) = .ok (.dup, 1)) (d4 : decode cc (pc + 4) = .ok (.invokespecial ic, 3)) (d7 : decode cc (pc + 7) = .ok (.athrow, 1))
    (hout : ∀ x ∈ c.exceptionTable.toList, covers x (pc + 7) = false)
    (hRframes : names.length + 3 < R.frames) (hRlocals : (rest.map fun v => v.category).sum + (13 * (names.length + 1) + 42) ≤ R.locals) (hRcells : cells + 1 ≤ R.cells) (hRslots : slots + 6 ≤ R.slots) (hlocks : meth.locks = false)
    (hx : ∀ t : State, s.vm.Alike t.vm → H.size ≤ t.heap.size → (∀ q : Nat, q < H.size → t.heap[q]? = H[q]?) → XC cls s t)
    (hf : ∀ z ∈ locs, free z.base) (hc : cells + 1 ≤ mc) (hs : slots + 6 ≤ ms) :
    W p l e R s m args below meth c H locs cells slots (vx_MQ below Qc XC args s mc ms free) (F0 m pc ls rest) := by
  intro T hT X
  have htr : e.platform.stackTraces = false := (show e.platform.stackTraces = l.stackTraces by rw [X.admits.platform]).trans hl
  have Y := vx_rebase X (R' := { frames := R.frames, locals := R.locals, cells := 1, slots := 6 }) (Nat.le_refl _) (Nat.le_refl _) hRcells hRslots
  obtain ⟨s', hA⟩ : ∃ z, z = (T.setVm s.vm).setFrames (.invoking m args :: below) := ⟨_, rfl⟩
  rw [← hA] at Y
  have hvm : s'.vm = s.vm := by rw [hA]; rfl
  have hhp : s'.heap = H := by rw [hA]; exact hT
  have hW0 : s.WarmedH s'.vm := by rw [hvm]; exact State.WarmedH.refl s
  have hat' : ∀ w ∈ vx_at0 own ic cls names, w.before args s' = true := fun w hw => vx_ot_at hW0 hvm.symm (hgood w (List.mem_cons_of_mem _ (List.mem_cons_of_mem _ hw))) (hat w hw)
  have hk' : (Cond.classLink own ik cls).before args s' = true := vx_ot_at hW0 hvm.symm (hgood _ List.mem_cons_self) hk
  have hini' : (Cond.initialized cls).before args s' = true := vx_ot_at hW0 hvm.symm (hgood _ (List.mem_cons_of_mem _ List.mem_cons_self)) hini
  have hU' : vx_Zq Bundle.tN "UNASSIGNED_STACK" Bundle.steD A s' s'.heap := by rw [hhp]; exact vx_Zq.moved hW0.alike (hU.kept hS.2.1)
  have hN' : vx_Zq Bundle.tN "SUPPRESSED_SENTINEL" Bundle.listD A s' s'.heap := by rw [hhp]; exact vx_Zq.moved hW0.alike (hN.kept hS.2.1)
  have h : ∀ w ∈ Bundle.ownAtoms0 own ic cls names, w.before args s' = true := vx_own hat' (vx_isRefq hU'.1) (vx_isRefq hN'.1) hU'.2.word hN'.2.word
  have hown' : s'.vm.findClass own = some m.cls := by rw [hvm]; exact hown
  have hins : (Cond.instantiable cls 6).before args s' = true := h _ (by simp [Bundle.ownAtoms0])
  obtain ⟨vm₁, cX, kX, hfX, hkX, -, -, X₁, st1⟩ := Y.newCold hexec (own := own) (C := cls) (index := ik) (n := 6) hown' hk' hins hini'
    (g := F0 m pc ls rest) rfl (by rw [hb]; exact d0) (Nat.le_refl _) (Nat.le_refl _)
  generalize hT1 : (T.setVm vm₁).pushCell { cls := cX, slots := kX.instanceTypes.map defaultValue, vm := .none } = T1 at X₁ st1
  have hcat : (Value.ref T.heap.size).category = 1 := rfl
  have hcellA : T1.heap[T.heap.size]? = some (freshCell cX kX) := by rw [← hT1]; exact State.heap_pushCell_size _ _
  have d3' : decode c.code (pc + 3) = .ok (.dup, 1) := by rw [hb]; exact d3
  obtain ⟨U, hsteps, hrun, hend, hW, hsame, ce, hce, hO⟩ := X₁.ctorThrow0 hexec htr (own := own) (cls := cls) (names := names) (ic := ic) hown' hcls hnames h (fun x hx => nomatch hx) hfX hkX hcellA (by rw [hhp, hT]; exact Nat.le_refl _)
    (g := { method := m, pc := pc + 4, locals := ls, stack := .ref T.heap.size :: .ref T.heap.size :: rest, locked := none }) rfl hsize rfl rfl (rest := rest) rfl
    (by rw [hb]; exact d4) (by rw [hb]; exact d7) hout hRframes (by simp only [List.map_cons, List.sum_cons, hcat]; omega) hlocks
  obtain ⟨f1, f2⟩ := vx_frame hsame
  rw [hhp] at f1 f2
  have hWs : s.WarmedH U.vm := State.WarmedH.trans hW0 hW
  have hcl : s.vm.findClass cls = some ce.cls := by
    have h9 := hO.cls
    rw [hvm] at h9
    exact h9
  have hall : s.sameButNew ({ U with vm := s.vm } : State) locs mc ms := by
    subst hA
    obtain ⟨e1, e2⟩ := hsame
    rw [State.setFrames_setFrames] at e1
    have h2 : (T.setVm s.vm).sameButNew ({ U with vm := s.vm } : State) [] (0 + 1) (0 + 6) := ⟨e1, e2⟩
    have h3 := X.same.trans h2
    rw [List.append_nil] at h3
    exact h3.mono hc hs
  refine ⟨U, ?_, .threw T.heap.size, hrun, hend, Or.inr ⟨T.heap.size, rfl, cls, ce, locs, hx U hWs.alike f1 (fun q hq => f2 q hq (fun z hz => nomatch hz)), hce, hO.vm, hcl, hWs, hall, hf⟩⟩
  refine st1 _ ?_
  show Steps p.tables e below (T1.setTop { method := m, pc := pc + 3, locals := ls, stack := .ref T.heap.size :: rest, locked := none }) _
  jvm_step X₁.here [X₁.here.top, hexec, d3', Value.category]
  exact hsteps
/-- 'throw new E("text")': new; dup; ldc; invokespecial; athrow -/
theorem vx_throwS {cc : ByteArray} {pc : Nat} (hexec : p.tables.exec = Jvm.exec) (hb : c.code = cc) (hl : l.stackTraces = false) {own cls text : String} {names : List String} {ik is ic mc ms sa : Nat} {A : Nat → Prop}
    (hown : s.vm.findClass own = some m.cls) (hcls : Bundle.fit cls = true) (hnames : ∀ n ∈ names, Bundle.fit n = true)
    (hk : (Cond.classLink own ik cls).before args s = true) (hini : (Cond.initialized cls).before args s = true) (hstr : vk_R own is text sa s) (hat : ∀ w ∈ vx_atS own ic cls names, w.before args s = true)
    (hgood : ∀ w ∈ Cond.classLink own ik cls :: Cond.initialized cls :: vx_atS own ic cls names, vx_ot w = true)
    (hU : vx_Zq Bundle.tN "UNASSIGNED_STACK" Bundle.steD A s s.heap) (hN : vx_Zq Bundle.tN "SUPPRESSED_SENTINEL" Bundle.listD A s s.heap) (hS : va_S A s.heap H locs) (hsize : ls.size = c.maxLocals)
    (d0 : decode cc pc = .ok (.new ik, 3)) (d3 : decode cc (pc + 3) = .ok (.dup, 1)) (d4 : decode cc (pc + 4) = .ok (.ldc is, 2)) (d6 : decode cc (pc + 6) = .ok (.invokespecial ic, 3)) (d9 : decode cc (pc + 9) = .ok (.athrow, 1))
    (hout : ∀ x ∈ c.exceptionTable.toList, covers x (pc + 9) = false)
    (hRframes : names.length + 3 < R.frames) (hRlocals : (rest.map fun v => v.category).sum + (13 * (names.length + 1) + 43) ≤ R.locals) (hRcells : cells + 1 ≤ R.cells) (hRslots : slots + 6 ≤ R.slots) (hlocks : meth.locks = false)
    (hx : ∀ t : State, s.vm.Alike t.vm → H.size ≤ t.heap.size → (∀ q : Nat, q < H.size → t.heap[q]? = H[q]?) → XC cls s t)
    (hf : ∀ z ∈ locs, free z.base) (hc : cells + 1 ≤ mc) (hs : slots + 6 ≤ ms) :
    W p l e R s m args below meth c H locs cells slots (vx_MQ below Qc XC args s mc ms free) (F0 m pc ls rest) := by
  intro T hT X
  have htr : e.platform.stackTraces = false := (show e.platform.stackTraces = l.stackTraces by rw [X.admits.platform]).trans hl
  have Y := vx_rebase X (R' := { frames := R.frames, locals := R.locals, cells := 1, slots := 6 }) (Nat.le_refl _) (Nat.le_refl _) hRcells hRslots
  obtain ⟨s', hA⟩ : ∃ z, z = (T.setVm s.vm).setFrames (.invoking m args :: below) := ⟨_, rfl⟩
  rw [← hA] at Y
  have hvm : s'.vm = s.vm := by rw [hA]; rfl
  have hhp : s'.heap = H := by rw [hA]; exact hT
  have hW0 : s.WarmedH s'.vm := by rw [hvm]; exact State.WarmedH.refl s
  have hat' : ∀ w ∈ vx_atS own ic cls names, w.before args s' = true := fun w hw => vx_ot_at hW0 hvm.symm (hgood w (List.mem_cons_of_mem _ (List.mem_cons_of_mem _ hw))) (hat w hw)
  have hk' : (Cond.classLink own ik cls).before args s' = true := vx_ot_at hW0 hvm.symm (hgood _ List.mem_cons_self) hk
  have hini' : (Cond.initialized cls).before args s' = true := vx_ot_at hW0 hvm.symm (hgood _ (List.mem_cons_of_mem _ List.mem_cons_self)) hini
  have hU' : vx_Zq Bundle.tN "UNASSIGNED_STACK" Bundle.steD A s' s'.heap := by rw [hhp]; exact vx_Zq.moved hW0.alike (hU.kept hS.2.1)
  have hN' : vx_Zq Bundle.tN "SUPPRESSED_SENTINEL" Bundle.listD A s' s'.heap := by rw [hhp]; exact vx_Zq.moved hW0.alike (hN.kept hS.2.1)
  have h : ∀ w ∈ Bundle.ownAtoms own ic cls names, w.before args s' = true := vx_own hat' (vx_isRefq hU'.1) (vx_isRefq hN'.1) hU'.2.word hN'.2.word
  have hown' : s'.vm.findClass own = some m.cls := by rw [hvm]; exact hown
  have hins : (Cond.instantiable cls 6).before args s' = true := h _ (by simp [Bundle.ownAtoms])
  obtain ⟨vm₁, cX, kX, hfX, hkX, -, -, X₁, st1⟩ := Y.newCold hexec (own := own) (C := cls) (index := ik) (n := 6) hown' hk' hins hini'
    (g := F0 m pc ls rest) rfl (by rw [hb]; exact d0) (Nat.le_refl _) (Nat.le_refl _)
  generalize hT1 : (T.setVm vm₁).pushCell { cls := cX, slots := kX.instanceTypes.map defaultValue, vm := .none } = T1 at X₁ st1
  have hcat : (Value.ref T.heap.size).category = 1 := rfl
  have hcellA : T1.heap[T.heap.size]? = some (freshCell cX kX) := by rw [← hT1]; exact State.heap_pushCell_size _ _
  have d3' : decode c.code (pc + 3) = .ok (.dup, 1) := by rw [hb]; exact d3
  have d4' : decode c.code (pc + 4) = .ok (.ldc is, 2) := by rw [hb]; exact d4
  have hstr' : vk_R own is text sa s' := vk_R.warm hW0 hstr
  obtain ⟨U, hsteps, hrun, hend, hW, hsame, ce, hce, hO⟩ := X₁.ctorThrowS hexec htr (own := own) (cls := cls) (names := names) (ic := ic) hown' hcls hnames h (fun x hx => nomatch hx) hfX hkX hcellA (by rw [hhp, hT]; exact Nat.le_refl _) (msg := .ref sa) rfl
    (g := { method := m, pc := pc + 6, locals := ls, stack := .ref sa :: .ref T.heap.size :: .ref T.heap.size :: rest, locked := none }) rfl hsize rfl rfl (rest := rest) rfl
    (by rw [hb]; exact d6) (by rw [hb]; exact d9) hout hRframes (by simp only [List.map_cons, List.sum_cons, hcat]; omega) hlocks
  obtain ⟨f1, f2⟩ := vx_frame hsame
  rw [hhp] at f1 f2
  have hWs : s.WarmedH U.vm := State.WarmedH.trans hW0 hW
  have hcl : s.vm.findClass cls = some ce.cls := by
    have h9 := hO.cls
    rw [hvm] at h9
    exact h9
  have hall : s.sameButNew ({ U with vm := s.vm } : State) locs mc ms := by
    subst hA
    obtain ⟨e1, e2⟩ := hsame
    rw [State.setFrames_setFrames] at e1
    have h2 : (T.setVm s.vm).sameButNew ({ U with vm := s.vm } : State) [] (0 + 1) (0 + 6) := ⟨e1, e2⟩
    have h3 := X.same.trans h2
    rw [List.append_nil] at h3
    exact h3.mono hc hs
  refine ⟨U, ?_, .threw T.heap.size, hrun, hend, Or.inr ⟨T.heap.size, rfl, cls, ce, locs, hx U hWs.alike f1 (fun q hq => f2 q hq (fun z hz => nomatch hz)), hce, hO.vm, hcl, hWs, hall, hf⟩⟩
  refine st1 _ ?_
  show Steps p.tables e below (T1.setTop { method := m, pc := pc + 3, locals := ls, stack := .ref T.heap.size :: rest, locked := none }) _
  jvm_step X₁.here [X₁.here.top, hexec, d3', Value.category]
  exact X₁.ldcString hexec (own := own) (text := text) (index := is) (a := sa) hown' hstr'.1 hstr'.2
    (g := { method := m, pc := pc + 4, locals := ls, stack := .ref T.heap.size :: .ref T.heap.size :: rest, locked := none }) rfl d4' _ hsteps
/-- 'throw new E("text")', the text by a wide index -/
theorem vx_throwSW {cc : ByteArray} {pc : Nat} (hexec : p.tables.exec = Jvm.exec) (hb : c.code = cc) (hl : l.stackTraces = false) {own cls text : String} {names : List String} {ik is ic mc ms sa : Nat} {A : Nat → Prop}
    (hown : s.vm.findClass own = some m.cls) (hcls : Bundle.fit cls = true) (hnames : ∀ n ∈ names, Bundle.fit n = true)
    (hk : (Cond.classLink own ik cls).before args s = true) (hini : (Cond.initialized cls).before args s = true) (hstr : vk_R own is text sa s) (hat : ∀ w ∈ vx_atS own ic cls names, w.before args s = true)
    (hgood : ∀ w ∈ Cond.classLink own ik cls :: Cond.initialized cls :: vx_atS own ic cls names, vx_ot w = true)
    (hU : vx_Zq Bundle.tN "UNASSIGNED_STACK" Bundle.steD A s s.heap) (hN : vx_Zq Bundle.tN "SUPPRESSED_SENTINEL" Bundle.listD A s s.heap) (hS : va_S A s.heap H locs) (hsize : ls.size = c.maxLocals)
    (d0 : decode cc pc = .ok (.new ik, 3)) (d3 : decode cc (pc + 3) = .ok (.dup, 1)) (d4 : decode cc (pc + 4) = .ok (.ldc_w is, 3)) (d7 : decode cc (pc + 7) = .ok (.invokespecial ic, 3)) (d10 : decode cc (pc + 10) = .ok (.athrow, 1))
    (hout : ∀ x ∈ c.exceptionTable.toList, covers x (pc + 10) = false)
    (hRframes : names.length + 3 < R.frames) (hRlocals : (rest.map fun v => v.category).sum + (13 * (names.length + 1) + 43) ≤ R.locals) (hRcells : cells + 1 ≤ R.cells) (hRslots : slots + 6 ≤ R.slots) (hlocks : meth.locks = false)
    (hx : ∀ t : State, s.vm.Alike t.vm → H.size ≤ t.heap.size → (∀ q : Nat, q < H.size → t.heap[q]? = H[q]?) → XC cls s t)
    (hf : ∀ z ∈ locs, free z.base) (hc : cells + 1 ≤ mc) (hs : slots + 6 ≤ ms) :
    W p l e R s m args below meth c H locs cells slots (vx_MQ below Qc XC args s mc ms free) (F0 m pc ls rest) := by
  intro T hT X
  have htr : e.platform.stackTraces = false := (show e.platform.stackTraces = l.stackTraces by rw [X.admits.platform]).trans hl
  have Y := vx_rebase X (R' := { frames := R.frames, locals := R.locals, cells := 1, slots := 6 }) (Nat.le_refl _) (Nat.le_refl _) hRcells hRslots
  obtain ⟨s', hA⟩ : ∃ z, z = (T.setVm s.vm).setFrames (.invoking m args :: below) := ⟨_, rfl⟩
  rw [← hA] at Y
  have hvm : s'.vm = s.vm := by rw [hA]; rfl
  have hhp : s'.heap = H := by rw [hA]; exact hT
  have hW0 : s.WarmedH s'.vm := by rw [hvm]; exact State.WarmedH.refl s
  have hat' : ∀ w ∈ vx_atS own ic cls names, w.before args s' = true := fun w hw => vx_ot_at hW0 hvm.symm (hgood w (List.mem_cons_of_mem _ (List.mem_cons_of_mem _ hw))) (hat w hw)
  have hk' : (Cond.classLink own ik cls).before args s' = true := vx_ot_at hW0 hvm.symm (hgood _ List.mem_cons_self) hk
  have hini' : (Cond.initialized cls).before args s' = true := vx_ot_at hW0 hvm.symm (hgood _ (List.mem_cons_of_mem _ List.mem_cons_self)) hini
  have hU' : vx_Zq Bundle.tN "UNASSIGNED_STACK" Bundle.steD A s' s'.heap := by rw [hhp]; exact vx_Zq.moved hW0.alike (hU.kept hS.2.1)
  have hN' : vx_Zq Bundle.tN "SUPPRESSED_SENTINEL" Bundle.listD A s' s'.heap := by rw [hhp]; exact vx_Zq.moved hW0.alike (hN.kept hS.2.1)
  have h : ∀ w ∈ Bundle.ownAtoms own ic cls names, w.before args s' = true := vx_own hat' (vx_isRefq hU'.1) (vx_isRefq hN'.1) hU'.2.word hN'.2.word
  have hown' : s'.vm.findClass own = some m.cls := by rw [hvm]; exact hown
  have hins : (Cond.instantiable cls 6).before args s' = true := h _ (by simp [Bundle.ownAtoms])
  obtain ⟨vm₁, cX, kX, hfX, hkX, -, -, X₁, st1⟩ := Y.newCold hexec (own := own) (C := cls) (index := ik) (n := 6) hown' hk' hins hini'
    (g := F0 m pc ls rest) rfl (by rw [hb]; exact d0) (Nat.le_refl _) (Nat.le_refl _)
  generalize hT1 : (T.setVm vm₁).pushCell { cls := cX, slots := kX.instanceTypes.map defaultValue, vm := .none } = T1 at X₁ st1
  have hcat : (Value.ref T.heap.size).category = 1 := rfl
  have hcellA : T1.heap[T.heap.size]? = some (freshCell cX kX) := by rw [← hT1]; exact State.heap_pushCell_size _ _
  have d3' : decode c.code (pc + 3) = .ok (.dup, 1) := by rw [hb]; exact d3
  have d4' : decode c.code (pc + 4) = .ok (.ldc_w is, 3) := by rw [hb]; exact d4
  have hstr' : vk_R own is text sa s' := vk_R.warm hW0 hstr
  obtain ⟨U, hsteps, hrun, hend, hW, hsame, ce, hce, hO⟩ := X₁.ctorThrowS hexec htr (own := own) (cls := cls) (names := names) (ic := ic) hown' hcls hnames h (fun x hx => nomatch hx) hfX hkX hcellA (by rw [hhp, hT]; exact Nat.le_refl _) (msg := .ref sa) rfl
    (g := { method := m, pc := pc + 7, locals := ls, stack := .ref sa :: .ref T.heap.size :: .ref T.heap.size :: rest, locked := none }) rfl hsize rfl rfl (rest := rest) rfl
    (by rw [hb]; exact d7) (by rw [hb]; exact d10) hout hRframes (by simp only [List.map_cons, List.sum_cons, hcat]; omega) hlocks
  obtain ⟨f1, f2⟩ := vx_frame hsame
  rw [hhp] at f1 f2
  have hWs : s.WarmedH U.vm := State.WarmedH.trans hW0 hW
  have hcl : s.vm.findClass cls = some ce.cls := by
    have h9 := hO.cls
    rw [hvm] at h9
    exact h9
  have hall : s.sameButNew ({ U with vm := s.vm } : State) locs mc ms := by
    subst hA
    obtain ⟨e1, e2⟩ := hsame
    rw [State.setFrames_setFrames] at e1
    have h2 : (T.setVm s.vm).sameButNew ({ U with vm := s.vm } : State) [] (0 + 1) (0 + 6) := ⟨e1, e2⟩
    have h3 := X.same.trans h2
    rw [List.append_nil] at h3
    exact h3.mono hc hs
  refine ⟨U, ?_, .threw T.heap.size, hrun, hend, Or.inr ⟨T.heap.size, rfl, cls, ce, locs, hx U hWs.alike f1 (fun q hq => f2 q hq (fun z hz => nomatch hz)), hce, hO.vm, hcl, hWs, hall, hf⟩⟩
  refine st1 _ ?_
  show Steps p.tables e below (T1.setTop { method := m, pc := pc + 3, locals := ls, stack := .ref T.heap.size :: rest, locked := none }) _
  jvm_step X₁.here [X₁.here.top, hexec, d3', Value.category]
  exact X₁.ldcStringW hexec (own := own) (text := text) (index := is) (a := sa) hown' hstr'.1 hstr'.2
    (g := { method := m, pc := pc + 4, locals := ls, stack := .ref T.heap.size :: .ref T.heap.size :: rest, locked := none }) rfl d4' _ hsteps
end Ends
section Bodies
variable {l : Launch}
theorem vx_ofW {y : MethodName} {ws ws' : List Cond} {rm : Room} {Pc : Array Value → State → Prop} {Qc : Array Value → State → Outcome → State → Prop} {XC : String → State → State → Prop} {mc ms : Nat} {free : Addr → Prop} {cc : ByteArray} {maxL : Nat} {ret : Option FieldType}
    (hy : plainName y.cls = true) (hw : ws = Cond.code y cc maxL ret :: ws')
    (body : ∀ p e s m args below meth c s₁, BodyLoose p l y (headSpec ws rm) cc maxL ret e s m args below meth c s₁ → c.maxLocals = maxL → (∀ x ∈ c.exceptionTable.toList, False) → Pc args s →
      W p l e (headSpec ws rm).room s m args below meth c s.heap [] 0 0 (vx_MQ below Qc XC args s mc ms free) (entryFrame m args maxL)) : vx_Met l y ws rm Pc Qc XC mc ms free := by
  refine MetFree.of_bodyS (code := cc) (maxLocals := maxL) (ret := ret) hy ?_ ?_
  · intro args s m h hn
    obtain ⟨meth, c, h1, h2, h3, h4, h5, h6, -, -⟩ := Cond.code_spec hn (atoms_spec (ws := ws) h _ (by rw [hw]; exact List.mem_cons_self))
    exact ⟨meth, c, h1, h2, h3, h4, h5, h6⟩
  · intro p e s m args below meth c s₁ B hml hP _
    have hh0 : s₁.heap = s.heap := by rw [B.state]; rfl
    have ht : ∀ x ∈ c.exceptionTable.toList, False := by
      obtain ⟨meth9, c9, h1, h2, -, -, -, -, h7, -⟩ := Cond.code_spec B.named (atoms_spec (ws := ws) B.pre _ (by rw [hw]; exact List.mem_cons_self))
      cases Option.some.inj (h1.symm.trans B.method)
      cases Option.some.inj (h2.symm.trans (Stand.of_body B).code)
      intro x hx
      rw [Array.isEmpty_iff.mp h7] at hx
      cases hx
    obtain ⟨t, a1, o, b1, b2, b3⟩ := body p e s m args below meth c s₁ B hml ht hP s₁ hh0 (Stand.of_body B)
    exact ⟨t, o, a1, b1, b2, b3⟩
/-- the table of a body with handlers -/
theorem vx_table {p : Program} {x y : MethodName} {S : Spec} {cc bytes : ByteArray} {maxL maxL' : Nat} {ret ret' : Option FieldType} {e : Env} {s s₁ : State} {m : MethodId} {args : Array Value} {below : List Frame} {meth : Method} {c : Code} {hh : List (Nat × Nat × Nat × Nat)}
    (B : BodyLoose p l y S cc maxL ret e s m args below meth c s₁) (h : (Cond.codeWith y bytes maxL' ret' hh).before args s = true) : c.exceptionTable.toList = tableOf hh := by
  obtain ⟨m9, meth9, c9, hn9, h1, h2, -, -, h6, -⟩ := Cond.codeWith_spec h
  cases Option.some.inj (hn9.symm.trans B.named)
  cases Option.some.inj (h1.symm.trans B.method)
  cases Option.some.inj (h2.symm.trans (Stand.of_body B).code)
  rw [← h6, table_eq]
end Bodies
end VXA
/-! ===== END ===== -/
/-! ===== BEGIN a static call of a method with an exception table ===== -/
section VXS
variable {p : Program} {l : Launch} {e : Env} {R : Room} {s : State} {m : MethodId} {args : Array Value} {below : List Frame} {meth : Method} {c : Code} {T : State} {H : Heap} {locs : List Loc} {cells slots : Nat}
abbrev vx_CSW (R : Room) (s : State) (args : Array Value) (own : String) (index : Nat) (y : MethodName) (bytes : ByteArray) (maxL : Nat) (ret : Option FieldType) (hh : List (Nat × Nat × Nat × Nat)) (ws : List Cond) (rm : Room) (mc ms n : Nat) : Prop :=
  (rm.cells = mc ∧ rm.slots = ms ∧ rm.frames + 1 ≤ R.frames ∧ 8 + (maxL + 11) + rm.locals ≤ R.locals ∧ (∀ w ∈ ws, ∀ (a' : Array Value) (U : State), s.WarmedH U.vm → w.before a' U = true) ∧ Cond.codeWith y bytes maxL ret hh ∈ ws) ∧
  (Cond.codeWith y bytes maxL ret hh).before args s = true ∧ (Cond.initialized y.cls).before args s = true ∧ (y.cls ≠ "java/lang/invoke/MethodHandle" ∧ y.cls ≠ "java/lang/invoke/VarHandle") ∧
  (∀ sig, parseMethodDescriptor y.desc = some sig → n = sig.parameters.length) ∧ (Cond.methodLink own index y).before args s = true ∧ (Cond.static y).before args s = true
theorem vx_cwSW {own : String} {index maxL mc ms : Nat} {y : MethodName} {bytes : ByteArray} {ret : Option FieldType} {hh : List (Nat × Nat × Nat × Nat)} {Ts ws ws' : List Cond} {rm : Room} (n : Nat) (ht : ∀ w ∈ Ts, w.before args s = true) (hT : GoodIn Ts (va_wsS own index y ws)) (hw : ws = Cond.codeWith y bytes maxL ret hh :: ws') (hrc : rm.cells = mc) (hrs : rm.slots = ms)
    (hd : y.cls ≠ "java/lang/invoke/MethodHandle" ∧ y.cls ≠ "java/lang/invoke/VarHandle" ∧ (parseMethodDescriptor y.desc).map (fun d => d.parameters.length) = some n) (hR : rm.frames + 1 ≤ R.frames ∧ 8 + (maxL + 11) + rm.locals ≤ R.locals) :
    vx_CSW R s args own index y bytes maxL ret hh ws rm mc ms n := by
  have ok : ∀ w ∈ va_wsS own index y ws, w.before args s = true := fun w h => ht w (hT w h).1
  have hG : GoodIn Ts ws := fun w h => hT w (by unfold va_wsS; exact List.mem_append_right _ h)
  have hc : Cond.codeWith y bytes maxL ret hh ∈ ws := by rw [hw]; exact List.mem_cons_self
  refine ⟨⟨hrc, hrs, hR.1, hR.2, pay_in ht hG, hc⟩, ht _ (hG _ hc).1, ok _ (by simp [va_wsS]), ⟨hd.1, hd.2.1⟩, fun sig h => ?_, ok _ (by simp [va_wsS]), ok _ (by simp [va_wsS])⟩
  have h2 := hd.2.2
  rw [h] at h2
  exact (Option.some.inj h2).symm
theorem vx_callSW (X : Stand p l e R s m args below meth c T locs cells slots) (hexec : p.tables.exec = Jvm.exec) {own : String} {index : Nat} {y : MethodName} {bytes : ByteArray} {maxL : Nat} {ret : Option FieldType} {hh : List (Nat × Nat × Nat × Nat)}
    (hown : s.vm.findClass own = some m.cls) (hlink : (Cond.methodLink own index y).before args s = true) (hstat : (Cond.static y).before args s = true) (hinit : (Cond.initialized y.cls).before args s = true)
    (hcode : (Cond.codeWith y bytes maxL ret hh).before args s = true) (hy : y.cls ≠ "java/lang/invoke/MethodHandle" ∧ y.cls ≠ "java/lang/invoke/VarHandle")
    {W9 : Nat} {Pre : Pt → Array Value → Prop} {Post : Pt → Array Value → Option Value → Pt → Prop} (hK : Back l R p e below s args y 3 W9 Pre Post)
    {g : JFrame} (hg : g.method = m) (hsize : g.locals.size = c.maxLocals) {argsL rest : List Value} (hlen : ∀ sig, parseMethodDescriptor y.desc = some sig → argsL.length = sig.parameters.length)
    (hstack : g.stack = argsL.reverse ++ rest) (hW : 2 * g.monitorRoom + (rest.map fun v => v.category).sum ≤ W9) (hdg : decode c.code g.pc = .ok (.invokestatic index, 3))
    (hpre : ∀ vm₁, s.WarmedH vm₁ → Pre ⟨T.setVm vm₁, locs, cells, slots⟩ argsL.toArray) :
    ∃ (v : Option Value) (vm₁ : Vm) (B : Pt), s.WarmedH vm₁ ∧ Stand p l e R s m args below meth c B.U B.locs B.cells B.slots ∧ Post ⟨T.setVm vm₁, locs, cells, slots⟩ argsL.toArray v B ∧
      ∀ target, Steps p.tables e below (B.U.setTop { g with pc := g.pc + 3, stack := v.toList ++ rest }) target → Steps p.tables e below (T.setTop g) target := by
  obtain ⟨mk, methM, cM, hnamed, hmethM, -, -, -, -, -, -, hsigM⟩ := Cond.codeWith_spec hcode
  have hstatic : methM.isStatic = true := Cond.static_spec hnamed hmethM hstat
  obtain ⟨kP, hkP, -⟩ := className_of_methodNamed hnamed
  have hinitP : kP.init = .initialized := Cond.initialized_spec (findClass_of_methodNamed hnamed) hkP hinit
  obtain ⟨vm₁, X₁, hstep₁⟩ := X.invokestatic hexec hown hlink hnamed hmethM hstatic hkP hinitP hy (g := g) hg (argsL := argsL) (rest := rest) (hlen _ hsigM) hstack hdg
  obtain ⟨v, B, X', hpost, hsteps⟩ := hK m meth c ⟨T.setVm vm₁, locs, cells, slots⟩ { g with stack := rest } (.invokestatic index) mk argsL.toArray X₁ hg hsize hdg hW (X₁.named hnamed) (hpre vm₁ X₁.warmed)
  exact ⟨v, vm₁, B, X₁.warmed, X', hpost, fun target h => hstep₁ _ fun acts => by rw [doInvoke_state]; exact hsteps.trans h⟩
theorem vx_runSW {y : MethodName} {bytes cc : ByteArray} {maxL nL mc ms n index : Nat} {ret : Option FieldType} {hh : List (Nat × Nat × Nat × Nat)} {ws : List Cond} {rm : Room} {Pc : Array Value → State → Prop} {Qc : Array Value → State → Outcome → State → Prop} {free : Addr → Prop} {Ts : List Cond} {own : String} {As rest : List Value} {g : JFrame}
    (S : CallFix p m c cc nL s args Ts own) (hM : Met l y ws rm Pc Qc mc ms free) (cw : vx_CSW R s args own index y bytes maxL ret hh ws rm mc ms n) (hp : PreS s H Pc As)
    (hg : g.method = m) (hn : As.length = n) (hsize : g.locals.size = nL) (hstack : g.stack = As.reverse ++ rest) (hW : 2 * g.monitorRoom + (rest.map fun v => v.category).sum ≤ 8) (hdg : decode cc g.pc = .ok (.invokestatic index, 3)) (hf : cells + mc ≤ R.cells ∧ slots + ms ≤ R.slots) :
    va_Run p l e R s m args below meth c H locs cells slots mc ms g rest (Qc As.toArray) (free) := by
  obtain ⟨⟨hrc, hrs, hfr, hlo, hws, hcw⟩, hcode, hini, hy, hlen, hl, hstt⟩ := cw
  have hK : Back l R p e below s args y 3 8 (PreOf R mc ms Pc) (PostOf Qc mc ms free) := va_backW (hh := hh) (bytes := bytes) (maxL := maxL) (ret := ret) hM hp.1 hrc hrs hfr hlo hws hcw (fun a' U hW => word_at hW (Or.inl (by first | rfl | simp [Cond.onTables, Cond.keeps, Cond.steady])) hini)
  obtain ⟨hx, hb, hml, ho, -⟩ := S
  intro T hT X
  obtain ⟨v, vm₁, ⟨U', l2, c2, s2⟩, hW₁, X', ⟨g', mk, t, L, e1, e2, hq, h1, hL, h2, h3⟩, st⟩ := vx_callSW X hx (hh := hh) (bytes := bytes) (maxL := maxL) (ret := ret) ho hl hstt hini hcode hy hK hg (hsize.trans hml.symm) (argsL := As) (rest := rest) (fun sig h => hn.trans (hlen sig h)) hstack hW (by rw [hb]; exact hdg)
    (fun vm₁ hW₁ => ⟨hf.1, hf.2, hp.2 (T.setVm vm₁) hT hW₁⟩)
  dsimp only [Pt.U, Pt.locs, Pt.cells, Pt.slots] at X' e1 e2 h1 h2 h3 st
  subst h1; subst h2; subst h3
  exact ⟨v, (T.setVm vm₁).calling g' mk As.toArray, t, U', L, hT, X', hL, e1, e2, hq, st⟩
/-- not caught here, past rows that name other classes: it goes on to the caller -/
theorem vx_outP {p : Program} {l : Launch} {e : Env} {R : Room} {s : State} {m : MethodId} {args : Array Value} {below : List Frame} {meth : Method} {c : Code} {H : Heap} {locs : List Loc} {cells slots : Nat} {free : Addr → Prop} {ls : Array Slot} {rest : List Value} {Qc : Array Value → State → Outcome → State → Prop} {XC : String → State → State → Prop}
    {pc : Nat} {own E : String} {ce : Cell} {q : Addr} {mc ms : Nat} (hown : s.vm.findClass own = some m.cls) (hlocks : meth.locks = false)
    (hpass : ∀ z ∈ c.exceptionTable.toList, covers z pc = false ∨ (z.catchType ≠ 0 ∧ ∃ nm : String, (Cond.classLink own z.catchType nm).before args s = true ∧ va_Nc E nm s)) (hcell : H[q]? = some ce) (hv : ce.vm = .none) (hcl : s.vm.findClass E = some ce.cls)
    (hx : ∀ t : State, t.heap = H → s.vm.Alike t.vm → XC E s t) (hf : ∀ z ∈ locs, free z.base) (hc : cells ≤ mc) (hs : slots ≤ ms) :
    vx_W p l e R s m args below meth c H locs cells slots (vx_MQ below Qc XC args s mc ms free) (F0 m pc ls rest) q := by
  intro T hT X
  have hpl : e.platform.magicAccessors = ({} : Platform).magicAccessors := by rw [X.admits.platform]
  obtain ⟨vm', hW', X', st⟩ := X.outThrough hlocks q (g := F0 m pc ls rest) rfl rfl rfl (cell := ce) (by rw [hT]; exact hcell) (by rw [hv]; rfl)
    (by obtain ⟨k9, h9, -⟩ := Vm.findClass_spec hcl; exact ⟨k9, h9⟩) (fun z hz => by
      rcases hpass z hz with h | ⟨hz0, nm, hl1, hn1⟩
      · exact Or.inl h
      · obtain ⟨c6, hc6, hcl6⟩ := Cond.classLink_spec hown hl1 e.platform hpl
        obtain ⟨a8, b8, h1, h2, h3⟩ := hn1
        cases Option.some.inj (h1.symm.trans hcl)
        cases Option.some.inj (h2.symm.trans hc6)
        exact Or.inr ⟨hz0, _, hcl6, h3⟩)
  obtain ⟨g₀, hfr⟩ := X'.frames_eq
  have hcell9 : ((T.setVm vm').setFrames (.throwing q :: below)).heap[q]? = some ce := by
    show T.heap[q]? = some ce
    rw [hT]; exact hcell
  have hend : Ended ((T.setVm vm').setFrames (.throwing q :: below)) below (.threw q) := State.frames_setFrames _ (State.cur_lt_of_frames hfr)
  refine ⟨(T.setVm vm').setFrames (.throwing q :: below), ?_, .threw q, X'.here.running, hend, Or.inr ⟨q, rfl, E, ce, locs, hx _ hT (X'.ends _).1.alike, hcell9, hv, hcl, (X'.ends _).1, (X'.ends _).2.mono hc hs, hf⟩⟩
  rw [X.pushThrowing_eq]
  exact st
/-- a thing of a world lies in the heap -/
theorem vx_lt {D : va_G} {cl : List vw_C} {ws : va_W} {H1 : Heap} (h : va_P D cl ws H1) {k : Nat} {q : Nat × va_E} (hk : ws[k]? = some q) : q.1 < H1.size := (h k q hk).lt
end VXS
/-! ===== END ===== -/
/-! ===== BEGIN methods with a table of their own: called by a name, returning or throwing ===== -/
section VXH
/-! vx_backW, vx_callVX, vx_callSX, vx_callVW, vx_runVW, vx_runVX, vx_runSX, vx_ofWH follow the same proofs as their sisters above (Free/Laws.lean, Shelf42/LK1.lean); vx_outP calls Shelf42/NT130.lean (outThrough). -/
section
variable {l : Launch} {R : Room} {p : Program} {e : Env} {below : List Frame} {s : State} {sargs : Array Value} {y : MethodName} {len W9 : Nat}
theorem vx_backW {ws : List Cond} {rm : Room} {Pc : Array Value → State → Prop} {Qc : Array Value → State → Outcome → State → Prop} {XC : String → State → State → Prop} {mc ms : Nat} {free : Addr → Prop} {bytes : ByteArray} {maxL : Nat} {ret : Option FieldType} {hh : List (Nat × Nat × Nat × Nat)}
    (hM : vx_Met l y ws rm Pc Qc XC mc ms free) (hblind : FrameBlind Pc) (hrc : rm.cells = mc) (hrs : rm.slots = ms)
    (hframes : rm.frames + 1 ≤ R.frames) (hlocals : W9 + (maxL + 11) + rm.locals ≤ R.locals)
    (hws : ∀ w ∈ ws, ∀ a' U, s.WarmedH U.vm → w.before a' U = true) (hcode : Cond.codeWith y bytes maxL ret hh ∈ ws) (hinit : ∀ a' U, s.WarmedH U.vm → (Cond.initialized y.cls).before a' U = true) :
    vx_Back l R p e below s sargs y len W9 (PreOf R mc ms Pc) (PostOf Qc mc ms free) (vx_Post XC mc ms free) := by
  intro m meth c A g ig mk a X hg hsize hdg hW hn hp
  have h1 : (headSpec ws rm).pre.before a A.U = true := atoms_intro fun w hw => hws w hw _ _ X.warmed
  have h2 : (Cond.codeWith y bytes maxL ret hh).before a A.U = true := hws _ hcode _ _ X.warmed
  have h3 : (Cond.initialized y.cls).before a A.U = true := hinit _ _ X.warmed
  have h4 : A.cells + (headSpec ws rm).room.cells ≤ R.cells := by rw [show (headSpec ws rm).room.cells = mc from hrc]; exact hp.1
  have h5 : A.slots + (headSpec ws rm).room.slots ≤ R.slots := by rw [show (headSpec ws rm).room.slots = ms from hrs]; exact hp.2.1
  have hPc : Pc a (A.U.calling g mk a) := hblind _ _ _ _ hp.2.2
  obtain ⟨U, Ls, c0, s0⟩ := A
  dsimp only [Pt.U, Pt.locs, Pt.cells, Pt.slots] at h1 h2 h3 h4 h5 X hn hPc ⊢
  obtain ⟨m9, methY, cY, hn9, hmY, hcY, -, hlY, -⟩ := Cond.codeWith_spec h2
  cases Option.some.inj (hn9.symm.trans hn)
  obtain ⟨kY, hkY, -⟩ := className_of_methodNamed hn
  have hinitY : kY.init = .initialized := Cond.initialized_spec (findClass_of_methodNamed hn) hkY h3
  have h : At U g.method c below := by rw [hg]; exact X.here
  have hlocals9 : W9 + (maxL + 11) + (headSpec ws rm).room.locals ≤ R.locals := hlocals
  have happ : (headSpec ws rm).appliesLoose y e.platform (U.calling g mk a) = true :=
    Spec.appliesLoose_calling (g := g) h hdg hn hkY hinitY
      (X.room_calling (g := g) (R' := (headSpec ws rm).room) hsize hmY hcY hframes (by rw [hlY]; omega) h4 h5) h1
  obtain ⟨mid, hmid⟩ := h.above
  have hfr : (U.setTop g).frames = (.java g :: mid) ++ below := by rw [State.frames_setTop' g h.top, hmid]; rfl
  obtain ⟨o, s₂, hsteps, -, hend, hq⟩ := Steps.callFree hM p X.admits X.cas X.clock (acts := []) hfr happ hPc trivial
  have hq' : vx_Q Qc XC mc ms free a (U.calling g mk a) o s₂ := hq
  rw [State.frames_setTop' g h.top] at hend
  obtain ⟨g₀, hg0⟩ := Option.isSome_iff_exists.mp h.top
  obtain ⟨r, hr⟩ := State.topJava?_eq_some.mp hg0
  have hr' : (({ U with heap := s₂.heap, slotsUsed := s₂.slotsUsed } : State).setVm s₂.vm).frames = .java g₀ :: r := hr
  rcases hq' with ⟨hqc, L, hfe, hL⟩ | ⟨q, rfl, E, ce, L, hx, hce, hcv, hcl, hW₂, hsm, hL⟩
  · obtain ⟨⟨v, rfl⟩, hW₂, e2, q2, q3, q4, q5, q6⟩ := id hfe
    have e3 : s₂ = ({ (U.calling g mk a).setFrames s₂.frames with heap := s₂.heap, slotsUsed := s₂.slotsUsed } : State).setVm s₂.vm := by
      have : s₂ = ({ s₂ with vm := (U.calling g mk a).vm } : State).setVm s₂.vm := rfl
      rw [e2] at this
      exact this
    obtain ⟨c₂, i₂, len₂, hc₂, hd₂, hf₂⟩ := hend
    have hW' : U.WarmedH s₂.vm := hW₂
    have hcc : c₂ = c := by
      have h1 : s₂.code? g.method = U.code? g.method := by
        rw [State.code?_eq, State.code?_eq, hW'.alike.method?]
      exact Option.some.inj (hc₂.symm.trans (h1.trans h.code))
    subst hcc
    have hlen : len₂ = len := by rw [hdg] at hd₂; cases hd₂; rfl
    subst hlen
    have hs₂ : s₂ = (({ U with heap := s₂.heap, slotsUsed := s₂.slotsUsed } : State).setVm s₂.vm).setTop { g with pc := g.pc + len₂, stack := v.toList ++ g.stack } := by
      refine e3.trans ?_
      rw [hf₂, State.calling_eq h.top, State.setFrames_setFrames, State.setTop_of_frames _ hr', hr]
      rfl
    have hsame : U.sameButNew ({ U with heap := s₂.heap, slotsUsed := s₂.slotsUsed } : State) L mc ms := by
      refine ⟨?_, q2, q3, q4, q5, q6⟩
      obtain ⟨t, ht, -⟩ := State.frames_cons hr
      show ({ U with heap := s₂.heap, slotsUsed := s₂.slotsUsed } : State) = { U.setFrames U.frames with heap := s₂.heap, slotsUsed := s₂.slotsUsed }
      rw [State.setFrames_self ht]
    subst hg
    refine Or.inl ⟨v, ⟨(({ U with heap := s₂.heap, slotsUsed := s₂.slotsUsed } : State).setVm s₂.vm), Ls ++ L, c0 + mc, s0 + ms⟩,
      ⟨X.admits, X.cas, X.clock, X.frames, X.room, X.hears, X.method, X.code, (X.here.setHeapUsed s₂.heap s₂.slotsUsed).setVm hW'.alike, X.tail, State.WarmedH.trans X.warmed hW', X.limits, X.bytes, X.same.trans (hsame.setVm s.vm)⟩,
      ⟨g, mk, s₂, L, rfl, rfl, hqc, rfl, hL, rfl, rfl⟩, ?_⟩
    show Steps p.tables e below _ ((({ U with heap := s₂.heap, slotsUsed := s₂.slotsUsed } : State).setVm s₂.vm).setTop { g with pc := g.pc + len₂, stack := v.toList ++ g.stack })
    rw [← hs₂]
    exact hsteps
  · obtain ⟨e2, q2, q3, q4, q5, q6⟩ := id hsm
    have e3 : s₂ = ({ (U.calling g mk a).setFrames s₂.frames with heap := s₂.heap, slotsUsed := s₂.slotsUsed } : State).setVm s₂.vm := by
      have : s₂ = ({ s₂ with vm := (U.calling g mk a).vm } : State).setVm s₂.vm := rfl
      rw [e2] at this
      exact this
    have hf₂ : s₂.frames = .throwing q :: .java g :: U.frames.tail := hend
    have hW' : U.WarmedH s₂.vm := hW₂
    have hs₂ : s₂ = ((({ U with heap := s₂.heap, slotsUsed := s₂.slotsUsed } : State).setVm s₂.vm).setTop g).pushFrame (.throwing q) := by
      refine e3.trans ?_
      rw [hf₂, State.calling_eq h.top, State.setFrames_setFrames, State.pushFrame, State.frames_setTop _ hr', State.setTop_of_frames _ hr', State.setFrames_setFrames, hr]
      rfl
    have hsame : U.sameButNew ({ U with heap := s₂.heap, slotsUsed := s₂.slotsUsed } : State) L mc ms := by
      refine ⟨?_, q2, q3, q4, q5, q6⟩
      obtain ⟨t, ht, -⟩ := State.frames_cons hr
      show ({ U with heap := s₂.heap, slotsUsed := s₂.slotsUsed } : State) = { U.setFrames U.frames with heap := s₂.heap, slotsUsed := s₂.slotsUsed }
      rw [State.setFrames_self ht]
    subst hg
    refine Or.inr ⟨q, ⟨(({ U with heap := s₂.heap, slotsUsed := s₂.slotsUsed } : State).setVm s₂.vm), Ls ++ L, c0 + mc, s0 + ms⟩,
      ⟨X.admits, X.cas, X.clock, X.frames, X.room, X.hears, X.method, X.code, (X.here.setHeapUsed s₂.heap s₂.slotsUsed).setVm hW'.alike, X.tail, State.WarmedH.trans X.warmed hW', X.limits, X.bytes, X.same.trans (hsame.setVm s.vm)⟩,
      ⟨g, mk, s₂, L, E, ce, rfl, rfl, hx, hce, hcv, hcl, rfl, hL, rfl, rfl⟩, ?_⟩
    show Steps p.tables e below _ (((({ U with heap := s₂.heap, slotsUsed := s₂.slotsUsed } : State).setVm s₂.vm).setTop g).pushFrame (.throwing q))
    rw [← hs₂]
    exact hsteps
end
variable {p : Program} {l : Launch} {e : Env} {R : Room} {s : State} {m : MethodId} {args : Array Value} {below : List Frame} {meth : Method} {c : Code} {T : State} {H : Heap} {locs : List Loc} {cells slots : Nat}
theorem vx_callVX (X : Stand p l e R s m args below meth c T locs cells slots) (hexec : p.tables.exec = Jvm.exec) {own C : String} {index : Nat} {y : MethodName} {bytes : ByteArray} {maxL : Nat} {ret : Option FieldType} {hh : List (Nat × Nat × Nat × Nat)}
    (hown : s.vm.findClass own = some m.cls) (hlink : (Cond.methodLink own index y).before args s = true) (hinst : (Cond.instanceMethod y).before args s = true) (hsel : (Cond.selects C y y).before args s = true)
    (hcode : (Cond.codeWith y bytes maxL ret hh).before args s = true) (hy : y.cls ≠ "java/lang/invoke/MethodHandle" ∧ y.cls ≠ "java/lang/invoke/VarHandle")
    {W9 : Nat} {Pre : Pt → Array Value → Prop} {Post : Pt → Array Value → Option Value → Pt → Prop} {PostX : Pt → Array Value → Addr → Pt → Prop} (hK : vx_Back l R p e below s args y 3 W9 Pre Post PostX)
    {b : Addr} {cellB : Cell} (hcell : T.heap[b]? = some cellB) (hobj : cellB.vm.isStatics = false) (hcls : s.vm.findClass C = some cellB.cls)
    {g : JFrame} (hg : g.method = m) (hsize : g.locals.size = c.maxLocals) {argsL rest : List Value} (hlen : ∀ sig, parseMethodDescriptor y.desc = some sig → argsL.length = sig.parameters.length)
    (hstack : g.stack = argsL.reverse ++ .ref b :: rest) (hW : 2 * g.monitorRoom + (rest.map fun v => v.category).sum ≤ W9) (hdg : decode c.code g.pc = .ok (.invokevirtual index, 3))
    (hpre : ∀ vm₁, s.WarmedH vm₁ → Pre ⟨T.setVm vm₁, locs, cells, slots⟩ (Value.ref b :: argsL).toArray) :
    (∃ (v : Option Value) (vm₁ : Vm) (B : Pt), s.WarmedH vm₁ ∧ Stand p l e R s m args below meth c B.U B.locs B.cells B.slots ∧ Post ⟨T.setVm vm₁, locs, cells, slots⟩ (Value.ref b :: argsL).toArray v B ∧
      ∀ target, Steps p.tables e below (B.U.setTop { g with pc := g.pc + 3, stack := v.toList ++ rest }) target → Steps p.tables e below (T.setTop g) target) ∨
    (∃ (q : Addr) (vm₁ : Vm) (B : Pt), s.WarmedH vm₁ ∧ Stand p l e R s m args below meth c B.U B.locs B.cells B.slots ∧ PostX ⟨T.setVm vm₁, locs, cells, slots⟩ (Value.ref b :: argsL).toArray q B ∧
      Steps p.tables e below (T.setTop g) ((B.U.setTop { g with stack := rest }).pushFrame (.throwing q))) := by
  obtain ⟨mk, methM, hnamed, hmethM, hstM, habM⟩ := Cond.instanceMethod_spec hinst
  obtain ⟨m8, methM', cM, hn8, hmethM', -, -, -, -, -, -, hsigM⟩ := Cond.codeWith_spec hcode
  cases Option.some.inj (hn8.symm.trans hnamed)
  cases hmethM.symm.trans hmethM'
  obtain ⟨c2, r2, m2, q1, q2, q3, q4, kP, hkP, hkPi⟩ := Cond.selects_spec hsel
  cases hcls.symm.trans q1
  cases (State.methodFound?_of_named hnamed hy).symm.trans q2
  cases hnamed.symm.trans q3
  have hselP : selectMethod e.platform s.vm cellB.cls mk = .method mk := by rw [Launch.admits_selectMethod X.admits]; exact q4
  obtain ⟨vm₁, X₁, hstep₁⟩ := X.invokevirtual hexec hown hlink hnamed hmethM hstM hkP hkPi hy (a := b) (cell := cellB) hcell
    (fun z h => by rw [h] at hobj; cases hobj) hselP hmethM habM hkP hkPi (g := g) hg (argsL := argsL) (rest := rest) (hlen _ hsigM) hstack hdg
  rcases hK m meth c ⟨T.setVm vm₁, locs, cells, slots⟩ { g with stack := rest } (.invokevirtual index) mk (Value.ref b :: argsL).toArray X₁ hg hsize hdg hW (X₁.named hnamed) (hpre vm₁ X₁.warmed) with ⟨v, B, X', hpost, hsteps⟩ | ⟨q, B, X', hpost, hsteps⟩
  · exact Or.inl ⟨v, vm₁, B, X₁.warmed, X', hpost, fun target h => hstep₁ _ fun acts => by rw [doInvoke_state]; exact hsteps.trans h⟩
  · exact Or.inr ⟨q, vm₁, B, X₁.warmed, X', hpost, hstep₁ _ fun acts => by rw [doInvoke_state]; exact hsteps⟩
theorem vx_callSX (X : Stand p l e R s m args below meth c T locs cells slots) (hexec : p.tables.exec = Jvm.exec) {own : String} {index : Nat} {y : MethodName} {bytes : ByteArray} {maxL : Nat} {ret : Option FieldType} {hh : List (Nat × Nat × Nat × Nat)}
    (hown : s.vm.findClass own = some m.cls) (hlink : (Cond.methodLink own index y).before args s = true) (hstat : (Cond.static y).before args s = true) (hinit : (Cond.initialized y.cls).before args s = true)
    (hcode : (Cond.codeWith y bytes maxL ret hh).before args s = true) (hy : y.cls ≠ "java/lang/invoke/MethodHandle" ∧ y.cls ≠ "java/lang/invoke/VarHandle")
    {W9 : Nat} {Pre : Pt → Array Value → Prop} {Post : Pt → Array Value → Option Value → Pt → Prop} {PostX : Pt → Array Value → Addr → Pt → Prop} (hK : vx_Back l R p e below s args y 3 W9 Pre Post PostX)
    {g : JFrame} (hg : g.method = m) (hsize : g.locals.size = c.maxLocals) {argsL rest : List Value} (hlen : ∀ sig, parseMethodDescriptor y.desc = some sig → argsL.length = sig.parameters.length)
    (hstack : g.stack = argsL.reverse ++ rest) (hW : 2 * g.monitorRoom + (rest.map fun v => v.category).sum ≤ W9) (hdg : decode c.code g.pc = .ok (.invokestatic index, 3))
    (hpre : ∀ vm₁, s.WarmedH vm₁ → Pre ⟨T.setVm vm₁, locs, cells, slots⟩ argsL.toArray) :
    (∃ (v : Option Value) (vm₁ : Vm) (B : Pt), s.WarmedH vm₁ ∧ Stand p l e R s m args below meth c B.U B.locs B.cells B.slots ∧ Post ⟨T.setVm vm₁, locs, cells, slots⟩ argsL.toArray v B ∧
      ∀ target, Steps p.tables e below (B.U.setTop { g with pc := g.pc + 3, stack := v.toList ++ rest }) target → Steps p.tables e below (T.setTop g) target) ∨
    (∃ (q : Addr) (vm₁ : Vm) (B : Pt), s.WarmedH vm₁ ∧ Stand p l e R s m args below meth c B.U B.locs B.cells B.slots ∧ PostX ⟨T.setVm vm₁, locs, cells, slots⟩ argsL.toArray q B ∧
      Steps p.tables e below (T.setTop g) ((B.U.setTop { g with stack := rest }).pushFrame (.throwing q))) := by
  obtain ⟨mk, methM, cM, hnamed, hmethM, -, -, -, -, -, -, hsigM⟩ := Cond.codeWith_spec hcode
  have hstatic : methM.isStatic = true := Cond.static_spec hnamed hmethM hstat
  obtain ⟨kP, hkP, -⟩ := className_of_methodNamed hnamed
  have hinitP : kP.init = .initialized := Cond.initialized_spec (findClass_of_methodNamed hnamed) hkP hinit
  obtain ⟨vm₁, X₁, hstep₁⟩ := X.invokestatic hexec hown hlink hnamed hmethM hstatic hkP hinitP hy (g := g) hg (argsL := argsL) (rest := rest) (hlen _ hsigM) hstack hdg
  rcases hK m meth c ⟨T.setVm vm₁, locs, cells, slots⟩ { g with stack := rest } (.invokestatic index) mk argsL.toArray X₁ hg hsize hdg hW (X₁.named hnamed) (hpre vm₁ X₁.warmed) with ⟨v, B, X', hpost, hsteps⟩ | ⟨q, B, X', hpost, hsteps⟩
  · exact Or.inl ⟨v, vm₁, B, X₁.warmed, X', hpost, fun target h => hstep₁ _ fun acts => by rw [doInvoke_state]; exact hsteps.trans h⟩
  · exact Or.inr ⟨q, vm₁, B, X₁.warmed, X', hpost, hstep₁ _ fun acts => by rw [doInvoke_state]; exact hsteps⟩
theorem vx_callVW (X : Stand p l e R s m args below meth c T locs cells slots) (hexec : p.tables.exec = Jvm.exec) {own C : String} {index : Nat} {y : MethodName} {bytes : ByteArray} {maxL : Nat} {ret : Option FieldType} {hh : List (Nat × Nat × Nat × Nat)}
    (hown : s.vm.findClass own = some m.cls) (hlink : (Cond.methodLink own index y).before args s = true) (hinst : (Cond.instanceMethod y).before args s = true) (hsel : (Cond.selects C y y).before args s = true)
    (hcode : (Cond.codeWith y bytes maxL ret hh).before args s = true) (hy : y.cls ≠ "java/lang/invoke/MethodHandle" ∧ y.cls ≠ "java/lang/invoke/VarHandle")
    {W9 : Nat} {Pre : Pt → Array Value → Prop} {Post : Pt → Array Value → Option Value → Pt → Prop} (hK : Back l R p e below s args y 3 W9 Pre Post)
    {b : Addr} {cellB : Cell} (hcell : T.heap[b]? = some cellB) (hobj : cellB.vm.isStatics = false) (hcls : s.vm.findClass C = some cellB.cls)
    {g : JFrame} (hg : g.method = m) (hsize : g.locals.size = c.maxLocals) {argsL rest : List Value} (hlen : ∀ sig, parseMethodDescriptor y.desc = some sig → argsL.length = sig.parameters.length)
    (hstack : g.stack = argsL.reverse ++ .ref b :: rest) (hW : 2 * g.monitorRoom + (rest.map fun v => v.category).sum ≤ W9) (hdg : decode c.code g.pc = .ok (.invokevirtual index, 3))
    (hpre : ∀ vm₁, s.WarmedH vm₁ → Pre ⟨T.setVm vm₁, locs, cells, slots⟩ (Value.ref b :: argsL).toArray) :
    ∃ (v : Option Value) (vm₁ : Vm) (B : Pt), s.WarmedH vm₁ ∧ Stand p l e R s m args below meth c B.U B.locs B.cells B.slots ∧ Post ⟨T.setVm vm₁, locs, cells, slots⟩ (Value.ref b :: argsL).toArray v B ∧
      ∀ target, Steps p.tables e below (B.U.setTop { g with pc := g.pc + 3, stack := v.toList ++ rest }) target → Steps p.tables e below (T.setTop g) target := by
  obtain ⟨mk, methM, hnamed, hmethM, hstM, habM⟩ := Cond.instanceMethod_spec hinst
  obtain ⟨m8, methM', cM, hn8, hmethM', -, -, -, -, -, -, hsigM⟩ := Cond.codeWith_spec hcode
  cases Option.some.inj (hn8.symm.trans hnamed)
  cases hmethM.symm.trans hmethM'
  obtain ⟨c2, r2, m2, q1, q2, q3, q4, kP, hkP, hkPi⟩ := Cond.selects_spec hsel
  cases hcls.symm.trans q1
  cases (State.methodFound?_of_named hnamed hy).symm.trans q2
  cases hnamed.symm.trans q3
  have hselP : selectMethod e.platform s.vm cellB.cls mk = .method mk := by rw [Launch.admits_selectMethod X.admits]; exact q4
  obtain ⟨vm₁, X₁, hstep₁⟩ := X.invokevirtual hexec hown hlink hnamed hmethM hstM hkP hkPi hy (a := b) (cell := cellB) hcell
    (fun z h => by rw [h] at hobj; cases hobj) hselP hmethM habM hkP hkPi (g := g) hg (argsL := argsL) (rest := rest) (hlen _ hsigM) hstack hdg
  obtain ⟨v, B, X', hpost, hsteps⟩ := hK m meth c ⟨T.setVm vm₁, locs, cells, slots⟩ { g with stack := rest } (.invokevirtual index) mk (Value.ref b :: argsL).toArray X₁ hg hsize hdg hW (X₁.named hnamed) (hpre vm₁ X₁.warmed)
  exact ⟨v, vm₁, B, X₁.warmed, X', hpost, fun target h => hstep₁ _ fun acts => by rw [doInvoke_state]; exact hsteps.trans h⟩
abbrev vx_CVW (R : Room) (s : State) (args : Array Value) (own C : String) (index : Nat) (y : MethodName) (bytes : ByteArray) (maxL : Nat) (ret : Option FieldType) (hh : List (Nat × Nat × Nat × Nat)) (ws : List Cond) (rm : Room) (mc ms n : Nat) : Prop :=
  (rm.cells = mc ∧ rm.slots = ms ∧ rm.frames + 1 ≤ R.frames ∧ 8 + (maxL + 11) + rm.locals ≤ R.locals ∧ (∀ w ∈ ws, ∀ (a' : Array Value) (U : State), s.WarmedH U.vm → w.before a' U = true) ∧ Cond.codeWith y bytes maxL ret hh ∈ ws) ∧
  (Cond.codeWith y bytes maxL ret hh).before args s = true ∧ (Cond.initialized y.cls).before args s = true ∧ (y.cls ≠ "java/lang/invoke/MethodHandle" ∧ y.cls ≠ "java/lang/invoke/VarHandle") ∧
  (∀ sig, parseMethodDescriptor y.desc = some sig → n = sig.parameters.length) ∧ (Cond.methodLink own index y).before args s = true ∧ (Cond.instanceMethod y).before args s = true ∧ (Cond.selects C y y).before args s = true
theorem vx_cwVW {own C : String} {index maxL mc ms : Nat} {y : MethodName} {bytes : ByteArray} {ret : Option FieldType} {hh : List (Nat × Nat × Nat × Nat)} {Ts ws ws' : List Cond} {rm : Room} (n : Nat) (ht : ∀ w ∈ Ts, w.before args s = true) (hT : GoodIn Ts (wsV own index C y ws)) (hw : ws = Cond.codeWith y bytes maxL ret hh :: ws') (hrc : rm.cells = mc) (hrs : rm.slots = ms)
    (hd : y.cls = C ∧ y.cls ≠ "java/lang/invoke/MethodHandle" ∧ y.cls ≠ "java/lang/invoke/VarHandle" ∧ (parseMethodDescriptor y.desc).map (fun d => d.parameters.length) = some n) (hR : rm.frames + 1 ≤ R.frames ∧ 8 + (maxL + 11) + rm.locals ≤ R.locals) :
    vx_CVW R s args own C index y bytes maxL ret hh ws rm mc ms n := by
  obtain ⟨hC, hd⟩ := hd
  subst hC
  have ok : ∀ w ∈ wsV own index y.cls y ws, w.before args s = true := fun w h => ht w (hT w h).1
  have hG : GoodIn Ts ws := fun w h => hT w (by unfold wsV; exact List.mem_append_right _ h)
  have hc : Cond.codeWith y bytes maxL ret hh ∈ ws := by rw [hw]; exact List.mem_cons_self
  refine ⟨⟨hrc, hrs, hR.1, hR.2, pay_in ht hG, hc⟩, ht _ (hG _ hc).1, ok _ (by simp [wsV]), ⟨hd.1, hd.2.1⟩, fun sig h => ?_, ok _ (by simp [wsV]), ok _ (by simp [wsV]), ok _ (by simp [wsV])⟩
  have h2 := hd.2.2
  rw [h] at h2
  exact (Option.some.inj h2).symm
theorem vx_runVW {y : MethodName} {bytes cc : ByteArray} {maxL nL mc ms n index : Nat} {ret : Option FieldType} {hh : List (Nat × Nat × Nat × Nat)} {ws : List Cond} {rm : Room} {Pc : Array Value → State → Prop} {Qc : Array Value → State → Outcome → State → Prop} {free : Addr → Prop} {Ts : List Cond} {own C : String} {b : Addr} {As rest : List Value} {g : JFrame}
    (S : CallFix p m c cc nL s args Ts own) (hM : Met l y ws rm Pc Qc mc ms free) (cw : vx_CVW R s args own C index y bytes maxL ret hh ws rm mc ms n) (hp : PreV s H C b Pc As)
    (hg : g.method = m) (hn : As.length = n) (hsize : g.locals.size = nL) (hstack : g.stack = As.reverse ++ .ref b :: rest) (hW : 2 * g.monitorRoom + (rest.map fun v => v.category).sum ≤ 8) (hdg : decode cc g.pc = .ok (.invokevirtual index, 3)) (hf : cells + mc ≤ R.cells ∧ slots + ms ≤ R.slots) :
    va_Run p l e R s m args below meth c H locs cells slots mc ms g rest (Qc (Value.ref b :: As).toArray) free := by
  obtain ⟨⟨hrc, hrs, hfr, hlo, hws, hcw⟩, hcode, hini, hy, hlen, hl, hin, hse⟩ := cw
  have hK : Back l R p e below s args y 3 8 (PreOf R mc ms Pc) (PostOf Qc mc ms free) := va_backW (hh := hh) (bytes := bytes) (maxL := maxL) (ret := ret) hM hp.1 hrc hrs hfr hlo hws hcw (fun a' U hW => word_at hW (Or.inl (by first | rfl | simp [Cond.onTables, Cond.keeps, Cond.steady])) hini)
  obtain ⟨hx, hb, hml, ho, -⟩ := S
  obtain ⟨-, ⟨cellB, hcB, hoB, hclB⟩, hPc⟩ := hp
  intro T hT X
  obtain ⟨v, vm₁, ⟨U', l2, c2, s2⟩, hW₁, X', ⟨g', mk, t, L, e1, e2, hq, h1, hL, h2, h3⟩, st⟩ := vx_callVW X hx (C := C) (hh := hh) (bytes := bytes) (maxL := maxL) (ret := ret) ho hl hin hse hcode hy hK (by rw [hT]; exact hcB) hoB hclB hg (hsize.trans hml.symm) (argsL := As) (rest := rest) (fun sig h => hn.trans (hlen sig h)) hstack hW (by rw [hb]; exact hdg)
    (fun vm₁ hW₁ => ⟨hf.1, hf.2, hPc (T.setVm vm₁) hT hW₁⟩)
  dsimp only [Pt.U, Pt.locs, Pt.cells, Pt.slots] at X' e1 e2 h1 h2 h3 st
  subst h1; subst h2; subst h3
  exact ⟨v, (T.setVm vm₁).calling g' mk (Value.ref b :: As).toArray, t, U', L, hT, X', hL, e1, e2, hq, st⟩
section
variable {y : MethodName} {bytes cc : ByteArray} {maxL nL mc ms n index : Nat} {ret : Option FieldType} {ws : List Cond} {rm : Room} {Pc : Array Value → State → Prop} {Qc : Array Value → State → Outcome → State → Prop} {XC : String → State → State → Prop} {free : Addr → Prop} {Ts : List Cond} {own C : String} {b : Addr} {As rest : List Value} {g : JFrame}
theorem vx_runVX {hh : List (Nat × Nat × Nat × Nat)} (S : CallFix p m c cc nL s args Ts own) (hM : vx_Met l y ws rm Pc Qc XC mc ms free) (cw : vx_CVW R s args own C index y bytes maxL ret hh ws rm mc ms n) (hp : PreV s H C b Pc As)
    (hg : g.method = m) (hn : As.length = n) (hsize : g.locals.size = nL) (hstack : g.stack = As.reverse ++ .ref b :: rest) (hW : 2 * g.monitorRoom + (rest.map fun v => v.category).sum ≤ 8) (hdg : decode cc g.pc = .ok (.invokevirtual index, 3)) (hf : cells + mc ≤ R.cells ∧ slots + ms ≤ R.slots) :
    vx_Run p l e R s m args below meth c H locs cells slots mc ms g rest (Qc (Value.ref b :: As).toArray) XC free := by
  obtain ⟨⟨hrc, hrs, hfr, hlo, hws, hcw⟩, hcode, hini, hy, hlen, hl, hin, hse⟩ := cw
  have hK : vx_Back l R p e below s args y 3 8 (PreOf R mc ms Pc) (PostOf Qc mc ms free) (vx_Post XC mc ms free) := vx_backW (hh := hh) (bytes := bytes) (maxL := maxL) (ret := ret) hM hp.1 hrc hrs hfr hlo hws hcw (fun a' U hW => word_at hW (Or.inl (by first | rfl | simp [Cond.onTables, Cond.keeps, Cond.steady])) hini)
  obtain ⟨hx, hb, hml, ho, -⟩ := S
  obtain ⟨-, ⟨cellB, hcB, hoB, hclB⟩, hPc⟩ := hp
  intro T hT X
  rcases vx_callVX X hx (C := C) (hh := hh) (bytes := bytes) (maxL := maxL) (ret := ret) ho hl hin hse hcode hy hK (by rw [hT]; exact hcB) hoB hclB hg (hsize.trans hml.symm) (argsL := As) (rest := rest) (fun sig h => hn.trans (hlen sig h)) hstack hW (by rw [hb]; exact hdg)
    (fun vm₁ hW₁ => ⟨hf.1, hf.2, hPc (T.setVm vm₁) hT hW₁⟩) with ⟨v, vm₁, ⟨U', l2, c2, s2⟩, hW₁, X', ⟨g', mk, t, L, e1, e2, hq, h1, hL, h2, h3⟩, st⟩ | ⟨q, vm₁, ⟨U', l2, c2, s2⟩, hW₁, X', ⟨g', mk, t, L, E, ce, e1, e2, hq, hce, hcv, hcl, h1, hL, h2, h3⟩, st⟩
  · dsimp only [Pt.U, Pt.locs, Pt.cells, Pt.slots] at X' e1 e2 h1 h2 h3 st
    subst h1; subst h2; subst h3
    exact Or.inl ⟨v, (T.setVm vm₁).calling g' mk (Value.ref b :: As).toArray, t, U', L, hT, X', hL, e1, e2, hq, st⟩
  · dsimp only [Pt.U, Pt.locs, Pt.cells, Pt.slots] at X' e1 e2 h1 h2 h3 st hcl
    subst h1; subst h2; subst h3
    exact Or.inr ⟨q, (T.setVm vm₁).calling g' mk (Value.ref b :: As).toArray, t, U', L, E, ce, hT, X', hL, e1, e2, hq, hce, hcv, vx_cls hW₁ hcl, st⟩
theorem vx_runSX {hh : List (Nat × Nat × Nat × Nat)} (S : CallFix p m c cc nL s args Ts own) (hM : vx_Met l y ws rm Pc Qc XC mc ms free) (cw : vx_CSW R s args own index y bytes maxL ret hh ws rm mc ms n) (hp : PreS s H Pc As)
    (hg : g.method = m) (hn : As.length = n) (hsize : g.locals.size = nL) (hstack : g.stack = As.reverse ++ rest) (hW : 2 * g.monitorRoom + (rest.map fun v => v.category).sum ≤ 8) (hdg : decode cc g.pc = .ok (.invokestatic index, 3)) (hf : cells + mc ≤ R.cells ∧ slots + ms ≤ R.slots) :
    vx_Run p l e R s m args below meth c H locs cells slots mc ms g rest (Qc As.toArray) XC free := by
  obtain ⟨⟨hrc, hrs, hfr, hlo, hws, hcw⟩, hcode, hini, hy, hlen, hl, hstt⟩ := cw
  have hK : vx_Back l R p e below s args y 3 8 (PreOf R mc ms Pc) (PostOf Qc mc ms free) (vx_Post XC mc ms free) := vx_backW (hh := hh) (bytes := bytes) (maxL := maxL) (ret := ret) hM hp.1 hrc hrs hfr hlo hws hcw (fun a' U hW => word_at hW (Or.inl (by first | rfl | simp [Cond.onTables, Cond.keeps, Cond.steady])) hini)
  obtain ⟨hx, hb, hml, ho, -⟩ := S
  intro T hT X
  rcases vx_callSX X hx (hh := hh) (bytes := bytes) (maxL := maxL) (ret := ret) ho hl hstt hini hcode hy hK hg (hsize.trans hml.symm) (argsL := As) (rest := rest) (fun sig h => hn.trans (hlen sig h)) hstack hW (by rw [hb]; exact hdg)
    (fun vm₁ hW₁ => ⟨hf.1, hf.2, hp.2 (T.setVm vm₁) hT hW₁⟩) with ⟨v, vm₁, ⟨U', l2, c2, s2⟩, hW₁, X', ⟨g', mk, t, L, e1, e2, hq, h1, hL, h2, h3⟩, st⟩ | ⟨q, vm₁, ⟨U', l2, c2, s2⟩, hW₁, X', ⟨g', mk, t, L, E, ce, e1, e2, hq, hce, hcv, hcl, h1, hL, h2, h3⟩, st⟩
  · dsimp only [Pt.U, Pt.locs, Pt.cells, Pt.slots] at X' e1 e2 h1 h2 h3 st
    subst h1; subst h2; subst h3
    exact Or.inl ⟨v, (T.setVm vm₁).calling g' mk As.toArray, t, U', L, hT, X', hL, e1, e2, hq, st⟩
  · dsimp only [Pt.U, Pt.locs, Pt.cells, Pt.slots] at X' e1 e2 h1 h2 h3 st hcl
    subst h1; subst h2; subst h3
    exact Or.inr ⟨q, (T.setVm vm₁).calling g' mk As.toArray, t, U', L, E, ce, hT, X', hL, e1, e2, hq, hce, hcv, vx_cls hW₁ hcl, st⟩
end
end VXH
theorem vx_ofWH {l : Launch} {y : MethodName} {ws ws' : List Cond} {rm : Room} {Pc : Array Value → State → Prop} {Qc : Array Value → State → Outcome → State → Prop} {XC : String → State → State → Prop} {mc ms : Nat} {free : Addr → Prop} {cc : ByteArray} {maxL : Nat} {ret : Option FieldType} {hh : List (Nat × Nat × Nat × Nat)}
    (hy : plainName y.cls = true) (hw : ws = Cond.codeWith y cc maxL ret hh :: ws')
    (body : ∀ p e s m args below meth c s₁, BodyLoose p l y (headSpec ws rm) cc maxL ret e s m args below meth c s₁ → c.maxLocals = maxL → Pc args s →
      W p l e (headSpec ws rm).room s m args below meth c s.heap [] 0 0 (vx_MQ below Qc XC args s mc ms free) (entryFrame m args maxL)) : vx_Met l y ws rm Pc Qc XC mc ms free := by
  refine MetFree.of_bodyS (code := cc) (maxLocals := maxL) (ret := ret) hy ?_ ?_
  · intro args s m h hn
    obtain ⟨m9, meth, c, hn9, h1, h2, h3, h4, -, h5, h6, -⟩ := Cond.codeWith_spec (atoms_spec (ws := ws) h _ (by rw [hw]; exact List.mem_cons_self))
    cases hn.symm.trans hn9
    exact ⟨meth, c, h1, h2, h3, h4, h5, h6⟩
  · intro p e s m args below meth c s₁ B hml hP _
    have hh0 : s₁.heap = s.heap := by rw [B.state]; rfl
    obtain ⟨t, a1, o, b1, b2, b3⟩ := body p e s m args below meth c s₁ B hml hP s₁ hh0 (Stand.of_body B)
    exact ⟨t, o, a1, b1, b2, b3⟩
/-! ===== END ===== -/
end
section
/-! ===== BEGIN printed: names, fields, word lists, decode rows ===== -/
def RX0 : String := "RingHeap$Collector"
def TX0 : u_T := fun k => match k with
  | 0 => ("RingHeap$Collector", "store", "LRingHeap$Store;", true)
  | 1 => ("RingHeap$Collector", "counting", "LRingHeap$Counting;", true)
  | 2 => ("RingHeap$Collector", "reached", "LRingHeap$Row;", true)
  | 3 => ("RingHeap$Collector", "darkened", "LRingHeap$Row;", true)
  | 4 => ("RingHeap$Collector", "collections", "I", false)
  | 5 => ("RingHeap$Collector", "grayed", "I", false)
  | _ => ("RingHeap$Collector", "blackened", "I", false)
def tyX0 : Nat → FieldType := fun k => match k with
  | 0 => .object "RingHeap$Store"
  | 1 => .object "RingHeap$Counting"
  | 2 => .object "RingHeap$Row"
  | 3 => .object "RingHeap$Row"
  | 4 => .int
  | 5 => .int
  | _ => .int
abbrev wsX00 : List Cond := u_ws RX0 TX0 7
theorem nmX0 : ∀ a, a < 7 → ∀ b, b < 7 → a ≠ b → (TX0 a).2.1 ≠ (TX0 b).2.1 := by decide +kernel
theorem tyX0_ok : ∀ k, k < 7 → parseFieldDescriptor (TX0 k).2.2.1 = some (tyX0 k) := by decide +kernel
abbrev cX0_init : ByteArray := prog_2_method_1_code
def yX0_init : MethodName := ⟨RX0, "<init>", "(LRingHeap$Store;LRingHeap$Counting;)V"⟩
abbrev cX0_run : ByteArray := prog_2_method_2_code
def yX0_run : MethodName := ⟨RX0, "run", "()I"⟩
abbrev cX0_markListed : ByteArray := prog_2_method_3_code
def yX0_markListed : MethodName := ⟨RX0, "markListed", "()V"⟩
abbrev cX0_markFrom : ByteArray := prog_2_method_4_code
def yX0_markFrom : MethodName := ⟨RX0, "markFrom", "(LRingHeap$Thing;)V"⟩
abbrev cX0_turnGray : ByteArray := prog_2_method_5_code
def yX0_turnGray : MethodName := ⟨RX0, "turnGray", "(LRingHeap$Thing;)V"⟩
abbrev cX0_scanListed : ByteArray := prog_2_method_6_code
def yX0_scanListed : MethodName := ⟨RX0, "scanListed", "()V"⟩
abbrev cX0_scanFrom : ByteArray := prog_2_method_7_code
def yX0_scanFrom : MethodName := ⟨RX0, "scanFrom", "(LRingHeap$Thing;)V"⟩
abbrev cX0_judge : ByteArray := prog_2_method_8_code
def yX0_judge : MethodName := ⟨RX0, "judge", "(LRingHeap$Thing;)V"⟩
abbrev cX0_blackenFrom : ByteArray := prog_2_method_9_code
def yX0_blackenFrom : MethodName := ⟨RX0, "blackenFrom", "(LRingHeap$Thing;)V"⟩
abbrev cX0_turnBlack : ByteArray := prog_2_method_10_code
def yX0_turnBlack : MethodName := ⟨RX0, "turnBlack", "(LRingHeap$Thing;)V"⟩
abbrev cX0_tellWishes : ByteArray := prog_2_method_11_code
def yX0_tellWishes : MethodName := ⟨RX0, "tellWishes", "()V"⟩
abbrev cX0_emptyList : ByteArray := prog_2_method_12_code
def yX0_emptyList : MethodName := ⟨RX0, "emptyList", "()V"⟩
abbrev cX0_freeWhite : ByteArray := prog_2_method_13_code
def yX0_freeWhite : MethodName := ⟨RX0, "freeWhite", "()V"⟩
def RX1 : String := "RingHeap$Counting"
def TX1 : u_T := fun k => match k with
  | 0 => ("RingHeap$Counting", "store", "LRingHeap$Store;", true)
  | 1 => ("RingHeap$Counting", "going", "LRingHeap$Row;", true)
  | 2 => ("RingHeap$Counting", "list", "LRingHeap$Row;", true)
  | _ => ("RingHeap$Counting", "wishes", "LRingHeap$Row;", true)
def tyX1 : Nat → FieldType := fun k => match k with
  | 0 => .object "RingHeap$Store"
  | 1 => .object "RingHeap$Row"
  | 2 => .object "RingHeap$Row"
  | _ => .object "RingHeap$Row"
abbrev wsX10 : List Cond := u_ws RX1 TX1 4
theorem nmX1 : ∀ a, a < 4 → ∀ b, b < 4 → a ≠ b → (TX1 a).2.1 ≠ (TX1 b).2.1 := by decide +kernel
theorem tyX1_ok : ∀ k, k < 4 → parseFieldDescriptor (TX1 k).2.2.1 = some (tyX1 k) := by decide +kernel
abbrev cX1_init : ByteArray := prog_3_method_1_code
def yX1_init : MethodName := ⟨RX1, "<init>", "(LRingHeap$Store;)V"⟩
abbrev cX1_more : ByteArray := prog_3_method_2_code
def yX1_more : MethodName := ⟨RX1, "more", "(LRingHeap$Thing;)V"⟩
abbrev cX1_less : ByteArray := prog_3_method_3_code
def yX1_less : MethodName := ⟨RX1, "less", "(LRingHeap$Thing;)I"⟩
abbrev cX1_tellWish : ByteArray := prog_3_method_4_code
def yX1_tellWish : MethodName := ⟨RX1, "tellWish", "(LRingHeap$Thing;)V"⟩
abbrev cX1_lower : ByteArray := prog_3_method_5_code
def yX1_lower : MethodName := ⟨RX1, "lower", "(LRingHeap$Thing;)V"⟩
abbrev cX1_suspect : ByteArray := prog_3_method_6_code
def yX1_suspect : MethodName := ⟨RX1, "suspect", "(LRingHeap$Thing;)V"⟩
abbrev cX1_finish : ByteArray := prog_3_method_7_code
def yX1_finish : MethodName := ⟨RX1, "finish", "(LRingHeap$Thing;)V"⟩
def RX2 : String := "RingHeap$Kind"
def TX2 : u_T := fun k => match k with
  | 0 => ("RingHeap$Kind", "number", "I", true)
  | 1 => ("RingHeap$Kind", "fields", "I", true)
  | 2 => ("RingHeap$Kind", "size", "I", true)
  | _ => ("RingHeap$Kind", "wish", "Z", true)
def tyX2 : Nat → FieldType := fun k => match k with
  | 0 => .int
  | 1 => .int
  | 2 => .int
  | _ => .boolean
abbrev wsX20 : List Cond := u_ws RX2 TX2 4
theorem nmX2 : ∀ a, a < 4 → ∀ b, b < 4 → a ≠ b → (TX2 a).2.1 ≠ (TX2 b).2.1 := by decide +kernel
theorem tyX2_ok : ∀ k, k < 4 → parseFieldDescriptor (TX2 k).2.2.1 = some (tyX2 k) := by decide +kernel
abbrev cX2_init : ByteArray := prog_4_method_1_code
def yX2_init : MethodName := ⟨RX2, "<init>", "(IIIZ)V"⟩
def RX3 : String := "RingHeap$Row"
def TX3 : u_T := fun k => match k with
  | 0 => ("RingHeap$Row", "things", "[LRingHeap$Thing;", true)
  | _ => ("RingHeap$Row", "length", "I", false)
def tyX3 : Nat → FieldType := fun k => match k with
  | 0 => .array (.object "RingHeap$Thing")
  | _ => .int
abbrev wsX30 : List Cond := u_ws RX3 TX3 2
theorem nmX3 : ∀ a, a < 2 → ∀ b, b < 2 → a ≠ b → (TX3 a).2.1 ≠ (TX3 b).2.1 := by decide +kernel
theorem tyX3_ok : ∀ k, k < 2 → parseFieldDescriptor (TX3 k).2.2.1 = some (tyX3 k) := by decide +kernel
abbrev cX3_init : ByteArray := prog_5_method_1_code
def yX3_init : MethodName := ⟨RX3, "<init>", "()V"⟩
abbrev cX3_append : ByteArray := prog_5_method_2_code
def yX3_append : MethodName := ⟨RX3, "append", "(LRingHeap$Thing;)V"⟩
abbrev cX3_item : ByteArray := prog_5_method_3_code
def yX3_item : MethodName := ⟨RX3, "item", "(I)LRingHeap$Thing;"⟩
abbrev cX3_last : ByteArray := prog_5_method_4_code
def yX3_last : MethodName := ⟨RX3, "last", "()LRingHeap$Thing;"⟩
abbrev cX3_removeLast : ByteArray := prog_5_method_5_code
def yX3_removeLast : MethodName := ⟨RX3, "removeLast", "()V"⟩
abbrev cX3_takeFirst : ByteArray := prog_5_method_6_code
def yX3_takeFirst : MethodName := ⟨RX3, "takeFirst", "()LRingHeap$Thing;"⟩
abbrev cX3_clear : ByteArray := prog_5_method_7_code
def yX3_clear : MethodName := ⟨RX3, "clear", "()V"⟩
def RX4 : String := "RingHeap$Store"
def TX4 : u_T := fun k => match k with
  | 0 => ("RingHeap$Store", "things", "[LRingHeap$Thing;", true)
  | 1 => ("RingHeap$Store", "freedNumbers", "[I", true)
  | 2 => ("RingHeap$Store", "weaks", "[LRingHeap$Thing;", true)
  | 3 => ("RingHeap$Store", "words", "LRingHeap$Words;", true)
  | 4 => ("RingHeap$Store", "thingsThere", "I", false)
  | _ => ("RingHeap$Store", "freedEver", "I", false)
def tyX4 : Nat → FieldType := fun k => match k with
  | 0 => .array (.object "RingHeap$Thing")
  | 1 => .array .int
  | 2 => .array (.object "RingHeap$Thing")
  | 3 => .object "RingHeap$Words"
  | 4 => .int
  | _ => .int
abbrev wsX40 : List Cond := u_ws RX4 TX4 6
theorem nmX4 : ∀ a, a < 6 → ∀ b, b < 6 → a ≠ b → (TX4 a).2.1 ≠ (TX4 b).2.1 := by decide +kernel
theorem tyX4_ok : ∀ k, k < 6 → parseFieldDescriptor (TX4 k).2.2.1 = some (tyX4 k) := by decide +kernel
abbrev cX4_init : ByteArray := prog_6_method_1_code
def yX4_init : MethodName := ⟨RX4, "<init>", "()V"⟩
abbrev cX4_thing : ByteArray := prog_6_method_2_code
def yX4_thing : MethodName := ⟨RX4, "thing", "(I)LRingHeap$Thing;"⟩
abbrev cX4_living : ByteArray := prog_6_method_3_code
def yX4_living : MethodName := ⟨RX4, "living", "(I)LRingHeap$Thing;"⟩
abbrev cX4_leastFreeNumber : ByteArray := prog_6_method_4_code
def yX4_leastFreeNumber : MethodName := ⟨RX4, "leastFreeNumber", "()I"⟩
abbrev cX4_hasRoomFor : ByteArray := prog_6_method_5_code
def yX4_hasRoomFor : MethodName := ⟨RX4, "hasRoomFor", "(LRingHeap$Kind;)Z"⟩
abbrev cX4_place : ByteArray := prog_6_method_6_code
def yX4_place : MethodName := ⟨RX4, "place", "(LRingHeap$Kind;)I"⟩
abbrev cX4_free : ByteArray := prog_6_method_7_code
def yX4_free : MethodName := ⟨RX4, "free", "(LRingHeap$Thing;)V"⟩
abbrev cX4_freedNumber : ByteArray := prog_6_method_8_code
def yX4_freedNumber : MethodName := ⟨RX4, "freedNumber", "(I)I"⟩
def RX5 : String := "RingHeap$Thing"
def TX5 : u_T := fun k => match k with
  | 0 => ("RingHeap$Thing", "number", "I", true)
  | 1 => ("RingHeap$Thing", "kind", "LRingHeap$Kind;", true)
  | 2 => ("RingHeap$Thing", "held", "[LRingHeap$Thing;", true)
  | 3 => ("RingHeap$Thing", "count", "I", false)
  | 4 => ("RingHeap$Thing", "hands", "I", false)
  | 5 => ("RingHeap$Thing", "colour", "I", false)
  | 6 => ("RingHeap$Thing", "address", "I", false)
  | 7 => ("RingHeap$Thing", "nextField", "I", false)
  | 8 => ("RingHeap$Thing", "inList", "Z", false)
  | 9 => ("RingHeap$Thing", "wishUntold", "Z", false)
  | _ => ("RingHeap$Thing", "husk", "Z", false)
def tyX5 : Nat → FieldType := fun k => match k with
  | 0 => .int
  | 1 => .object "RingHeap$Kind"
  | 2 => .array (.object "RingHeap$Thing")
  | 3 => .int
  | 4 => .int
  | 5 => .int
  | 6 => .int
  | 7 => .int
  | 8 => .boolean
  | 9 => .boolean
  | _ => .boolean
abbrev wsX50 : List Cond := u_ws RX5 TX5 11
theorem nmX5 : ∀ a, a < 11 → ∀ b, b < 11 → a ≠ b → (TX5 a).2.1 ≠ (TX5 b).2.1 := by decide +kernel
theorem tyX5_ok : ∀ k, k < 11 → parseFieldDescriptor (TX5 k).2.2.1 = some (tyX5 k) := by decide +kernel
abbrev cX5_init : ByteArray := prog_7_method_1_code
def yX5_init : MethodName := ⟨RX5, "<init>", "(ILRingHeap$Kind;)V"⟩
abbrev cX5_hasField : ByteArray := prog_7_method_2_code
def yX5_hasField : MethodName := ⟨RX5, "hasField", "(I)Z"⟩
abbrev cX5_isGreen : ByteArray := prog_7_method_3_code
def yX5_isGreen : MethodName := ⟨RX5, "isGreen", "()Z"⟩
abbrev cX5_blackenUnlessGreen : ByteArray := prog_7_method_4_code
def yX5_blackenUnlessGreen : MethodName := ⟨RX5, "blackenUnlessGreen", "()V"⟩
abbrev cX5_giveUpNext : ByteArray := prog_7_method_5_code
def yX5_giveUpNext : MethodName := ⟨RX5, "giveUpNext", "()LRingHeap$Thing;"⟩
abbrev cX5_tell : ByteArray := prog_7_method_6_code
def yX5_tell : MethodName := ⟨RX5, "tell", "(I)I"⟩
def RX6 : String := "RingHeap$Words"
def TX6 : u_T := fun k => match k with
  | 0 => ("RingHeap$Words", "owners", "[LRingHeap$Thing;", true)
  | _ => ("RingHeap$Words", "free", "I", false)
def tyX6 : Nat → FieldType := fun k => match k with
  | 0 => .array (.object "RingHeap$Thing")
  | _ => .int
abbrev wsX60 : List Cond := u_ws RX6 TX6 2
theorem nmX6 : ∀ a, a < 2 → ∀ b, b < 2 → a ≠ b → (TX6 a).2.1 ≠ (TX6 b).2.1 := by decide +kernel
theorem tyX6_ok : ∀ k, k < 2 → parseFieldDescriptor (TX6 k).2.2.1 = some (tyX6 k) := by decide +kernel
abbrev cX6_init : ByteArray := prog_8_method_1_code
def yX6_init : MethodName := ⟨RX6, "<init>", "()V"⟩
abbrev cX6_owner : ByteArray := prog_8_method_2_code
def yX6_owner : MethodName := ⟨RX6, "owner", "(I)LRingHeap$Thing;"⟩
abbrev cX6_ownerFrom : ByteArray := prog_8_method_3_code
def yX6_ownerFrom : MethodName := ⟨RX6, "ownerFrom", "(I)LRingHeap$Thing;"⟩
abbrev cX6_gapFor : ByteArray := prog_8_method_4_code
def yX6_gapFor : MethodName := ⟨RX6, "gapFor", "(I)I"⟩
abbrev cX6_give : ByteArray := prog_8_method_5_code
def yX6_give : MethodName := ⟨RX6, "give", "(LRingHeap$Thing;I)V"⟩
abbrev cX6_takeBack : ByteArray := prog_8_method_6_code
def yX6_takeBack : MethodName := ⟨RX6, "takeBack", "(LRingHeap$Thing;)V"⟩
abbrev cX6_moveAllDown : ByteArray := prog_8_method_7_code
def yX6_moveAllDown : MethodName := ⟨RX6, "moveAllDown", "()I"⟩
def RX7 : String := "RingHeap"
def TX7 : u_T := fun k => match k with
  | 0 => ("RingHeap", "kinds", "[LRingHeap$Kind;", true)
  | 1 => ("RingHeap", "store", "LRingHeap$Store;", true)
  | 2 => ("RingHeap", "counting", "LRingHeap$Counting;", true)
  | 3 => ("RingHeap", "collector", "LRingHeap$Collector;", true)
  | _ => ("RingHeap", "moves", "I", false)
def tyX7 : Nat → FieldType := fun k => match k with
  | 0 => .array (.object "RingHeap$Kind")
  | 1 => .object "RingHeap$Store"
  | 2 => .object "RingHeap$Counting"
  | 3 => .object "RingHeap$Collector"
  | _ => .int
abbrev wsX70 : List Cond := u_ws RX7 TX7 5
theorem nmX7 : ∀ a, a < 5 → ∀ b, b < 5 → a ≠ b → (TX7 a).2.1 ≠ (TX7 b).2.1 := by decide +kernel
theorem tyX7_ok : ∀ k, k < 5 → parseFieldDescriptor (TX7 k).2.2.1 = some (tyX7 k) := by decide +kernel
abbrev cX7_init : ByteArray := prog_1_method_1_code
def yX7_init : MethodName := ⟨RX7, "<init>", "()V"⟩
abbrev cX7_type : ByteArray := prog_1_method_2_code
def yX7_type : MethodName := ⟨RX7, "type", "(IIIZ)Z"⟩
abbrev cX7_make : ByteArray := prog_1_method_3_code
def yX7_make : MethodName := ⟨RX7, "make", "(I)I"⟩
abbrev cX7_hold : ByteArray := prog_1_method_4_code
def yX7_hold : MethodName := ⟨RX7, "hold", "(I)I"⟩
abbrev cX7_loose : ByteArray := prog_1_method_5_code
def yX7_loose : MethodName := ⟨RX7, "loose", "(I)I"⟩
abbrev cX7_set : ByteArray := prog_1_method_6_code
def yX7_set : MethodName := ⟨RX7, "set", "(III)I"⟩
abbrev cX7_get : ByteArray := prog_1_method_7_code
def yX7_get : MethodName := ⟨RX7, "get", "(II)I"⟩
abbrev cX7_wish : ByteArray := prog_1_method_8_code
def yX7_wish : MethodName := ⟨RX7, "wish", "()I"⟩
abbrev cX7_collect : ByteArray := prog_1_method_9_code
def yX7_collect : MethodName := ⟨RX7, "collect", "()I"⟩
abbrev cX7_pack : ByteArray := prog_1_method_10_code
def yX7_pack : MethodName := ⟨RX7, "pack", "()I"⟩
abbrev cX7_weak : ByteArray := prog_1_method_11_code
def yX7_weak : MethodName := ⟨RX7, "weak", "(II)I"⟩
abbrev cX7_seen : ByteArray := prog_1_method_12_code
def yX7_seen : MethodName := ⟨RX7, "seen", "(I)I"⟩
abbrev cX7_object : ByteArray := prog_1_method_13_code
def yX7_object : MethodName := ⟨RX7, "object", "(II)I"⟩
abbrev cX7_count : ByteArray := prog_1_method_14_code
def yX7_count : MethodName := ⟨RX7, "count", "(I)I"⟩
abbrev cX7_listed : ByteArray := prog_1_method_15_code
def yX7_listed : MethodName := ⟨RX7, "listed", "(I)I"⟩
abbrev cX7_freed : ByteArray := prog_1_method_16_code
def yX7_freed : MethodName := ⟨RX7, "freed", "(I)I"⟩
abbrev cX7_at : ByteArray := prog_1_method_17_code
def yX7_at : MethodName := ⟨RX7, "at", "(I)I"⟩
abbrev cX7_makeRoomByMoving : ByteArray := prog_1_method_18_code
def yX7_makeRoomByMoving : MethodName := ⟨RX7, "makeRoomByMoving", "(LRingHeap$Kind;)Z"⟩
abbrev cX7_numberOf : ByteArray := prog_1_method_19_code
def yX7_numberOf : MethodName := ⟨RX7, "numberOf", "(LRingHeap$Thing;)I"⟩
def RX8 : String := "RingHeapModel"
def TX8 : u_T := fun k => match k with
  | 0 => ("RingHeapModel", "thrown", "I", false)
  | 1 => ("RingHeapModel", "typeFields", "[I", true)
  | 2 => ("RingHeapModel", "typeWords", "[I", true)
  | 3 => ("RingHeapModel", "typeWish", "[Z", true)
  | 4 => ("RingHeapModel", "types", "[I", true)
  | 5 => ("RingHeapModel", "counts", "[I", true)
  | 6 => ("RingHeapModel", "colours", "[I", true)
  | 7 => ("RingHeapModel", "addresses", "[I", true)
  | 8 => ("RingHeapModel", "hands", "[I", true)
  | 9 => ("RingHeapModel", "listedNow", "[Z", true)
  | 10 => ("RingHeapModel", "wishTold", "[Z", true)
  | 11 => ("RingHeapModel", "husks", "[Z", true)
  | 12 => ("RingHeapModel", "fields", "[I", true)
  | 13 => ("RingHeapModel", "owners", "[I", true)
  | 14 => ("RingHeapModel", "list", "[I", true)
  | 15 => ("RingHeapModel", "listCount", "I", false)
  | 16 => ("RingHeapModel", "wishes", "[I", true)
  | 17 => ("RingHeapModel", "wishCount", "I", false)
  | 18 => ("RingHeapModel", "weaks", "[I", true)
  | 19 => ("RingHeapModel", "freedRow", "[I", true)
  | 20 => ("RingHeapModel", "freedEver", "I", false)
  | 21 => ("RingHeapModel", "collections", "I", false)
  | 22 => ("RingHeapModel", "moves", "I", false)
  | 23 => ("RingHeapModel", "grayed", "I", false)
  | 24 => ("RingHeapModel", "blackened", "I", false)
  | 25 => ("RingHeapModel", "work", "[I", true)
  | 26 => ("RingHeapModel", "workFields", "[I", true)
  | 27 => ("RingHeapModel", "workCount", "I", false)
  | 28 => ("RingHeapModel", "byAddress", "[I", true)
  | 29 => ("RingHeapModel", "byAddressCount", "I", false)
  | _ => ("RingHeapModel", "blackWork", "[I", true)
def tyX8 : Nat → FieldType := fun k => match k with
  | 0 => .int
  | 1 => .array .int
  | 2 => .array .int
  | 3 => .array .boolean
  | 4 => .array .int
  | 5 => .array .int
  | 6 => .array .int
  | 7 => .array .int
  | 8 => .array .int
  | 9 => .array .boolean
  | 10 => .array .boolean
  | 11 => .array .boolean
  | 12 => .array .int
  | 13 => .array .int
  | 14 => .array .int
  | 15 => .int
  | 16 => .array .int
  | 17 => .int
  | 18 => .array .int
  | 19 => .array .int
  | 20 => .int
  | 21 => .int
  | 22 => .int
  | 23 => .int
  | 24 => .int
  | 25 => .array .int
  | 26 => .array .int
  | 27 => .int
  | 28 => .array .int
  | 29 => .int
  | _ => .array .int
abbrev wsX80 : List Cond := u_ws RX8 TX8 31
theorem nmX8 : ∀ a, a < 31 → ∀ b, b < 31 → a ≠ b → (TX8 a).2.1 ≠ (TX8 b).2.1 := by decide +kernel
theorem tyX8_ok : ∀ k, k < 31 → parseFieldDescriptor (TX8 k).2.2.1 = some (tyX8 k) := by decide +kernel
abbrev cX8_thrown : ByteArray := prog_10_method_1_code
def yX8_thrown : MethodName := ⟨RX8, "thrown", "()I"⟩
abbrev cX8_init : ByteArray := prog_10_method_2_code
def yX8_init : MethodName := ⟨RX8, "<init>", "()V"⟩
abbrev cX8_isThere : ByteArray := prog_10_method_3_code
def yX8_isThere : MethodName := ⟨RX8, "isThere", "(I)Z"⟩
abbrev cX8_isWhole : ByteArray := prog_10_method_4_code
def yX8_isWhole : MethodName := ⟨RX8, "isWhole", "(I)Z"⟩
abbrev cX8_turn : ByteArray := prog_10_method_5_code
def yX8_turn : MethodName := ⟨RX8, "turn", "(II)V"⟩
abbrev cX8_fieldsOf : ByteArray := prog_10_method_6_code
def yX8_fieldsOf : MethodName := ⟨RX8, "fieldsOf", "(I)I"⟩
abbrev cX8_type : ByteArray := prog_10_method_7_code
def yX8_type : MethodName := ⟨RX8, "type", "(IIIZ)Z"⟩
abbrev cX8_free : ByteArray := prog_10_method_8_code
def yX8_free : MethodName := ⟨RX8, "free", "(I)V"⟩
abbrev cX8_hasWish : ByteArray := prog_10_method_9_code
def yX8_hasWish : MethodName := ⟨RX8, "hasWish", "(I)Z"⟩
abbrev cX8_comesToWishes : ByteArray := prog_10_method_10_code
def yX8_comesToWishes : MethodName := ⟨RX8, "comesToWishes", "(I)V"⟩
abbrev cX8_isLetGo : ByteArray := prog_10_method_11_code
def yX8_isLetGo : MethodName := ⟨RX8, "isLetGo", "(I)Z"⟩
abbrev cX8_less : ByteArray := prog_10_method_12_code
def yX8_less : MethodName := ⟨RX8, "less", "(I)V"⟩
abbrev cX8_more : ByteArray := prog_10_method_13_code
def yX8_more : MethodName := ⟨RX8, "more", "(I)V"⟩
abbrev cX8_gray : ByteArray := prog_10_method_14_code
def yX8_gray : MethodName := ⟨RX8, "gray", "(I)V"⟩
abbrev cX8_grayOne : ByteArray := prog_10_method_15_code
def yX8_grayOne : MethodName := ⟨RX8, "grayOne", "(I)V"⟩
abbrev cX8_blacken : ByteArray := prog_10_method_16_code
def yX8_blacken : MethodName := ⟨RX8, "blacken", "(I)V"⟩
abbrev cX8_scan : ByteArray := prog_10_method_17_code
def yX8_scan : MethodName := ⟨RX8, "scan", "(I)V"⟩
abbrev cX8_scanOne : ByteArray := prog_10_method_18_code
def yX8_scanOne : MethodName := ⟨RX8, "scanOne", "(I)V"⟩
abbrev cX8_findByAddress : ByteArray := prog_10_method_19_code
def yX8_findByAddress : MethodName := ⟨RX8, "findByAddress", "()V"⟩
abbrev cX8_mark : ByteArray := prog_10_method_20_code
def yX8_mark : MethodName := ⟨RX8, "mark", "()V"⟩
abbrev cX8_gather : ByteArray := prog_10_method_21_code
def yX8_gather : MethodName := ⟨RX8, "gather", "()V"⟩
abbrev cX8_collect : ByteArray := prog_10_method_22_code
def yX8_collect : MethodName := ⟨RX8, "collect", "()I"⟩
abbrev cX8_place : ByteArray := prog_10_method_23_code
def yX8_place : MethodName := ⟨RX8, "place", "(I)I"⟩
abbrev cX8_number : ByteArray := prog_10_method_24_code
def yX8_number : MethodName := ⟨RX8, "number", "()I"⟩
abbrev cX8_freeWords : ByteArray := prog_10_method_25_code
def yX8_freeWords : MethodName := ⟨RX8, "freeWords", "()I"⟩
abbrev cX8_pack : ByteArray := prog_10_method_26_code
def yX8_pack : MethodName := ⟨RX8, "pack", "()I"⟩
abbrev cX8_make : ByteArray := prog_10_method_27_code
def yX8_make : MethodName := ⟨RX8, "make", "(I)I"⟩
abbrev cX8_hold : ByteArray := prog_10_method_28_code
def yX8_hold : MethodName := ⟨RX8, "hold", "(I)I"⟩
abbrev cX8_loose : ByteArray := prog_10_method_29_code
def yX8_loose : MethodName := ⟨RX8, "loose", "(I)I"⟩
abbrev cX8_set : ByteArray := prog_10_method_30_code
def yX8_set : MethodName := ⟨RX8, "set", "(III)I"⟩
abbrev cX8_get : ByteArray := prog_10_method_31_code
def yX8_get : MethodName := ⟨RX8, "get", "(II)I"⟩
abbrev cX8_wish : ByteArray := prog_10_method_32_code
def yX8_wish : MethodName := ⟨RX8, "wish", "()I"⟩
abbrev cX8_weak : ByteArray := prog_10_method_33_code
def yX8_weak : MethodName := ⟨RX8, "weak", "(II)I"⟩
abbrev cX8_seen : ByteArray := prog_10_method_34_code
def yX8_seen : MethodName := ⟨RX8, "seen", "(I)I"⟩
abbrev cX8_object : ByteArray := prog_10_method_35_code
def yX8_object : MethodName := ⟨RX8, "object", "(II)I"⟩
abbrev cX8_count : ByteArray := prog_10_method_36_code
def yX8_count : MethodName := ⟨RX8, "count", "(I)I"⟩
abbrev cX8_listed : ByteArray := prog_10_method_37_code
def yX8_listed : MethodName := ⟨RX8, "listed", "(I)I"⟩
abbrev cX8_freed : ByteArray := prog_10_method_38_code
def yX8_freed : MethodName := ⟨RX8, "freed", "(I)I"⟩
abbrev cX8_at : ByteArray := prog_10_method_39_code
def yX8_at : MethodName := ⟨RX8, "at", "(I)I"⟩
def RJ0 : String := "java/lang/String"
def TJ0 : u_T := fun k => match k with
  | _ => ("", "", "", false)
def tyJ0 : Nat → FieldType := fun k => match k with
  | _ => .int
abbrev wsJ00 : List Cond := u_ws RJ0 TJ0 0
theorem nmJ0 : ∀ a, a < 0 → ∀ b, b < 0 → a ≠ b → (TJ0 a).2.1 ≠ (TJ0 b).2.1 := by decide +kernel
theorem tyJ0_ok : ∀ k, k < 0 → parseFieldDescriptor (TJ0 k).2.2.1 = some (tyJ0 k) := by decide +kernel
def RL : String := "RingHeapLaw"
abbrev cL_type : ByteArray := method_3_code
def yL_type : MethodName := ⟨RL, "type", "(LRingHeap;IIIZ[J)I"⟩
abbrev cL_make : ByteArray := method_4_code
def yL_make : MethodName := ⟨RL, "make", "(LRingHeap;I[J)I"⟩
abbrev cL_set : ByteArray := method_5_code
def yL_set : MethodName := ⟨RL, "set", "(LRingHeap;III[J)I"⟩
abbrev cL_get : ByteArray := method_6_code
def yL_get : MethodName := ⟨RL, "get", "(LRingHeap;II[J)I"⟩
abbrev cL_weak : ByteArray := method_7_code
def yL_weak : MethodName := ⟨RL, "weak", "(LRingHeap;II[J)I"⟩
abbrev cL_seen : ByteArray := method_8_code
def yL_seen : MethodName := ⟨RL, "seen", "(LRingHeap;I[J)I"⟩
abbrev cL_object : ByteArray := method_9_code
def yL_object : MethodName := ⟨RL, "object", "(LRingHeap;II[J)I"⟩
abbrev cL_count : ByteArray := method_10_code
def yL_count : MethodName := ⟨RL, "count", "(LRingHeap;I[J)I"⟩
abbrev cL_at : ByteArray := method_11_code
def yL_at : MethodName := ⟨RL, "at", "(LRingHeap;I[J)I"⟩
abbrev cL_law : ByteArray := code
def yL_law : MethodName := ⟨RL, "law", "([I)Z"⟩
def wsX3_init : List Cond := .code yX3_init cX3_init 1 none :: ([.methodLink RX3 3 objectInit, .instanceMethod objectInit, .code objectInit ⟨#[0xb1]⟩ 1 none, .classLink RX3 9 RX5, .fieldLink RX3 11 "RingHeap$Row" "things" "[LRingHeap$Thing;"] ++ wsX30)
def wsX0_init : List Cond := .code yX0_init cX0_init 3 none :: ([.methodLink RX0 3 objectInit, .instanceMethod objectInit, .code objectInit ⟨#[0xb1]⟩ 1 none, .classLink RX0 9 RX3, .instantiable RX3 2, .initialized RX3, .fieldLink RX0 12 "RingHeap$Collector" "reached" "LRingHeap$Row;", .fieldLink RX0 18 "RingHeap$Collector" "darkened" "LRingHeap$Row;", .fieldLink RX0 21 "RingHeap$Collector" "store" "LRingHeap$Store;", .fieldLink RX0 25 "RingHeap$Collector" "counting" "LRingHeap$Counting;", .instanceMethod yX3_init, .code yX3_init cX3_init 1 none, .methodLink RX3 3 objectInit, .classLink RX3 9 RX5, .fieldLink RX3 11 "RingHeap$Row" "things" "[LRingHeap$Thing;"] ++ wsX30 ++ wsX00)
def wsX3_item : List Cond := .code yX3_item cX3_item 2 (some (.object "RingHeap$Thing")) :: ([.fieldLink RX3 17 "RingHeap$Row" "length" "I", .fieldLink RX3 11 "RingHeap$Row" "things" "[LRingHeap$Thing;"] ++ wsX30)
def wsX6_takeBack : List Cond := .code yX6_takeBack cX6_takeBack 4 none :: ([.fieldLink RX6 25 "RingHeap$Thing" "address" "I", .fieldLink RX6 28 "RingHeap$Thing" "kind" "LRingHeap$Kind;", .fieldLink RX6 32 "RingHeap$Kind" "size" "I", .fieldLink RX6 11 "RingHeap$Words" "owners" "[LRingHeap$Thing;", .fieldLink RX6 17 "RingHeap$Words" "free" "I"] ++ wsX50 ++ wsX20 ++ wsX60)
def wsX4_free : List Cond := .code yX4_free cX4_free 3 none :: ([.fieldLink RX4 27 "RingHeap$Store" "words" "LRingHeap$Words;", .fieldLink RX4 11 "RingHeap$Store" "things" "[LRingHeap$Thing;", .fieldLink RX4 67 "RingHeap$Thing" "number" "I", .fieldLink RX4 60 "RingHeap$Store" "thingsThere" "I", .fieldLink RX4 21 "RingHeap$Store" "weaks" "[LRingHeap$Thing;", .fieldLink RX4 17 "RingHeap$Store" "freedNumbers" "[I", .fieldLink RX4 70 "RingHeap$Store" "freedEver" "I", .methodLink RX4 63 yX6_takeBack, .instanceMethod yX6_takeBack, .selects RX6 yX6_takeBack yX6_takeBack, .initialized RX6, .code yX6_takeBack cX6_takeBack 4 none, .fieldLink RX6 25 "RingHeap$Thing" "address" "I", .fieldLink RX6 28 "RingHeap$Thing" "kind" "LRingHeap$Kind;", .fieldLink RX6 32 "RingHeap$Kind" "size" "I", .fieldLink RX6 11 "RingHeap$Words" "owners" "[LRingHeap$Thing;", .fieldLink RX6 17 "RingHeap$Words" "free" "I"] ++ wsX40 ++ wsX50 ++ wsX20 ++ wsX60)
def wsX3_clear : List Cond := .code yX3_clear cX3_clear 1 none :: ([.fieldLink RX3 17 "RingHeap$Row" "length" "I"] ++ wsX30)
def wsX5_isGreen : List Cond := .code yX5_isGreen cX5_isGreen 1 (some .boolean) :: ([.fieldLink RX5 34 "RingHeap$Thing" "colour" "I"] ++ wsX50)
def wsX3_append : List Cond := .code yX3_append cX3_append 2 none :: ([.fieldLink RX3 17 "RingHeap$Row" "length" "I", .fieldLink RX3 11 "RingHeap$Row" "things" "[LRingHeap$Thing;"] ++ wsX30)
def wsX0_turnGray : List Cond := .code yX0_turnGray cX0_turnGray 2 none :: ([.fieldLink RX0 78 "RingHeap$Thing" "colour" "I", .fieldLink RX0 101 "RingHeap$Collector" "grayed" "I", .fieldLink RX0 12 "RingHeap$Collector" "reached" "LRingHeap$Row;", .methodLink RX0 94 yX5_isGreen, .instanceMethod yX5_isGreen, .selects RX5 yX5_isGreen yX5_isGreen, .initialized RX5, .code yX5_isGreen cX5_isGreen 1 (some .boolean), .fieldLink RX5 34 "RingHeap$Thing" "colour" "I", .methodLink RX0 104 yX3_append, .instanceMethod yX3_append, .selects RX3 yX3_append yX3_append, .initialized RX3, .code yX3_append cX3_append 2 none, .fieldLink RX3 17 "RingHeap$Row" "length" "I", .fieldLink RX3 11 "RingHeap$Row" "things" "[LRingHeap$Thing;"] ++ wsX50 ++ wsX00 ++ wsX30)
def wsX0_markFrom_r1 : List Cond := [Cond.fieldLink RX0 12 "RingHeap$Collector" "reached" "LRingHeap$Row;", Cond.fieldLink RX0 58 "RingHeap$Row" "length" "I", Cond.fieldLink RX0 90 "RingHeap$Thing" "held" "[LRingHeap$Thing;", Cond.fieldLink RX0 98 "RingHeap$Thing" "count" "I", Cond.methodLink RX0 84 yX3_clear, Cond.instanceMethod yX3_clear, Cond.selects RX3 yX3_clear yX3_clear, Cond.initialized RX3, Cond.code yX3_clear cX3_clear 1 none, Cond.fieldLink RX3 17 "RingHeap$Row" "length" "I", Cond.methodLink RX0 87 yX0_turnGray, Cond.instanceMethod yX0_turnGray, Cond.selects RX0 yX0_turnGray yX0_turnGray, Cond.initialized RX0, Cond.code yX0_turnGray cX0_turnGray 2 none, Cond.fieldLink RX0 78 "RingHeap$Thing" "colour" "I", Cond.fieldLink RX0 101 "RingHeap$Collector" "grayed" "I", Cond.methodLink RX0 94 yX5_isGreen, Cond.instanceMethod yX5_isGreen, Cond.selects RX5 yX5_isGreen yX5_isGreen, Cond.initialized RX5, Cond.code yX5_isGreen cX5_isGreen 1 (some .boolean), Cond.fieldLink RX5 34 "RingHeap$Thing" "colour" "I", Cond.methodLink RX0 104 yX3_append]
def wsX0_markFrom_r2 : List Cond := [Cond.instanceMethod yX3_append, Cond.selects RX3 yX3_append yX3_append, Cond.code yX3_append cX3_append 2 none, Cond.fieldLink RX3 11 "RingHeap$Row" "things" "[LRingHeap$Thing;", Cond.methodLink RX0 61 yX3_item, Cond.instanceMethod yX3_item, Cond.selects RX3 yX3_item yX3_item, Cond.code yX3_item cX3_item 2 (some (.object "RingHeap$Thing"))]
def wsX0_markFrom : List Cond := .code yX0_markFrom cX0_markFrom 8 none :: ((wsX0_markFrom_r1 ++ wsX0_markFrom_r2) ++ wsX00 ++ wsX30 ++ wsX50)
def wsX0_markListed_r1 : List Cond := [Cond.fieldLink RX0 25 "RingHeap$Collector" "counting" "LRingHeap$Counting;", Cond.fieldLink RX0 53 "RingHeap$Counting" "list" "LRingHeap$Row;", Cond.fieldLink RX0 58 "RingHeap$Row" "length" "I", Cond.fieldLink RX0 65 "RingHeap$Thing" "husk" "Z", Cond.fieldLink RX0 71 "RingHeap$Thing" "inList" "Z", Cond.fieldLink RX0 21 "RingHeap$Collector" "store" "LRingHeap$Store;", Cond.fieldLink RX0 78 "RingHeap$Thing" "colour" "I", Cond.methodLink RX0 61 yX3_item, Cond.instanceMethod yX3_item, Cond.selects RX3 yX3_item yX3_item, Cond.initialized RX3, Cond.code yX3_item cX3_item 2 (some (.object "RingHeap$Thing")), Cond.fieldLink RX3 17 "RingHeap$Row" "length" "I", Cond.fieldLink RX3 11 "RingHeap$Row" "things" "[LRingHeap$Thing;", Cond.methodLink RX0 74 yX4_free, Cond.instanceMethod yX4_free, Cond.selects RX4 yX4_free yX4_free, Cond.initialized RX4, Cond.code yX4_free cX4_free 3 none, Cond.fieldLink RX4 27 "RingHeap$Store" "words" "LRingHeap$Words;", Cond.fieldLink RX4 11 "RingHeap$Store" "things" "[LRingHeap$Thing;", Cond.fieldLink RX4 67 "RingHeap$Thing" "number" "I", Cond.fieldLink RX4 60 "RingHeap$Store" "thingsThere" "I", Cond.fieldLink RX4 21 "RingHeap$Store" "weaks" "[LRingHeap$Thing;"]
def wsX0_markListed_r2 : List Cond := [Cond.fieldLink RX4 17 "RingHeap$Store" "freedNumbers" "[I", Cond.fieldLink RX4 70 "RingHeap$Store" "freedEver" "I", Cond.methodLink RX4 63 yX6_takeBack, Cond.instanceMethod yX6_takeBack, Cond.selects RX6 yX6_takeBack yX6_takeBack, Cond.initialized RX6, Cond.code yX6_takeBack cX6_takeBack 4 none, Cond.fieldLink RX6 25 "RingHeap$Thing" "address" "I", Cond.fieldLink RX6 28 "RingHeap$Thing" "kind" "LRingHeap$Kind;", Cond.fieldLink RX6 32 "RingHeap$Kind" "size" "I", Cond.fieldLink RX6 11 "RingHeap$Words" "owners" "[LRingHeap$Thing;", Cond.fieldLink RX6 17 "RingHeap$Words" "free" "I", Cond.methodLink RX0 81 yX0_markFrom, Cond.instanceMethod yX0_markFrom, Cond.selects RX0 yX0_markFrom yX0_markFrom, Cond.initialized RX0, Cond.code yX0_markFrom cX0_markFrom 8 none, Cond.fieldLink RX0 12 "RingHeap$Collector" "reached" "LRingHeap$Row;", Cond.fieldLink RX0 90 "RingHeap$Thing" "held" "[LRingHeap$Thing;", Cond.fieldLink RX0 98 "RingHeap$Thing" "count" "I", Cond.methodLink RX0 84 yX3_clear, Cond.instanceMethod yX3_clear, Cond.selects RX3 yX3_clear yX3_clear, Cond.code yX3_clear cX3_clear 1 none]
def wsX0_markListed_r3 : List Cond := [Cond.methodLink RX0 87 yX0_turnGray, Cond.instanceMethod yX0_turnGray, Cond.selects RX0 yX0_turnGray yX0_turnGray, Cond.code yX0_turnGray cX0_turnGray 2 none, Cond.fieldLink RX0 101 "RingHeap$Collector" "grayed" "I", Cond.methodLink RX0 94 yX5_isGreen, Cond.instanceMethod yX5_isGreen, Cond.selects RX5 yX5_isGreen yX5_isGreen, Cond.initialized RX5, Cond.code yX5_isGreen cX5_isGreen 1 (some .boolean), Cond.fieldLink RX5 34 "RingHeap$Thing" "colour" "I", Cond.methodLink RX0 104 yX3_append, Cond.instanceMethod yX3_append, Cond.selects RX3 yX3_append yX3_append, Cond.code yX3_append cX3_append 2 none]
def wsX0_markListed : List Cond := .code yX0_markListed cX0_markListed 4 none :: ((wsX0_markListed_r1 ++ (wsX0_markListed_r2 ++ wsX0_markListed_r3)) ++ wsX00 ++ wsX10 ++ wsX30 ++ wsX50 ++ wsX40 ++ wsX20 ++ wsX60)
def wsX0_turnBlack : List Cond := .code yX0_turnBlack cX0_turnBlack 2 none :: ([.fieldLink RX0 78 "RingHeap$Thing" "colour" "I", .fieldLink RX0 119 "RingHeap$Collector" "blackened" "I", .fieldLink RX0 18 "RingHeap$Collector" "darkened" "LRingHeap$Row;", .methodLink RX0 104 yX3_append, .instanceMethod yX3_append, .selects RX3 yX3_append yX3_append, .initialized RX3, .code yX3_append cX3_append 2 none, .fieldLink RX3 17 "RingHeap$Row" "length" "I", .fieldLink RX3 11 "RingHeap$Row" "things" "[LRingHeap$Thing;"] ++ wsX50 ++ wsX00 ++ wsX30)
def wsX0_blackenFrom_r1 : List Cond := [Cond.fieldLink RX0 18 "RingHeap$Collector" "darkened" "LRingHeap$Row;", Cond.fieldLink RX0 58 "RingHeap$Row" "length" "I", Cond.fieldLink RX0 90 "RingHeap$Thing" "held" "[LRingHeap$Thing;", Cond.fieldLink RX0 98 "RingHeap$Thing" "count" "I", Cond.methodLink RX0 84 yX3_clear, Cond.instanceMethod yX3_clear, Cond.selects RX3 yX3_clear yX3_clear, Cond.initialized RX3, Cond.code yX3_clear cX3_clear 1 none, Cond.fieldLink RX3 17 "RingHeap$Row" "length" "I", Cond.methodLink RX0 116 yX0_turnBlack, Cond.instanceMethod yX0_turnBlack, Cond.selects RX0 yX0_turnBlack yX0_turnBlack, Cond.initialized RX0, Cond.code yX0_turnBlack cX0_turnBlack 2 none, Cond.fieldLink RX0 78 "RingHeap$Thing" "colour" "I", Cond.fieldLink RX0 119 "RingHeap$Collector" "blackened" "I", Cond.methodLink RX0 104 yX3_append, Cond.instanceMethod yX3_append, Cond.selects RX3 yX3_append yX3_append, Cond.code yX3_append cX3_append 2 none, Cond.fieldLink RX3 11 "RingHeap$Row" "things" "[LRingHeap$Thing;", Cond.methodLink RX0 61 yX3_item, Cond.instanceMethod yX3_item]
def wsX0_blackenFrom_r2 : List Cond := [Cond.selects RX3 yX3_item yX3_item, Cond.code yX3_item cX3_item 2 (some (.object "RingHeap$Thing")), Cond.methodLink RX0 94 yX5_isGreen, Cond.instanceMethod yX5_isGreen, Cond.selects RX5 yX5_isGreen yX5_isGreen, Cond.initialized RX5, Cond.code yX5_isGreen cX5_isGreen 1 (some .boolean), Cond.fieldLink RX5 34 "RingHeap$Thing" "colour" "I"]
def wsX0_blackenFrom : List Cond := .code yX0_blackenFrom cX0_blackenFrom 8 none :: ((wsX0_blackenFrom_r1 ++ wsX0_blackenFrom_r2) ++ wsX00 ++ wsX30 ++ wsX50)
def wsX0_judge_r1 : List Cond := [Cond.fieldLink RX0 78 "RingHeap$Thing" "colour" "I", Cond.fieldLink RX0 98 "RingHeap$Thing" "count" "I", Cond.fieldLink RX0 12 "RingHeap$Collector" "reached" "LRingHeap$Row;", Cond.methodLink RX0 113 yX0_blackenFrom, Cond.instanceMethod yX0_blackenFrom, Cond.selects RX0 yX0_blackenFrom yX0_blackenFrom, Cond.initialized RX0, Cond.code yX0_blackenFrom cX0_blackenFrom 8 none, Cond.fieldLink RX0 18 "RingHeap$Collector" "darkened" "LRingHeap$Row;", Cond.fieldLink RX0 58 "RingHeap$Row" "length" "I", Cond.fieldLink RX0 90 "RingHeap$Thing" "held" "[LRingHeap$Thing;", Cond.methodLink RX0 84 yX3_clear, Cond.instanceMethod yX3_clear, Cond.selects RX3 yX3_clear yX3_clear, Cond.initialized RX3, Cond.code yX3_clear cX3_clear 1 none, Cond.fieldLink RX3 17 "RingHeap$Row" "length" "I", Cond.methodLink RX0 116 yX0_turnBlack, Cond.instanceMethod yX0_turnBlack, Cond.selects RX0 yX0_turnBlack yX0_turnBlack, Cond.code yX0_turnBlack cX0_turnBlack 2 none, Cond.fieldLink RX0 119 "RingHeap$Collector" "blackened" "I", Cond.methodLink RX0 104 yX3_append, Cond.instanceMethod yX3_append]
def wsX0_judge_r2 : List Cond := [Cond.selects RX3 yX3_append yX3_append, Cond.code yX3_append cX3_append 2 none, Cond.fieldLink RX3 11 "RingHeap$Row" "things" "[LRingHeap$Thing;", Cond.methodLink RX0 61 yX3_item, Cond.instanceMethod yX3_item, Cond.selects RX3 yX3_item yX3_item, Cond.code yX3_item cX3_item 2 (some (.object "RingHeap$Thing")), Cond.methodLink RX0 94 yX5_isGreen, Cond.instanceMethod yX5_isGreen, Cond.selects RX5 yX5_isGreen yX5_isGreen, Cond.initialized RX5, Cond.code yX5_isGreen cX5_isGreen 1 (some .boolean), Cond.fieldLink RX5 34 "RingHeap$Thing" "colour" "I"]
def wsX0_judge : List Cond := .code yX0_judge cX0_judge 2 none :: ((wsX0_judge_r1 ++ wsX0_judge_r2) ++ wsX50 ++ wsX00 ++ wsX30)
def wsX0_scanFrom_r1 : List Cond := [Cond.fieldLink RX0 12 "RingHeap$Collector" "reached" "LRingHeap$Row;", Cond.fieldLink RX0 58 "RingHeap$Row" "length" "I", Cond.fieldLink RX0 90 "RingHeap$Thing" "held" "[LRingHeap$Thing;", Cond.methodLink RX0 84 yX3_clear, Cond.instanceMethod yX3_clear, Cond.selects RX3 yX3_clear yX3_clear, Cond.initialized RX3, Cond.code yX3_clear cX3_clear 1 none, Cond.fieldLink RX3 17 "RingHeap$Row" "length" "I", Cond.methodLink RX0 110 yX0_judge, Cond.instanceMethod yX0_judge, Cond.selects RX0 yX0_judge yX0_judge, Cond.initialized RX0, Cond.code yX0_judge cX0_judge 2 none, Cond.fieldLink RX0 78 "RingHeap$Thing" "colour" "I", Cond.fieldLink RX0 98 "RingHeap$Thing" "count" "I", Cond.methodLink RX0 113 yX0_blackenFrom, Cond.instanceMethod yX0_blackenFrom, Cond.selects RX0 yX0_blackenFrom yX0_blackenFrom, Cond.code yX0_blackenFrom cX0_blackenFrom 8 none, Cond.fieldLink RX0 18 "RingHeap$Collector" "darkened" "LRingHeap$Row;", Cond.methodLink RX0 116 yX0_turnBlack, Cond.instanceMethod yX0_turnBlack, Cond.selects RX0 yX0_turnBlack yX0_turnBlack]
def wsX0_scanFrom_r2 : List Cond := [Cond.code yX0_turnBlack cX0_turnBlack 2 none, Cond.fieldLink RX0 119 "RingHeap$Collector" "blackened" "I", Cond.methodLink RX0 104 yX3_append, Cond.instanceMethod yX3_append, Cond.selects RX3 yX3_append yX3_append, Cond.code yX3_append cX3_append 2 none, Cond.fieldLink RX3 11 "RingHeap$Row" "things" "[LRingHeap$Thing;", Cond.methodLink RX0 61 yX3_item, Cond.instanceMethod yX3_item, Cond.selects RX3 yX3_item yX3_item, Cond.code yX3_item cX3_item 2 (some (.object "RingHeap$Thing")), Cond.methodLink RX0 94 yX5_isGreen, Cond.instanceMethod yX5_isGreen, Cond.selects RX5 yX5_isGreen yX5_isGreen, Cond.initialized RX5, Cond.code yX5_isGreen cX5_isGreen 1 (some .boolean), Cond.fieldLink RX5 34 "RingHeap$Thing" "colour" "I"]
def wsX0_scanFrom : List Cond := .code yX0_scanFrom cX0_scanFrom 8 none :: ((wsX0_scanFrom_r1 ++ wsX0_scanFrom_r2) ++ wsX00 ++ wsX30 ++ wsX50)
def wsX0_scanListed_r1 : List Cond := [Cond.fieldLink RX0 25 "RingHeap$Collector" "counting" "LRingHeap$Counting;", Cond.fieldLink RX0 53 "RingHeap$Counting" "list" "LRingHeap$Row;", Cond.fieldLink RX0 58 "RingHeap$Row" "length" "I", Cond.fieldLink RX0 71 "RingHeap$Thing" "inList" "Z", Cond.methodLink RX0 61 yX3_item, Cond.instanceMethod yX3_item, Cond.selects RX3 yX3_item yX3_item, Cond.initialized RX3, Cond.code yX3_item cX3_item 2 (some (.object "RingHeap$Thing")), Cond.fieldLink RX3 17 "RingHeap$Row" "length" "I", Cond.fieldLink RX3 11 "RingHeap$Row" "things" "[LRingHeap$Thing;", Cond.methodLink RX0 107 yX0_scanFrom, Cond.instanceMethod yX0_scanFrom, Cond.selects RX0 yX0_scanFrom yX0_scanFrom, Cond.initialized RX0, Cond.code yX0_scanFrom cX0_scanFrom 8 none, Cond.fieldLink RX0 12 "RingHeap$Collector" "reached" "LRingHeap$Row;", Cond.fieldLink RX0 90 "RingHeap$Thing" "held" "[LRingHeap$Thing;", Cond.methodLink RX0 84 yX3_clear, Cond.instanceMethod yX3_clear, Cond.selects RX3 yX3_clear yX3_clear, Cond.code yX3_clear cX3_clear 1 none, Cond.methodLink RX0 110 yX0_judge, Cond.instanceMethod yX0_judge]
def wsX0_scanListed_r2 : List Cond := [Cond.selects RX0 yX0_judge yX0_judge, Cond.code yX0_judge cX0_judge 2 none, Cond.fieldLink RX0 78 "RingHeap$Thing" "colour" "I", Cond.fieldLink RX0 98 "RingHeap$Thing" "count" "I", Cond.methodLink RX0 113 yX0_blackenFrom, Cond.instanceMethod yX0_blackenFrom, Cond.selects RX0 yX0_blackenFrom yX0_blackenFrom, Cond.code yX0_blackenFrom cX0_blackenFrom 8 none, Cond.fieldLink RX0 18 "RingHeap$Collector" "darkened" "LRingHeap$Row;", Cond.methodLink RX0 116 yX0_turnBlack, Cond.instanceMethod yX0_turnBlack, Cond.selects RX0 yX0_turnBlack yX0_turnBlack, Cond.code yX0_turnBlack cX0_turnBlack 2 none, Cond.fieldLink RX0 119 "RingHeap$Collector" "blackened" "I", Cond.methodLink RX0 104 yX3_append, Cond.instanceMethod yX3_append, Cond.selects RX3 yX3_append yX3_append, Cond.code yX3_append cX3_append 2 none, Cond.methodLink RX0 94 yX5_isGreen, Cond.instanceMethod yX5_isGreen, Cond.selects RX5 yX5_isGreen yX5_isGreen, Cond.initialized RX5, Cond.code yX5_isGreen cX5_isGreen 1 (some .boolean), Cond.fieldLink RX5 34 "RingHeap$Thing" "colour" "I"]
def wsX0_scanListed : List Cond := .code yX0_scanListed cX0_scanListed 4 none :: ((wsX0_scanListed_r1 ++ wsX0_scanListed_r2) ++ wsX00 ++ wsX10 ++ wsX30 ++ wsX50)
def wsX6_owner : List Cond := .code yX6_owner cX6_owner 2 (some (.object "RingHeap$Thing")) :: ([.fieldLink RX6 11 "RingHeap$Words" "owners" "[LRingHeap$Thing;"] ++ wsX60)
def wsX6_ownerFrom : List Cond := .code yX6_ownerFrom cX6_ownerFrom 3 (some (.object "RingHeap$Thing")) :: ([.fieldLink RX6 25 "RingHeap$Thing" "address" "I", .methodLink RX6 21 yX6_owner, .instanceMethod yX6_owner, .selects RX6 yX6_owner yX6_owner, .initialized RX6, .code yX6_owner cX6_owner 2 (some (.object "RingHeap$Thing")), .fieldLink RX6 11 "RingHeap$Words" "owners" "[LRingHeap$Thing;"] ++ wsX50 ++ wsX60)
def wsX1_tellWish : List Cond := .code yX1_tellWish cX1_tellWish 2 none :: ([.fieldLink RX1 56 "RingHeap$Thing" "wishUntold" "Z", .fieldLink RX1 28 "RingHeap$Thing" "count" "I", .fieldLink RX1 21 "RingHeap$Counting" "wishes" "LRingHeap$Row;", .methodLink RX1 60 yX3_append, .instanceMethod yX3_append, .selects RX3 yX3_append yX3_append, .initialized RX3, .code yX3_append cX3_append 2 none, .fieldLink RX3 17 "RingHeap$Row" "length" "I", .fieldLink RX3 11 "RingHeap$Row" "things" "[LRingHeap$Thing;"] ++ wsX50 ++ wsX10 ++ wsX30)
def wsX0_tellWishes_r1 : List Cond := [Cond.fieldLink RX0 21 "RingHeap$Collector" "store" "LRingHeap$Store;", Cond.fieldLink RX0 122 "RingHeap$Store" "words" "LRingHeap$Words;", Cond.fieldLink RX0 78 "RingHeap$Thing" "colour" "I", Cond.fieldLink RX0 131 "RingHeap$Thing" "wishUntold" "Z", Cond.fieldLink RX0 25 "RingHeap$Collector" "counting" "LRingHeap$Counting;", Cond.methodLink RX0 126 yX6_ownerFrom, Cond.instanceMethod yX6_ownerFrom, Cond.selects RX6 yX6_ownerFrom yX6_ownerFrom, Cond.initialized RX6, Cond.code yX6_ownerFrom cX6_ownerFrom 3 (some (.object "RingHeap$Thing")), Cond.fieldLink RX6 25 "RingHeap$Thing" "address" "I", Cond.methodLink RX6 21 yX6_owner, Cond.instanceMethod yX6_owner, Cond.selects RX6 yX6_owner yX6_owner, Cond.code yX6_owner cX6_owner 2 (some (.object "RingHeap$Thing")), Cond.fieldLink RX6 11 "RingHeap$Words" "owners" "[LRingHeap$Thing;", Cond.methodLink RX0 134 yX1_tellWish, Cond.instanceMethod yX1_tellWish, Cond.selects RX1 yX1_tellWish yX1_tellWish, Cond.initialized RX1, Cond.code yX1_tellWish cX1_tellWish 2 none, Cond.fieldLink RX1 56 "RingHeap$Thing" "wishUntold" "Z", Cond.fieldLink RX1 28 "RingHeap$Thing" "count" "I", Cond.fieldLink RX1 21 "RingHeap$Counting" "wishes" "LRingHeap$Row;"]
def wsX0_tellWishes_r2 : List Cond := [Cond.methodLink RX1 60 yX3_append, Cond.instanceMethod yX3_append, Cond.selects RX3 yX3_append yX3_append, Cond.initialized RX3, Cond.code yX3_append cX3_append 2 none, Cond.fieldLink RX3 17 "RingHeap$Row" "length" "I", Cond.fieldLink RX3 11 "RingHeap$Row" "things" "[LRingHeap$Thing;", Cond.methodLink RX0 113 yX0_blackenFrom, Cond.instanceMethod yX0_blackenFrom, Cond.selects RX0 yX0_blackenFrom yX0_blackenFrom, Cond.initialized RX0, Cond.code yX0_blackenFrom cX0_blackenFrom 8 none, Cond.fieldLink RX0 18 "RingHeap$Collector" "darkened" "LRingHeap$Row;", Cond.fieldLink RX0 58 "RingHeap$Row" "length" "I", Cond.fieldLink RX0 90 "RingHeap$Thing" "held" "[LRingHeap$Thing;", Cond.fieldLink RX0 98 "RingHeap$Thing" "count" "I", Cond.methodLink RX0 84 yX3_clear, Cond.instanceMethod yX3_clear, Cond.selects RX3 yX3_clear yX3_clear, Cond.code yX3_clear cX3_clear 1 none, Cond.methodLink RX0 116 yX0_turnBlack, Cond.instanceMethod yX0_turnBlack, Cond.selects RX0 yX0_turnBlack yX0_turnBlack, Cond.code yX0_turnBlack cX0_turnBlack 2 none]
def wsX0_tellWishes_r3 : List Cond := [Cond.fieldLink RX0 119 "RingHeap$Collector" "blackened" "I", Cond.methodLink RX0 104 yX3_append, Cond.methodLink RX0 61 yX3_item, Cond.instanceMethod yX3_item, Cond.selects RX3 yX3_item yX3_item, Cond.code yX3_item cX3_item 2 (some (.object "RingHeap$Thing")), Cond.methodLink RX0 94 yX5_isGreen, Cond.instanceMethod yX5_isGreen, Cond.selects RX5 yX5_isGreen yX5_isGreen, Cond.initialized RX5, Cond.code yX5_isGreen cX5_isGreen 1 (some .boolean), Cond.fieldLink RX5 34 "RingHeap$Thing" "colour" "I"]
def wsX0_tellWishes : List Cond := .code yX0_tellWishes cX0_tellWishes 3 none :: ((wsX0_tellWishes_r1 ++ (wsX0_tellWishes_r2 ++ wsX0_tellWishes_r3)) ++ wsX00 ++ wsX40 ++ wsX50 ++ wsX60 ++ wsX10 ++ wsX30)
def wsX0_emptyList : List Cond := .code yX0_emptyList cX0_emptyList 4 none :: ([.fieldLink RX0 25 "RingHeap$Collector" "counting" "LRingHeap$Counting;", .fieldLink RX0 53 "RingHeap$Counting" "list" "LRingHeap$Row;", .fieldLink RX0 58 "RingHeap$Row" "length" "I", .fieldLink RX0 71 "RingHeap$Thing" "inList" "Z", .methodLink RX0 61 yX3_item, .instanceMethod yX3_item, .selects RX3 yX3_item yX3_item, .initialized RX3, .code yX3_item cX3_item 2 (some (.object "RingHeap$Thing")), .fieldLink RX3 17 "RingHeap$Row" "length" "I", .fieldLink RX3 11 "RingHeap$Row" "things" "[LRingHeap$Thing;", .methodLink RX0 84 yX3_clear, .instanceMethod yX3_clear, .selects RX3 yX3_clear yX3_clear, .code yX3_clear cX3_clear 1 none] ++ wsX00 ++ wsX10 ++ wsX30 ++ wsX50)
def wsX1_suspect : List Cond := .code yX1_suspect cX1_suspect 2 none :: ([.fieldLink RX1 73 "RingHeap$Thing" "colour" "I", .fieldLink RX1 76 "RingHeap$Thing" "inList" "Z", .fieldLink RX1 18 "RingHeap$Counting" "list" "LRingHeap$Row;", .methodLink RX1 69 yX5_isGreen, .instanceMethod yX5_isGreen, .selects RX5 yX5_isGreen yX5_isGreen, .initialized RX5, .code yX5_isGreen cX5_isGreen 1 (some .boolean), .fieldLink RX5 34 "RingHeap$Thing" "colour" "I", .methodLink RX1 60 yX3_append, .instanceMethod yX3_append, .selects RX3 yX3_append yX3_append, .initialized RX3, .code yX3_append cX3_append 2 none, .fieldLink RX3 17 "RingHeap$Row" "length" "I", .fieldLink RX3 11 "RingHeap$Row" "things" "[LRingHeap$Thing;"] ++ wsX50 ++ wsX10 ++ wsX30)
def wsX5_blackenUnlessGreen : List Cond := .code yX5_blackenUnlessGreen cX5_blackenUnlessGreen 1 none :: ([.fieldLink RX5 34 "RingHeap$Thing" "colour" "I", .methodLink RX5 44 yX5_isGreen, .instanceMethod yX5_isGreen, .selects RX5 yX5_isGreen yX5_isGreen, .initialized RX5, .code yX5_isGreen cX5_isGreen 1 (some .boolean)] ++ wsX50)
def wsX1_lower_r1 : List Cond := [Cond.fieldLink RX1 28 "RingHeap$Thing" "count" "I", Cond.fieldLink RX1 56 "RingHeap$Thing" "wishUntold" "Z", Cond.fieldLink RX1 12 "RingHeap$Counting" "going" "LRingHeap$Row;", Cond.methodLink RX1 63 yX1_suspect, Cond.instanceMethod yX1_suspect, Cond.selects RX1 yX1_suspect yX1_suspect, Cond.initialized RX1, Cond.code yX1_suspect cX1_suspect 2 none, Cond.fieldLink RX1 73 "RingHeap$Thing" "colour" "I", Cond.fieldLink RX1 76 "RingHeap$Thing" "inList" "Z", Cond.fieldLink RX1 18 "RingHeap$Counting" "list" "LRingHeap$Row;", Cond.methodLink RX1 69 yX5_isGreen, Cond.instanceMethod yX5_isGreen, Cond.selects RX5 yX5_isGreen yX5_isGreen, Cond.initialized RX5, Cond.code yX5_isGreen cX5_isGreen 1 (some .boolean), Cond.fieldLink RX5 34 "RingHeap$Thing" "colour" "I", Cond.methodLink RX1 60 yX3_append, Cond.instanceMethod yX3_append, Cond.selects RX3 yX3_append yX3_append, Cond.initialized RX3, Cond.code yX3_append cX3_append 2 none, Cond.fieldLink RX3 17 "RingHeap$Row" "length" "I", Cond.fieldLink RX3 11 "RingHeap$Row" "things" "[LRingHeap$Thing;"]
def wsX1_lower_r2 : List Cond := [Cond.methodLink RX1 66 yX1_tellWish, Cond.instanceMethod yX1_tellWish, Cond.selects RX1 yX1_tellWish yX1_tellWish, Cond.code yX1_tellWish cX1_tellWish 2 none, Cond.fieldLink RX1 21 "RingHeap$Counting" "wishes" "LRingHeap$Row;", Cond.methodLink RX1 34 yX5_blackenUnlessGreen, Cond.instanceMethod yX5_blackenUnlessGreen, Cond.selects RX5 yX5_blackenUnlessGreen yX5_blackenUnlessGreen, Cond.code yX5_blackenUnlessGreen cX5_blackenUnlessGreen 1 none, Cond.methodLink RX5 44 yX5_isGreen]
def wsX1_lower : List Cond := .code yX1_lower cX1_lower 2 none :: ((wsX1_lower_r1 ++ wsX1_lower_r2) ++ wsX50 ++ wsX10 ++ wsX30)
def wsX3_last : List Cond := .code yX3_last cX3_last 1 (some (.object "RingHeap$Thing")) :: ([.fieldLink RX3 17 "RingHeap$Row" "length" "I", .methodLink RX3 21 yX3_item, .instanceMethod yX3_item, .selects RX3 yX3_item yX3_item, .initialized RX3, .code yX3_item cX3_item 2 (some (.object "RingHeap$Thing")), .fieldLink RX3 11 "RingHeap$Row" "things" "[LRingHeap$Thing;"] ++ wsX30)
def wsX5_giveUpNext : List Cond := .code yX5_giveUpNext cX5_giveUpNext 2 (some (.object "RingHeap$Thing")) :: ([.fieldLink RX5 48 "RingHeap$Thing" "nextField" "I", .fieldLink RX5 25 "RingHeap$Thing" "held" "[LRingHeap$Thing;"] ++ wsX50)
def wsX3_removeLast : List Cond := .code yX3_removeLast cX3_removeLast 1 none :: ([.fieldLink RX3 17 "RingHeap$Row" "length" "I"] ++ wsX30)
def wsX1_finish_r1 : List Cond := [Cond.fieldLink RX1 12 "RingHeap$Counting" "going" "LRingHeap$Row;", Cond.fieldLink RX1 76 "RingHeap$Thing" "inList" "Z", Cond.fieldLink RX1 82 "RingHeap$Thing" "husk" "Z", Cond.fieldLink RX1 24 "RingHeap$Counting" "store" "LRingHeap$Store;", Cond.methodLink RX1 79 yX3_removeLast, Cond.instanceMethod yX3_removeLast, Cond.selects RX3 yX3_removeLast yX3_removeLast, Cond.initialized RX3, Cond.code yX3_removeLast cX3_removeLast 1 none, Cond.fieldLink RX3 17 "RingHeap$Row" "length" "I", Cond.methodLink RX1 34 yX5_blackenUnlessGreen, Cond.instanceMethod yX5_blackenUnlessGreen, Cond.selects RX5 yX5_blackenUnlessGreen yX5_blackenUnlessGreen, Cond.initialized RX5, Cond.code yX5_blackenUnlessGreen cX5_blackenUnlessGreen 1 none, Cond.fieldLink RX5 34 "RingHeap$Thing" "colour" "I", Cond.methodLink RX5 44 yX5_isGreen, Cond.instanceMethod yX5_isGreen, Cond.selects RX5 yX5_isGreen yX5_isGreen, Cond.code yX5_isGreen cX5_isGreen 1 (some .boolean), Cond.methodLink RX1 85 yX4_free, Cond.instanceMethod yX4_free, Cond.selects RX4 yX4_free yX4_free, Cond.initialized RX4]
def wsX1_finish_r2 : List Cond := [Cond.code yX4_free cX4_free 3 none, Cond.fieldLink RX4 27 "RingHeap$Store" "words" "LRingHeap$Words;", Cond.fieldLink RX4 11 "RingHeap$Store" "things" "[LRingHeap$Thing;", Cond.fieldLink RX4 67 "RingHeap$Thing" "number" "I", Cond.fieldLink RX4 60 "RingHeap$Store" "thingsThere" "I", Cond.fieldLink RX4 21 "RingHeap$Store" "weaks" "[LRingHeap$Thing;", Cond.fieldLink RX4 17 "RingHeap$Store" "freedNumbers" "[I", Cond.fieldLink RX4 70 "RingHeap$Store" "freedEver" "I", Cond.methodLink RX4 63 yX6_takeBack, Cond.instanceMethod yX6_takeBack, Cond.selects RX6 yX6_takeBack yX6_takeBack, Cond.initialized RX6, Cond.code yX6_takeBack cX6_takeBack 4 none, Cond.fieldLink RX6 25 "RingHeap$Thing" "address" "I", Cond.fieldLink RX6 28 "RingHeap$Thing" "kind" "LRingHeap$Kind;", Cond.fieldLink RX6 32 "RingHeap$Kind" "size" "I", Cond.fieldLink RX6 11 "RingHeap$Words" "owners" "[LRingHeap$Thing;", Cond.fieldLink RX6 17 "RingHeap$Words" "free" "I"]
def wsX1_finish : List Cond := .code yX1_finish cX1_finish 2 none :: ((wsX1_finish_r1 ++ wsX1_finish_r2) ++ wsX10 ++ wsX50 ++ wsX30 ++ wsX40 ++ wsX20 ++ wsX60)
def wsX1_less_r1 : List Cond := [Cond.fieldLink RX1 24 "RingHeap$Counting" "store" "LRingHeap$Store;", Cond.fieldLink RX1 37 "RingHeap$Store" "freedEver" "I", Cond.fieldLink RX1 12 "RingHeap$Counting" "going" "LRingHeap$Row;", Cond.methodLink RX1 42 yX1_lower, Cond.instanceMethod yX1_lower, Cond.selects RX1 yX1_lower yX1_lower, Cond.initialized RX1, Cond.code yX1_lower cX1_lower 2 none, Cond.fieldLink RX1 28 "RingHeap$Thing" "count" "I", Cond.fieldLink RX1 56 "RingHeap$Thing" "wishUntold" "Z", Cond.methodLink RX1 63 yX1_suspect, Cond.instanceMethod yX1_suspect, Cond.selects RX1 yX1_suspect yX1_suspect, Cond.code yX1_suspect cX1_suspect 2 none, Cond.fieldLink RX1 73 "RingHeap$Thing" "colour" "I", Cond.fieldLink RX1 76 "RingHeap$Thing" "inList" "Z", Cond.fieldLink RX1 18 "RingHeap$Counting" "list" "LRingHeap$Row;", Cond.methodLink RX1 69 yX5_isGreen, Cond.instanceMethod yX5_isGreen, Cond.selects RX5 yX5_isGreen yX5_isGreen, Cond.initialized RX5, Cond.code yX5_isGreen cX5_isGreen 1 (some .boolean), Cond.fieldLink RX5 34 "RingHeap$Thing" "colour" "I", Cond.methodLink RX1 60 yX3_append]
def wsX1_less_r2 : List Cond := [Cond.instanceMethod yX3_append, Cond.selects RX3 yX3_append yX3_append, Cond.initialized RX3, Cond.code yX3_append cX3_append 2 none, Cond.fieldLink RX3 17 "RingHeap$Row" "length" "I", Cond.fieldLink RX3 11 "RingHeap$Row" "things" "[LRingHeap$Thing;", Cond.methodLink RX1 66 yX1_tellWish, Cond.instanceMethod yX1_tellWish, Cond.selects RX1 yX1_tellWish yX1_tellWish, Cond.code yX1_tellWish cX1_tellWish 2 none, Cond.fieldLink RX1 21 "RingHeap$Counting" "wishes" "LRingHeap$Row;", Cond.methodLink RX1 34 yX5_blackenUnlessGreen, Cond.instanceMethod yX5_blackenUnlessGreen, Cond.selects RX5 yX5_blackenUnlessGreen yX5_blackenUnlessGreen, Cond.code yX5_blackenUnlessGreen cX5_blackenUnlessGreen 1 none, Cond.methodLink RX5 44 yX5_isGreen, Cond.methodLink RX1 46 yX3_last, Cond.instanceMethod yX3_last, Cond.selects RX3 yX3_last yX3_last, Cond.code yX3_last cX3_last 1 (some (.object "RingHeap$Thing")), Cond.methodLink RX3 21 yX3_item, Cond.instanceMethod yX3_item, Cond.selects RX3 yX3_item yX3_item, Cond.code yX3_item cX3_item 2 (some (.object "RingHeap$Thing"))]
def wsX1_less_r3 : List Cond := [Cond.methodLink RX1 50 yX5_giveUpNext, Cond.instanceMethod yX5_giveUpNext, Cond.selects RX5 yX5_giveUpNext yX5_giveUpNext, Cond.code yX5_giveUpNext cX5_giveUpNext 2 (some (.object "RingHeap$Thing")), Cond.fieldLink RX5 48 "RingHeap$Thing" "nextField" "I", Cond.fieldLink RX5 25 "RingHeap$Thing" "held" "[LRingHeap$Thing;", Cond.methodLink RX1 53 yX1_finish, Cond.instanceMethod yX1_finish, Cond.selects RX1 yX1_finish yX1_finish, Cond.code yX1_finish cX1_finish 2 none, Cond.fieldLink RX1 82 "RingHeap$Thing" "husk" "Z", Cond.methodLink RX1 79 yX3_removeLast, Cond.instanceMethod yX3_removeLast, Cond.selects RX3 yX3_removeLast yX3_removeLast, Cond.code yX3_removeLast cX3_removeLast 1 none, Cond.methodLink RX1 85 yX4_free, Cond.instanceMethod yX4_free, Cond.selects RX4 yX4_free yX4_free, Cond.initialized RX4, Cond.code yX4_free cX4_free 3 none, Cond.fieldLink RX4 27 "RingHeap$Store" "words" "LRingHeap$Words;", Cond.fieldLink RX4 11 "RingHeap$Store" "things" "[LRingHeap$Thing;", Cond.fieldLink RX4 67 "RingHeap$Thing" "number" "I", Cond.fieldLink RX4 60 "RingHeap$Store" "thingsThere" "I"]
def wsX1_less_r4 : List Cond := [Cond.fieldLink RX4 21 "RingHeap$Store" "weaks" "[LRingHeap$Thing;", Cond.fieldLink RX4 17 "RingHeap$Store" "freedNumbers" "[I", Cond.fieldLink RX4 70 "RingHeap$Store" "freedEver" "I", Cond.methodLink RX4 63 yX6_takeBack, Cond.instanceMethod yX6_takeBack, Cond.selects RX6 yX6_takeBack yX6_takeBack, Cond.initialized RX6, Cond.code yX6_takeBack cX6_takeBack 4 none, Cond.fieldLink RX6 25 "RingHeap$Thing" "address" "I", Cond.fieldLink RX6 28 "RingHeap$Thing" "kind" "LRingHeap$Kind;", Cond.fieldLink RX6 32 "RingHeap$Kind" "size" "I", Cond.fieldLink RX6 11 "RingHeap$Words" "owners" "[LRingHeap$Thing;", Cond.fieldLink RX6 17 "RingHeap$Words" "free" "I"]
def wsX1_less : List Cond := .code yX1_less cX1_less 6 (some .int) :: ((wsX1_less_r1 ++ (wsX1_less_r2 ++ (wsX1_less_r3 ++ wsX1_less_r4))) ++ wsX10 ++ wsX40 ++ wsX50 ++ wsX30 ++ wsX20 ++ wsX60)
def wsX0_freeWhite_r1 : List Cond := [Cond.fieldLink RX0 21 "RingHeap$Collector" "store" "LRingHeap$Store;", Cond.fieldLink RX0 122 "RingHeap$Store" "words" "LRingHeap$Words;", Cond.fieldLink RX0 78 "RingHeap$Thing" "colour" "I", Cond.fieldLink RX0 90 "RingHeap$Thing" "held" "[LRingHeap$Thing;", Cond.fieldLink RX0 25 "RingHeap$Collector" "counting" "LRingHeap$Counting;", Cond.methodLink RX0 126 yX6_ownerFrom, Cond.instanceMethod yX6_ownerFrom, Cond.selects RX6 yX6_ownerFrom yX6_ownerFrom, Cond.initialized RX6, Cond.code yX6_ownerFrom cX6_ownerFrom 3 (some (.object "RingHeap$Thing")), Cond.fieldLink RX6 25 "RingHeap$Thing" "address" "I", Cond.methodLink RX6 21 yX6_owner, Cond.instanceMethod yX6_owner, Cond.selects RX6 yX6_owner yX6_owner, Cond.code yX6_owner cX6_owner 2 (some (.object "RingHeap$Thing")), Cond.fieldLink RX6 11 "RingHeap$Words" "owners" "[LRingHeap$Thing;", Cond.methodLink RX0 94 yX5_isGreen, Cond.instanceMethod yX5_isGreen, Cond.selects RX5 yX5_isGreen yX5_isGreen, Cond.initialized RX5, Cond.code yX5_isGreen cX5_isGreen 1 (some .boolean), Cond.fieldLink RX5 34 "RingHeap$Thing" "colour" "I", Cond.methodLink RX0 137 yX1_less, Cond.instanceMethod yX1_less]
def wsX0_freeWhite_r2 : List Cond := [Cond.selects RX1 yX1_less yX1_less, Cond.initialized RX1, Cond.code yX1_less cX1_less 6 (some .int), Cond.fieldLink RX1 24 "RingHeap$Counting" "store" "LRingHeap$Store;", Cond.fieldLink RX1 37 "RingHeap$Store" "freedEver" "I", Cond.fieldLink RX1 12 "RingHeap$Counting" "going" "LRingHeap$Row;", Cond.methodLink RX1 42 yX1_lower, Cond.instanceMethod yX1_lower, Cond.selects RX1 yX1_lower yX1_lower, Cond.code yX1_lower cX1_lower 2 none, Cond.fieldLink RX1 28 "RingHeap$Thing" "count" "I", Cond.fieldLink RX1 56 "RingHeap$Thing" "wishUntold" "Z", Cond.methodLink RX1 63 yX1_suspect, Cond.instanceMethod yX1_suspect, Cond.selects RX1 yX1_suspect yX1_suspect, Cond.code yX1_suspect cX1_suspect 2 none, Cond.fieldLink RX1 73 "RingHeap$Thing" "colour" "I", Cond.fieldLink RX1 76 "RingHeap$Thing" "inList" "Z", Cond.fieldLink RX1 18 "RingHeap$Counting" "list" "LRingHeap$Row;", Cond.methodLink RX1 69 yX5_isGreen, Cond.methodLink RX1 60 yX3_append, Cond.instanceMethod yX3_append, Cond.selects RX3 yX3_append yX3_append, Cond.initialized RX3]
def wsX0_freeWhite_r3 : List Cond := [Cond.code yX3_append cX3_append 2 none, Cond.fieldLink RX3 17 "RingHeap$Row" "length" "I", Cond.fieldLink RX3 11 "RingHeap$Row" "things" "[LRingHeap$Thing;", Cond.methodLink RX1 66 yX1_tellWish, Cond.instanceMethod yX1_tellWish, Cond.selects RX1 yX1_tellWish yX1_tellWish, Cond.code yX1_tellWish cX1_tellWish 2 none, Cond.fieldLink RX1 21 "RingHeap$Counting" "wishes" "LRingHeap$Row;", Cond.methodLink RX1 34 yX5_blackenUnlessGreen, Cond.instanceMethod yX5_blackenUnlessGreen, Cond.selects RX5 yX5_blackenUnlessGreen yX5_blackenUnlessGreen, Cond.code yX5_blackenUnlessGreen cX5_blackenUnlessGreen 1 none, Cond.methodLink RX5 44 yX5_isGreen, Cond.methodLink RX1 46 yX3_last, Cond.instanceMethod yX3_last, Cond.selects RX3 yX3_last yX3_last, Cond.code yX3_last cX3_last 1 (some (.object "RingHeap$Thing")), Cond.methodLink RX3 21 yX3_item, Cond.instanceMethod yX3_item, Cond.selects RX3 yX3_item yX3_item, Cond.code yX3_item cX3_item 2 (some (.object "RingHeap$Thing")), Cond.methodLink RX1 50 yX5_giveUpNext, Cond.instanceMethod yX5_giveUpNext, Cond.selects RX5 yX5_giveUpNext yX5_giveUpNext]
def wsX0_freeWhite_r4 : List Cond := [Cond.code yX5_giveUpNext cX5_giveUpNext 2 (some (.object "RingHeap$Thing")), Cond.fieldLink RX5 48 "RingHeap$Thing" "nextField" "I", Cond.fieldLink RX5 25 "RingHeap$Thing" "held" "[LRingHeap$Thing;", Cond.methodLink RX1 53 yX1_finish, Cond.instanceMethod yX1_finish, Cond.selects RX1 yX1_finish yX1_finish, Cond.code yX1_finish cX1_finish 2 none, Cond.fieldLink RX1 82 "RingHeap$Thing" "husk" "Z", Cond.methodLink RX1 79 yX3_removeLast, Cond.instanceMethod yX3_removeLast, Cond.selects RX3 yX3_removeLast yX3_removeLast, Cond.code yX3_removeLast cX3_removeLast 1 none, Cond.methodLink RX1 85 yX4_free, Cond.instanceMethod yX4_free, Cond.selects RX4 yX4_free yX4_free, Cond.initialized RX4, Cond.code yX4_free cX4_free 3 none, Cond.fieldLink RX4 27 "RingHeap$Store" "words" "LRingHeap$Words;", Cond.fieldLink RX4 11 "RingHeap$Store" "things" "[LRingHeap$Thing;", Cond.fieldLink RX4 67 "RingHeap$Thing" "number" "I", Cond.fieldLink RX4 60 "RingHeap$Store" "thingsThere" "I", Cond.fieldLink RX4 21 "RingHeap$Store" "weaks" "[LRingHeap$Thing;", Cond.fieldLink RX4 17 "RingHeap$Store" "freedNumbers" "[I", Cond.fieldLink RX4 70 "RingHeap$Store" "freedEver" "I"]
def wsX0_freeWhite_r5 : List Cond := [Cond.methodLink RX4 63 yX6_takeBack, Cond.instanceMethod yX6_takeBack, Cond.selects RX6 yX6_takeBack yX6_takeBack, Cond.code yX6_takeBack cX6_takeBack 4 none, Cond.fieldLink RX6 28 "RingHeap$Thing" "kind" "LRingHeap$Kind;", Cond.fieldLink RX6 32 "RingHeap$Kind" "size" "I", Cond.fieldLink RX6 17 "RingHeap$Words" "free" "I", Cond.methodLink RX0 74 yX4_free]
def wsX0_freeWhite : List Cond := .code yX0_freeWhite cX0_freeWhite 7 none :: ((wsX0_freeWhite_r1 ++ (wsX0_freeWhite_r2 ++ (wsX0_freeWhite_r3 ++ (wsX0_freeWhite_r4 ++ wsX0_freeWhite_r5)))) ++ wsX00 ++ wsX40 ++ wsX50 ++ wsX60 ++ wsX10 ++ wsX30 ++ wsX20)
def wsX0_run_r1 : List Cond := [Cond.fieldLink RX0 21 "RingHeap$Collector" "store" "LRingHeap$Store;", Cond.fieldLink RX0 29 "RingHeap$Store" "freedEver" "I", Cond.fieldLink RX0 35 "RingHeap$Collector" "collections" "I", Cond.methodLink RX0 38 yX0_markListed, Cond.instanceMethod yX0_markListed, Cond.selects RX0 yX0_markListed yX0_markListed, Cond.initialized RX0, Cond.code yX0_markListed cX0_markListed 4 none, Cond.fieldLink RX0 25 "RingHeap$Collector" "counting" "LRingHeap$Counting;", Cond.fieldLink RX0 53 "RingHeap$Counting" "list" "LRingHeap$Row;", Cond.fieldLink RX0 58 "RingHeap$Row" "length" "I", Cond.fieldLink RX0 65 "RingHeap$Thing" "husk" "Z", Cond.fieldLink RX0 71 "RingHeap$Thing" "inList" "Z", Cond.fieldLink RX0 78 "RingHeap$Thing" "colour" "I", Cond.methodLink RX0 61 yX3_item, Cond.instanceMethod yX3_item, Cond.selects RX3 yX3_item yX3_item, Cond.initialized RX3, Cond.code yX3_item cX3_item 2 (some (.object "RingHeap$Thing")), Cond.fieldLink RX3 17 "RingHeap$Row" "length" "I", Cond.fieldLink RX3 11 "RingHeap$Row" "things" "[LRingHeap$Thing;", Cond.methodLink RX0 74 yX4_free, Cond.instanceMethod yX4_free, Cond.selects RX4 yX4_free yX4_free]
def wsX0_run_r2 : List Cond := [Cond.initialized RX4, Cond.code yX4_free cX4_free 3 none, Cond.fieldLink RX4 27 "RingHeap$Store" "words" "LRingHeap$Words;", Cond.fieldLink RX4 11 "RingHeap$Store" "things" "[LRingHeap$Thing;", Cond.fieldLink RX4 67 "RingHeap$Thing" "number" "I", Cond.fieldLink RX4 60 "RingHeap$Store" "thingsThere" "I", Cond.fieldLink RX4 21 "RingHeap$Store" "weaks" "[LRingHeap$Thing;", Cond.fieldLink RX4 17 "RingHeap$Store" "freedNumbers" "[I", Cond.fieldLink RX4 70 "RingHeap$Store" "freedEver" "I", Cond.methodLink RX4 63 yX6_takeBack, Cond.instanceMethod yX6_takeBack, Cond.selects RX6 yX6_takeBack yX6_takeBack, Cond.initialized RX6, Cond.code yX6_takeBack cX6_takeBack 4 none, Cond.fieldLink RX6 25 "RingHeap$Thing" "address" "I", Cond.fieldLink RX6 28 "RingHeap$Thing" "kind" "LRingHeap$Kind;", Cond.fieldLink RX6 32 "RingHeap$Kind" "size" "I", Cond.fieldLink RX6 11 "RingHeap$Words" "owners" "[LRingHeap$Thing;", Cond.fieldLink RX6 17 "RingHeap$Words" "free" "I", Cond.methodLink RX0 81 yX0_markFrom, Cond.instanceMethod yX0_markFrom, Cond.selects RX0 yX0_markFrom yX0_markFrom, Cond.code yX0_markFrom cX0_markFrom 8 none, Cond.fieldLink RX0 12 "RingHeap$Collector" "reached" "LRingHeap$Row;"]
def wsX0_run_r3 : List Cond := [Cond.fieldLink RX0 90 "RingHeap$Thing" "held" "[LRingHeap$Thing;", Cond.fieldLink RX0 98 "RingHeap$Thing" "count" "I", Cond.methodLink RX0 84 yX3_clear, Cond.instanceMethod yX3_clear, Cond.selects RX3 yX3_clear yX3_clear, Cond.code yX3_clear cX3_clear 1 none, Cond.methodLink RX0 87 yX0_turnGray, Cond.instanceMethod yX0_turnGray, Cond.selects RX0 yX0_turnGray yX0_turnGray, Cond.code yX0_turnGray cX0_turnGray 2 none, Cond.fieldLink RX0 101 "RingHeap$Collector" "grayed" "I", Cond.methodLink RX0 94 yX5_isGreen, Cond.instanceMethod yX5_isGreen, Cond.selects RX5 yX5_isGreen yX5_isGreen, Cond.initialized RX5, Cond.code yX5_isGreen cX5_isGreen 1 (some .boolean), Cond.fieldLink RX5 34 "RingHeap$Thing" "colour" "I", Cond.methodLink RX0 104 yX3_append, Cond.instanceMethod yX3_append, Cond.selects RX3 yX3_append yX3_append, Cond.code yX3_append cX3_append 2 none, Cond.methodLink RX0 41 yX0_scanListed, Cond.instanceMethod yX0_scanListed, Cond.selects RX0 yX0_scanListed yX0_scanListed]
def wsX0_run_r4 : List Cond := [Cond.code yX0_scanListed cX0_scanListed 4 none, Cond.methodLink RX0 107 yX0_scanFrom, Cond.instanceMethod yX0_scanFrom, Cond.selects RX0 yX0_scanFrom yX0_scanFrom, Cond.code yX0_scanFrom cX0_scanFrom 8 none, Cond.methodLink RX0 110 yX0_judge, Cond.instanceMethod yX0_judge, Cond.selects RX0 yX0_judge yX0_judge, Cond.code yX0_judge cX0_judge 2 none, Cond.methodLink RX0 113 yX0_blackenFrom, Cond.instanceMethod yX0_blackenFrom, Cond.selects RX0 yX0_blackenFrom yX0_blackenFrom, Cond.code yX0_blackenFrom cX0_blackenFrom 8 none, Cond.fieldLink RX0 18 "RingHeap$Collector" "darkened" "LRingHeap$Row;", Cond.methodLink RX0 116 yX0_turnBlack, Cond.instanceMethod yX0_turnBlack, Cond.selects RX0 yX0_turnBlack yX0_turnBlack, Cond.code yX0_turnBlack cX0_turnBlack 2 none, Cond.fieldLink RX0 119 "RingHeap$Collector" "blackened" "I", Cond.methodLink RX0 44 yX0_tellWishes, Cond.instanceMethod yX0_tellWishes, Cond.selects RX0 yX0_tellWishes yX0_tellWishes, Cond.code yX0_tellWishes cX0_tellWishes 3 none, Cond.fieldLink RX0 122 "RingHeap$Store" "words" "LRingHeap$Words;"]
def wsX0_run_r5 : List Cond := [Cond.fieldLink RX0 131 "RingHeap$Thing" "wishUntold" "Z", Cond.methodLink RX0 126 yX6_ownerFrom, Cond.instanceMethod yX6_ownerFrom, Cond.selects RX6 yX6_ownerFrom yX6_ownerFrom, Cond.code yX6_ownerFrom cX6_ownerFrom 3 (some (.object "RingHeap$Thing")), Cond.methodLink RX6 21 yX6_owner, Cond.instanceMethod yX6_owner, Cond.selects RX6 yX6_owner yX6_owner, Cond.code yX6_owner cX6_owner 2 (some (.object "RingHeap$Thing")), Cond.methodLink RX0 134 yX1_tellWish, Cond.instanceMethod yX1_tellWish, Cond.selects RX1 yX1_tellWish yX1_tellWish, Cond.initialized RX1, Cond.code yX1_tellWish cX1_tellWish 2 none, Cond.fieldLink RX1 56 "RingHeap$Thing" "wishUntold" "Z", Cond.fieldLink RX1 28 "RingHeap$Thing" "count" "I", Cond.fieldLink RX1 21 "RingHeap$Counting" "wishes" "LRingHeap$Row;", Cond.methodLink RX1 60 yX3_append, Cond.methodLink RX0 47 yX0_emptyList, Cond.instanceMethod yX0_emptyList, Cond.selects RX0 yX0_emptyList yX0_emptyList, Cond.code yX0_emptyList cX0_emptyList 4 none, Cond.methodLink RX0 50 yX0_freeWhite, Cond.instanceMethod yX0_freeWhite]
def wsX0_run_r6 : List Cond := [Cond.selects RX0 yX0_freeWhite yX0_freeWhite, Cond.code yX0_freeWhite cX0_freeWhite 7 none, Cond.methodLink RX0 137 yX1_less, Cond.instanceMethod yX1_less, Cond.selects RX1 yX1_less yX1_less, Cond.code yX1_less cX1_less 6 (some .int), Cond.fieldLink RX1 24 "RingHeap$Counting" "store" "LRingHeap$Store;", Cond.fieldLink RX1 37 "RingHeap$Store" "freedEver" "I", Cond.fieldLink RX1 12 "RingHeap$Counting" "going" "LRingHeap$Row;", Cond.methodLink RX1 42 yX1_lower, Cond.instanceMethod yX1_lower, Cond.selects RX1 yX1_lower yX1_lower, Cond.code yX1_lower cX1_lower 2 none, Cond.methodLink RX1 63 yX1_suspect, Cond.instanceMethod yX1_suspect, Cond.selects RX1 yX1_suspect yX1_suspect, Cond.code yX1_suspect cX1_suspect 2 none, Cond.fieldLink RX1 73 "RingHeap$Thing" "colour" "I", Cond.fieldLink RX1 76 "RingHeap$Thing" "inList" "Z", Cond.fieldLink RX1 18 "RingHeap$Counting" "list" "LRingHeap$Row;", Cond.methodLink RX1 69 yX5_isGreen, Cond.methodLink RX1 66 yX1_tellWish, Cond.methodLink RX1 34 yX5_blackenUnlessGreen, Cond.instanceMethod yX5_blackenUnlessGreen]
def wsX0_run_r7 : List Cond := [Cond.selects RX5 yX5_blackenUnlessGreen yX5_blackenUnlessGreen, Cond.code yX5_blackenUnlessGreen cX5_blackenUnlessGreen 1 none, Cond.methodLink RX5 44 yX5_isGreen, Cond.methodLink RX1 46 yX3_last, Cond.instanceMethod yX3_last, Cond.selects RX3 yX3_last yX3_last, Cond.code yX3_last cX3_last 1 (some (.object "RingHeap$Thing")), Cond.methodLink RX3 21 yX3_item, Cond.methodLink RX1 50 yX5_giveUpNext, Cond.instanceMethod yX5_giveUpNext, Cond.selects RX5 yX5_giveUpNext yX5_giveUpNext, Cond.code yX5_giveUpNext cX5_giveUpNext 2 (some (.object "RingHeap$Thing")), Cond.fieldLink RX5 48 "RingHeap$Thing" "nextField" "I", Cond.fieldLink RX5 25 "RingHeap$Thing" "held" "[LRingHeap$Thing;", Cond.methodLink RX1 53 yX1_finish, Cond.instanceMethod yX1_finish, Cond.selects RX1 yX1_finish yX1_finish, Cond.code yX1_finish cX1_finish 2 none, Cond.fieldLink RX1 82 "RingHeap$Thing" "husk" "Z", Cond.methodLink RX1 79 yX3_removeLast, Cond.instanceMethod yX3_removeLast, Cond.selects RX3 yX3_removeLast yX3_removeLast, Cond.code yX3_removeLast cX3_removeLast 1 none, Cond.methodLink RX1 85 yX4_free]
def wsX0_run : List Cond := .code yX0_run cX0_run 2 (some .int) :: ((wsX0_run_r1 ++ (wsX0_run_r2 ++ (wsX0_run_r3 ++ (wsX0_run_r4 ++ (wsX0_run_r5 ++ (wsX0_run_r6 ++ wsX0_run_r7)))))) ++ wsX00 ++ wsX40 ++ wsX10 ++ wsX30 ++ wsX50 ++ wsX20 ++ wsX60)
def wsX1_init : List Cond := .code yX1_init cX1_init 2 none :: ([.methodLink RX1 3 objectInit, .instanceMethod objectInit, .code objectInit ⟨#[0xb1]⟩ 1 none, .classLink RX1 9 RX3, .instantiable RX3 2, .initialized RX3, .fieldLink RX1 12 "RingHeap$Counting" "going" "LRingHeap$Row;", .fieldLink RX1 18 "RingHeap$Counting" "list" "LRingHeap$Row;", .fieldLink RX1 21 "RingHeap$Counting" "wishes" "LRingHeap$Row;", .fieldLink RX1 24 "RingHeap$Counting" "store" "LRingHeap$Store;", .instanceMethod yX3_init, .code yX3_init cX3_init 1 none, .methodLink RX3 3 objectInit, .classLink RX3 9 RX5, .fieldLink RX3 11 "RingHeap$Row" "things" "[LRingHeap$Thing;"] ++ wsX30 ++ wsX10)
def wsX1_more : List Cond := .code yX1_more cX1_more 2 none :: ([.fieldLink RX1 28 "RingHeap$Thing" "count" "I", .methodLink RX1 34 yX5_blackenUnlessGreen, .instanceMethod yX5_blackenUnlessGreen, .selects RX5 yX5_blackenUnlessGreen yX5_blackenUnlessGreen, .initialized RX5, .code yX5_blackenUnlessGreen cX5_blackenUnlessGreen 1 none, .fieldLink RX5 34 "RingHeap$Thing" "colour" "I", .methodLink RX5 44 yX5_isGreen, .instanceMethod yX5_isGreen, .selects RX5 yX5_isGreen yX5_isGreen, .code yX5_isGreen cX5_isGreen 1 (some .boolean)] ++ wsX50)
def wsX2_init : List Cond := .code yX2_init cX2_init 5 none :: ([.methodLink RX2 1 objectInit, .instanceMethod objectInit, .code objectInit ⟨#[0xb1]⟩ 1 none, .fieldLink RX2 7 "RingHeap$Kind" "number" "I", .fieldLink RX2 13 "RingHeap$Kind" "fields" "I", .fieldLink RX2 16 "RingHeap$Kind" "size" "I", .fieldLink RX2 19 "RingHeap$Kind" "wish" "Z"] ++ wsX20)
def wsX3_takeFirst : List Cond := .code yX3_takeFirst cX3_takeFirst 3 (some (.object "RingHeap$Thing")) :: ([.fieldLink RX3 17 "RingHeap$Row" "length" "I", .fieldLink RX3 11 "RingHeap$Row" "things" "[LRingHeap$Thing;", .methodLink RX3 21 yX3_item, .instanceMethod yX3_item, .selects RX3 yX3_item yX3_item, .initialized RX3, .code yX3_item cX3_item 2 (some (.object "RingHeap$Thing"))] ++ wsX30)
def wsX6_init : List Cond := .code yX6_init cX6_init 1 none :: ([.methodLink RX6 3 objectInit, .instanceMethod objectInit, .code objectInit ⟨#[0xb1]⟩ 1 none, .classLink RX6 9 RX5, .fieldLink RX6 11 "RingHeap$Words" "owners" "[LRingHeap$Thing;", .fieldLink RX6 17 "RingHeap$Words" "free" "I"] ++ wsX60)
def wsX4_init : List Cond := .code yX4_init cX4_init 1 none :: ([.methodLink RX4 3 objectInit, .instanceMethod objectInit, .code objectInit ⟨#[0xb1]⟩ 1 none, .classLink RX4 9 RX5, .fieldLink RX4 11 "RingHeap$Store" "things" "[LRingHeap$Thing;", .arrayClass .int, .fieldLink RX4 17 "RingHeap$Store" "freedNumbers" "[I", .fieldLink RX4 21 "RingHeap$Store" "weaks" "[LRingHeap$Thing;", .classLink RX4 24 RX6, .instantiable RX6 2, .initialized RX6, .fieldLink RX4 27 "RingHeap$Store" "words" "LRingHeap$Words;", .instanceMethod yX6_init, .code yX6_init cX6_init 1 none, .methodLink RX6 3 objectInit, .classLink RX6 9 RX5, .fieldLink RX6 11 "RingHeap$Words" "owners" "[LRingHeap$Thing;", .fieldLink RX6 17 "RingHeap$Words" "free" "I"] ++ wsX40 ++ wsX60)
def wsX4_thing : List Cond := .code yX4_thing cX4_thing 2 (some (.object "RingHeap$Thing")) :: ([.fieldLink RX4 11 "RingHeap$Store" "things" "[LRingHeap$Thing;"] ++ wsX40)
def wsX4_living : List Cond := .code yX4_living cX4_living 3 (some (.object "RingHeap$Thing")) :: ([.fieldLink RX4 35 "RingHeap$Thing" "husk" "Z", .methodLink RX4 31 yX4_thing, .instanceMethod yX4_thing, .selects RX4 yX4_thing yX4_thing, .initialized RX4, .code yX4_thing cX4_thing 2 (some (.object "RingHeap$Thing")), .fieldLink RX4 11 "RingHeap$Store" "things" "[LRingHeap$Thing;"] ++ wsX50 ++ wsX40)
def wsX4_leastFreeNumber : List Cond := .code yX4_leastFreeNumber cX4_leastFreeNumber 2 (some .int) :: ([.fieldLink RX4 11 "RingHeap$Store" "things" "[LRingHeap$Thing;"] ++ wsX40)
def wsX6_gapFor : List Cond := .code yX6_gapFor cX6_gapFor 4 (some .int) :: ([.fieldLink RX6 11 "RingHeap$Words" "owners" "[LRingHeap$Thing;"] ++ wsX60)
def wsX4_hasRoomFor : List Cond := .code yX4_hasRoomFor cX4_hasRoomFor 2 (some .boolean) :: ([.fieldLink RX4 27 "RingHeap$Store" "words" "LRingHeap$Words;", .fieldLink RX4 43 "RingHeap$Kind" "size" "I", .methodLink RX4 39 yX4_leastFreeNumber, .instanceMethod yX4_leastFreeNumber, .selects RX4 yX4_leastFreeNumber yX4_leastFreeNumber, .initialized RX4, .code yX4_leastFreeNumber cX4_leastFreeNumber 2 (some .int), .fieldLink RX4 11 "RingHeap$Store" "things" "[LRingHeap$Thing;", .methodLink RX4 49 yX6_gapFor, .instanceMethod yX6_gapFor, .selects RX6 yX6_gapFor yX6_gapFor, .initialized RX6, .code yX6_gapFor cX6_gapFor 4 (some .int), .fieldLink RX6 11 "RingHeap$Words" "owners" "[LRingHeap$Thing;"] ++ wsX40 ++ wsX20 ++ wsX60)
def wsX5_init : List Cond := .code yX5_init cX5_init 3 none :: ([.methodLink RX5 3 objectInit, .instanceMethod objectInit, .code objectInit ⟨#[0xb1]⟩ 1 none, .fieldLink RX5 9 "RingHeap$Thing" "count" "I", .fieldLink RX5 15 "RingHeap$Thing" "hands" "I", .fieldLink RX5 18 "RingHeap$Thing" "number" "I", .fieldLink RX5 21 "RingHeap$Thing" "kind" "LRingHeap$Kind;", .classLink RX5 10 RX5, .fieldLink RX5 25 "RingHeap$Thing" "held" "[LRingHeap$Thing;", .fieldLink RX5 29 "RingHeap$Kind" "fields" "I", .fieldLink RX5 34 "RingHeap$Thing" "colour" "I", .fieldLink RX5 37 "RingHeap$Kind" "wish" "Z", .fieldLink RX5 41 "RingHeap$Thing" "wishUntold" "Z"] ++ wsX50 ++ wsX20)
def wsX6_give : List Cond := .code yX6_give cX6_give 5 none :: ([.fieldLink RX6 28 "RingHeap$Thing" "kind" "LRingHeap$Kind;", .fieldLink RX6 32 "RingHeap$Kind" "size" "I", .fieldLink RX6 11 "RingHeap$Words" "owners" "[LRingHeap$Thing;", .fieldLink RX6 25 "RingHeap$Thing" "address" "I", .fieldLink RX6 17 "RingHeap$Words" "free" "I"] ++ wsX50 ++ wsX20 ++ wsX60)
def wsX4_place_r1 : List Cond := [Cond.fieldLink RX4 27 "RingHeap$Store" "words" "LRingHeap$Words;", Cond.fieldLink RX4 43 "RingHeap$Kind" "size" "I", Cond.classLink RX4 9 RX5, Cond.instantiable RX5 11, Cond.initialized RX5, Cond.fieldLink RX4 11 "RingHeap$Store" "things" "[LRingHeap$Thing;", Cond.fieldLink RX4 60 "RingHeap$Store" "thingsThere" "I", Cond.methodLink RX4 39 yX4_leastFreeNumber, Cond.instanceMethod yX4_leastFreeNumber, Cond.selects RX4 yX4_leastFreeNumber yX4_leastFreeNumber, Cond.initialized RX4, Cond.code yX4_leastFreeNumber cX4_leastFreeNumber 2 (some .int), Cond.methodLink RX4 49 yX6_gapFor, Cond.instanceMethod yX6_gapFor, Cond.selects RX6 yX6_gapFor yX6_gapFor, Cond.initialized RX6, Cond.code yX6_gapFor cX6_gapFor 4 (some .int), Cond.fieldLink RX6 11 "RingHeap$Words" "owners" "[LRingHeap$Thing;", Cond.methodLink RX4 53 yX5_init, Cond.instanceMethod yX5_init, Cond.code yX5_init cX5_init 3 none, Cond.methodLink RX5 3 objectInit, Cond.instanceMethod objectInit, Cond.code objectInit ⟨#[0xb1]⟩ 1 none]
def wsX4_place_r2 : List Cond := [Cond.fieldLink RX5 9 "RingHeap$Thing" "count" "I", Cond.fieldLink RX5 15 "RingHeap$Thing" "hands" "I", Cond.fieldLink RX5 18 "RingHeap$Thing" "number" "I", Cond.fieldLink RX5 21 "RingHeap$Thing" "kind" "LRingHeap$Kind;", Cond.classLink RX5 10 RX5, Cond.fieldLink RX5 25 "RingHeap$Thing" "held" "[LRingHeap$Thing;", Cond.fieldLink RX5 29 "RingHeap$Kind" "fields" "I", Cond.fieldLink RX5 34 "RingHeap$Thing" "colour" "I", Cond.fieldLink RX5 37 "RingHeap$Kind" "wish" "Z", Cond.fieldLink RX5 41 "RingHeap$Thing" "wishUntold" "Z", Cond.methodLink RX4 56 yX6_give, Cond.instanceMethod yX6_give, Cond.selects RX6 yX6_give yX6_give, Cond.code yX6_give cX6_give 5 none, Cond.fieldLink RX6 28 "RingHeap$Thing" "kind" "LRingHeap$Kind;", Cond.fieldLink RX6 32 "RingHeap$Kind" "size" "I", Cond.fieldLink RX6 25 "RingHeap$Thing" "address" "I", Cond.fieldLink RX6 17 "RingHeap$Words" "free" "I"]
def wsX4_place : List Cond := .code yX4_place cX4_place 5 (some .int) :: ((wsX4_place_r1 ++ wsX4_place_r2) ++ wsX40 ++ wsX20 ++ wsX50 ++ wsX60)
def wsX4_freedNumber : List Cond := .code yX4_freedNumber cX4_freedNumber 2 (some .int) :: ([.fieldLink RX4 70 "RingHeap$Store" "freedEver" "I", .fieldLink RX4 17 "RingHeap$Store" "freedNumbers" "[I"] ++ wsX40)
def wsX5_hasField : List Cond := .code yX5_hasField cX5_hasField 2 (some .boolean) :: ([.fieldLink RX5 21 "RingHeap$Thing" "kind" "LRingHeap$Kind;", .fieldLink RX5 29 "RingHeap$Kind" "fields" "I", .fieldLink RX5 25 "RingHeap$Thing" "held" "[LRingHeap$Thing;"] ++ wsX50 ++ wsX20)
def wsX5_tell : List Cond := .code yX5_tell cX5_tell 2 (some .int) :: ([.fieldLink RX5 21 "RingHeap$Thing" "kind" "LRingHeap$Kind;", .fieldLink RX5 51 "RingHeap$Kind" "number" "I", .fieldLink RX5 9 "RingHeap$Thing" "count" "I", .fieldLink RX5 34 "RingHeap$Thing" "colour" "I", .fieldLink RX5 52 "RingHeap$Thing" "address" "I", .fieldLink RX5 55 "RingHeap$Thing" "inList" "Z", .fieldLink RX5 41 "RingHeap$Thing" "wishUntold" "Z", .fieldLink RX5 15 "RingHeap$Thing" "hands" "I", .fieldLink RX5 58 "RingHeap$Thing" "husk" "Z"] ++ wsX50 ++ wsX20)
def wsX6_moveAllDown : List Cond := .code yX6_moveAllDown cX6_moveAllDown 5 (some .int) :: ([.fieldLink RX6 28 "RingHeap$Thing" "kind" "LRingHeap$Kind;", .fieldLink RX6 32 "RingHeap$Kind" "size" "I", .methodLink RX6 37 yX6_ownerFrom, .instanceMethod yX6_ownerFrom, .selects RX6 yX6_ownerFrom yX6_ownerFrom, .initialized RX6, .code yX6_ownerFrom cX6_ownerFrom 3 (some (.object "RingHeap$Thing")), .fieldLink RX6 25 "RingHeap$Thing" "address" "I", .methodLink RX6 21 yX6_owner, .instanceMethod yX6_owner, .selects RX6 yX6_owner yX6_owner, .code yX6_owner cX6_owner 2 (some (.object "RingHeap$Thing")), .fieldLink RX6 11 "RingHeap$Words" "owners" "[LRingHeap$Thing;", .methodLink RX6 40 yX6_takeBack, .instanceMethod yX6_takeBack, .selects RX6 yX6_takeBack yX6_takeBack, .code yX6_takeBack cX6_takeBack 4 none, .fieldLink RX6 17 "RingHeap$Words" "free" "I", .methodLink RX6 44 yX6_give, .instanceMethod yX6_give, .selects RX6 yX6_give yX6_give, .code yX6_give cX6_give 5 none] ++ wsX50 ++ wsX20 ++ wsX60)
def wsX7_init_r1 : List Cond := [Cond.methodLink RX7 3 objectInit, Cond.instanceMethod objectInit, Cond.code objectInit ⟨#[0xb1]⟩ 1 none, Cond.classLink RX7 9 RX2, Cond.fieldLink RX7 11 "RingHeap" "kinds" "[LRingHeap$Kind;", Cond.classLink RX7 15 RX4, Cond.instantiable RX4 6, Cond.initialized RX4, Cond.fieldLink RX7 18 "RingHeap" "store" "LRingHeap$Store;", Cond.classLink RX7 22 RX1, Cond.instantiable RX1 4, Cond.initialized RX1, Cond.fieldLink RX7 27 "RingHeap" "counting" "LRingHeap$Counting;", Cond.classLink RX7 31 RX0, Cond.instantiable RX0 7, Cond.initialized RX0, Cond.fieldLink RX7 36 "RingHeap" "collector" "LRingHeap$Collector;", Cond.instanceMethod yX4_init, Cond.code yX4_init cX4_init 1 none, Cond.methodLink RX4 3 objectInit, Cond.classLink RX4 9 RX5, Cond.fieldLink RX4 11 "RingHeap$Store" "things" "[LRingHeap$Thing;", Cond.arrayClass .int, Cond.fieldLink RX4 17 "RingHeap$Store" "freedNumbers" "[I"]
def wsX7_init_r2 : List Cond := [Cond.fieldLink RX4 21 "RingHeap$Store" "weaks" "[LRingHeap$Thing;", Cond.classLink RX4 24 RX6, Cond.instantiable RX6 2, Cond.initialized RX6, Cond.fieldLink RX4 27 "RingHeap$Store" "words" "LRingHeap$Words;", Cond.instanceMethod yX6_init, Cond.code yX6_init cX6_init 1 none, Cond.methodLink RX6 3 objectInit, Cond.classLink RX6 9 RX5, Cond.fieldLink RX6 11 "RingHeap$Words" "owners" "[LRingHeap$Thing;", Cond.fieldLink RX6 17 "RingHeap$Words" "free" "I", Cond.methodLink RX7 24 yX1_init, Cond.instanceMethod yX1_init, Cond.code yX1_init cX1_init 2 none, Cond.methodLink RX1 3 objectInit, Cond.classLink RX1 9 RX3, Cond.instantiable RX3 2, Cond.initialized RX3, Cond.fieldLink RX1 12 "RingHeap$Counting" "going" "LRingHeap$Row;", Cond.fieldLink RX1 18 "RingHeap$Counting" "list" "LRingHeap$Row;", Cond.fieldLink RX1 21 "RingHeap$Counting" "wishes" "LRingHeap$Row;", Cond.fieldLink RX1 24 "RingHeap$Counting" "store" "LRingHeap$Store;", Cond.instanceMethod yX3_init, Cond.code yX3_init cX3_init 1 none]
def wsX7_init_r3 : List Cond := [Cond.methodLink RX3 3 objectInit, Cond.classLink RX3 9 RX5, Cond.fieldLink RX3 11 "RingHeap$Row" "things" "[LRingHeap$Thing;", Cond.methodLink RX7 33 yX0_init, Cond.instanceMethod yX0_init, Cond.code yX0_init cX0_init 3 none, Cond.methodLink RX0 3 objectInit, Cond.classLink RX0 9 RX3, Cond.fieldLink RX0 12 "RingHeap$Collector" "reached" "LRingHeap$Row;", Cond.fieldLink RX0 18 "RingHeap$Collector" "darkened" "LRingHeap$Row;", Cond.fieldLink RX0 21 "RingHeap$Collector" "store" "LRingHeap$Store;", Cond.fieldLink RX0 25 "RingHeap$Collector" "counting" "LRingHeap$Counting;"]
def wsX7_init : List Cond := .code yX7_init cX7_init 1 none :: ((wsX7_init_r1 ++ (wsX7_init_r2 ++ wsX7_init_r3)) ++ wsX70 ++ wsX40 ++ wsX10 ++ wsX00 ++ wsX60 ++ wsX30)
def wsX7_type : List Cond := .code yX7_type cX7_type 5 (some .boolean) :: ([.classLink RX7 40 "java/lang/IndexOutOfBoundsException", .initialized "java/lang/IndexOutOfBoundsException", .classLink RX7 47 "java/lang/IllegalArgumentException", .initialized "java/lang/IllegalArgumentException", .fieldLink RX7 11 "RingHeap" "kinds" "[LRingHeap$Kind;", .classLink RX7 9 RX2, .instantiable RX2 4, .initialized RX2, .methodLink RX7 52 yX2_init, .instanceMethod yX2_init, .code yX2_init cX2_init 5 none, .methodLink RX2 1 objectInit, .instanceMethod objectInit, .code objectInit ⟨#[0xb1]⟩ 1 none, .fieldLink RX2 7 "RingHeap$Kind" "number" "I", .fieldLink RX2 13 "RingHeap$Kind" "fields" "I", .fieldLink RX2 16 "RingHeap$Kind" "size" "I", .fieldLink RX2 19 "RingHeap$Kind" "wish" "Z"] ++ wsX70 ++ wsX20 ++ (vx_atS RX7 44 "java/lang/IndexOutOfBoundsException" ["java/lang/RuntimeException", "java/lang/Exception"]).filter goodWord ++ (vx_atS RX7 51 "java/lang/IllegalArgumentException" ["java/lang/RuntimeException", "java/lang/Exception"]).filter goodWord)
def wsX7_makeRoomByMoving_r1 : List Cond := [Cond.fieldLink RX7 18 "RingHeap" "store" "LRingHeap$Store;", Cond.fieldLink RX7 125 "RingHeap$Store" "words" "LRingHeap$Words;", Cond.fieldLink RX7 154 "RingHeap$Words" "free" "I", Cond.fieldLink RX7 183 "RingHeap$Kind" "size" "I", Cond.fieldLink RX7 122 "RingHeap" "moves" "I", Cond.methodLink RX7 180 yX4_leastFreeNumber, Cond.instanceMethod yX4_leastFreeNumber, Cond.selects RX4 yX4_leastFreeNumber yX4_leastFreeNumber, Cond.initialized RX4, Cond.code yX4_leastFreeNumber cX4_leastFreeNumber 2 (some .int), Cond.fieldLink RX4 11 "RingHeap$Store" "things" "[LRingHeap$Thing;", Cond.methodLink RX7 129 yX6_moveAllDown, Cond.instanceMethod yX6_moveAllDown, Cond.selects RX6 yX6_moveAllDown yX6_moveAllDown, Cond.initialized RX6, Cond.code yX6_moveAllDown cX6_moveAllDown 5 (some .int), Cond.fieldLink RX6 28 "RingHeap$Thing" "kind" "LRingHeap$Kind;", Cond.fieldLink RX6 32 "RingHeap$Kind" "size" "I", Cond.methodLink RX6 37 yX6_ownerFrom, Cond.instanceMethod yX6_ownerFrom, Cond.selects RX6 yX6_ownerFrom yX6_ownerFrom, Cond.code yX6_ownerFrom cX6_ownerFrom 3 (some (.object "RingHeap$Thing")), Cond.fieldLink RX6 25 "RingHeap$Thing" "address" "I", Cond.methodLink RX6 21 yX6_owner]
def wsX7_makeRoomByMoving_r2 : List Cond := [Cond.instanceMethod yX6_owner, Cond.selects RX6 yX6_owner yX6_owner, Cond.code yX6_owner cX6_owner 2 (some (.object "RingHeap$Thing")), Cond.fieldLink RX6 11 "RingHeap$Words" "owners" "[LRingHeap$Thing;", Cond.methodLink RX6 40 yX6_takeBack, Cond.instanceMethod yX6_takeBack, Cond.selects RX6 yX6_takeBack yX6_takeBack, Cond.code yX6_takeBack cX6_takeBack 4 none, Cond.fieldLink RX6 17 "RingHeap$Words" "free" "I", Cond.methodLink RX6 44 yX6_give, Cond.instanceMethod yX6_give, Cond.selects RX6 yX6_give yX6_give, Cond.code yX6_give cX6_give 5 none]
def wsX7_makeRoomByMoving : List Cond := .code yX7_makeRoomByMoving cX7_makeRoomByMoving 2 (some .boolean) :: ((wsX7_makeRoomByMoving_r1 ++ wsX7_makeRoomByMoving_r2) ++ wsX70 ++ wsX40 ++ wsX60 ++ wsX20 ++ wsX50)
def wsX7_make_r1 : List Cond := [Cond.classLink RX7 40 "java/lang/IndexOutOfBoundsException", Cond.initialized "java/lang/IndexOutOfBoundsException", Cond.fieldLink RX7 11 "RingHeap" "kinds" "[LRingHeap$Kind;", Cond.fieldLink RX7 18 "RingHeap" "store" "LRingHeap$Store;", Cond.fieldLink RX7 36 "RingHeap" "collector" "LRingHeap$Collector;", Cond.methodLink RX7 55 yX4_hasRoomFor, Cond.instanceMethod yX4_hasRoomFor, Cond.selects RX4 yX4_hasRoomFor yX4_hasRoomFor, Cond.initialized RX4, Cond.code yX4_hasRoomFor cX4_hasRoomFor 2 (some .boolean), Cond.fieldLink RX4 27 "RingHeap$Store" "words" "LRingHeap$Words;", Cond.fieldLink RX4 43 "RingHeap$Kind" "size" "I", Cond.methodLink RX4 39 yX4_leastFreeNumber, Cond.instanceMethod yX4_leastFreeNumber, Cond.selects RX4 yX4_leastFreeNumber yX4_leastFreeNumber, Cond.code yX4_leastFreeNumber cX4_leastFreeNumber 2 (some .int), Cond.fieldLink RX4 11 "RingHeap$Store" "things" "[LRingHeap$Thing;", Cond.methodLink RX4 49 yX6_gapFor, Cond.instanceMethod yX6_gapFor, Cond.selects RX6 yX6_gapFor yX6_gapFor, Cond.initialized RX6, Cond.code yX6_gapFor cX6_gapFor 4 (some .int), Cond.fieldLink RX6 11 "RingHeap$Words" "owners" "[LRingHeap$Thing;", Cond.methodLink RX7 59 yX0_run]
def wsX7_make_r2 : List Cond := [Cond.instanceMethod yX0_run, Cond.selects RX0 yX0_run yX0_run, Cond.initialized RX0, Cond.code yX0_run cX0_run 2 (some .int), Cond.fieldLink RX0 21 "RingHeap$Collector" "store" "LRingHeap$Store;", Cond.fieldLink RX0 29 "RingHeap$Store" "freedEver" "I", Cond.fieldLink RX0 35 "RingHeap$Collector" "collections" "I", Cond.methodLink RX0 38 yX0_markListed, Cond.instanceMethod yX0_markListed, Cond.selects RX0 yX0_markListed yX0_markListed, Cond.code yX0_markListed cX0_markListed 4 none, Cond.fieldLink RX0 25 "RingHeap$Collector" "counting" "LRingHeap$Counting;", Cond.fieldLink RX0 53 "RingHeap$Counting" "list" "LRingHeap$Row;", Cond.fieldLink RX0 58 "RingHeap$Row" "length" "I", Cond.fieldLink RX0 65 "RingHeap$Thing" "husk" "Z", Cond.fieldLink RX0 71 "RingHeap$Thing" "inList" "Z", Cond.fieldLink RX0 78 "RingHeap$Thing" "colour" "I", Cond.methodLink RX0 61 yX3_item, Cond.instanceMethod yX3_item, Cond.selects RX3 yX3_item yX3_item, Cond.initialized RX3, Cond.code yX3_item cX3_item 2 (some (.object "RingHeap$Thing")), Cond.fieldLink RX3 17 "RingHeap$Row" "length" "I", Cond.fieldLink RX3 11 "RingHeap$Row" "things" "[LRingHeap$Thing;"]
def wsX7_make_r3 : List Cond := [Cond.methodLink RX0 74 yX4_free, Cond.instanceMethod yX4_free, Cond.selects RX4 yX4_free yX4_free, Cond.code yX4_free cX4_free 3 none, Cond.fieldLink RX4 67 "RingHeap$Thing" "number" "I", Cond.fieldLink RX4 60 "RingHeap$Store" "thingsThere" "I", Cond.fieldLink RX4 21 "RingHeap$Store" "weaks" "[LRingHeap$Thing;", Cond.fieldLink RX4 17 "RingHeap$Store" "freedNumbers" "[I", Cond.fieldLink RX4 70 "RingHeap$Store" "freedEver" "I", Cond.methodLink RX4 63 yX6_takeBack, Cond.instanceMethod yX6_takeBack, Cond.selects RX6 yX6_takeBack yX6_takeBack, Cond.code yX6_takeBack cX6_takeBack 4 none, Cond.fieldLink RX6 25 "RingHeap$Thing" "address" "I", Cond.fieldLink RX6 28 "RingHeap$Thing" "kind" "LRingHeap$Kind;", Cond.fieldLink RX6 32 "RingHeap$Kind" "size" "I", Cond.fieldLink RX6 17 "RingHeap$Words" "free" "I", Cond.methodLink RX0 81 yX0_markFrom, Cond.instanceMethod yX0_markFrom, Cond.selects RX0 yX0_markFrom yX0_markFrom, Cond.code yX0_markFrom cX0_markFrom 8 none, Cond.fieldLink RX0 12 "RingHeap$Collector" "reached" "LRingHeap$Row;", Cond.fieldLink RX0 90 "RingHeap$Thing" "held" "[LRingHeap$Thing;", Cond.fieldLink RX0 98 "RingHeap$Thing" "count" "I"]
def wsX7_make_r4 : List Cond := [Cond.methodLink RX0 84 yX3_clear, Cond.instanceMethod yX3_clear, Cond.selects RX3 yX3_clear yX3_clear, Cond.code yX3_clear cX3_clear 1 none, Cond.methodLink RX0 87 yX0_turnGray, Cond.instanceMethod yX0_turnGray, Cond.selects RX0 yX0_turnGray yX0_turnGray, Cond.code yX0_turnGray cX0_turnGray 2 none, Cond.fieldLink RX0 101 "RingHeap$Collector" "grayed" "I", Cond.methodLink RX0 94 yX5_isGreen, Cond.instanceMethod yX5_isGreen, Cond.selects RX5 yX5_isGreen yX5_isGreen, Cond.initialized RX5, Cond.code yX5_isGreen cX5_isGreen 1 (some .boolean), Cond.fieldLink RX5 34 "RingHeap$Thing" "colour" "I", Cond.methodLink RX0 104 yX3_append, Cond.instanceMethod yX3_append, Cond.selects RX3 yX3_append yX3_append, Cond.code yX3_append cX3_append 2 none, Cond.methodLink RX0 41 yX0_scanListed, Cond.instanceMethod yX0_scanListed, Cond.selects RX0 yX0_scanListed yX0_scanListed, Cond.code yX0_scanListed cX0_scanListed 4 none, Cond.methodLink RX0 107 yX0_scanFrom]
def wsX7_make_r5 : List Cond := [Cond.instanceMethod yX0_scanFrom, Cond.selects RX0 yX0_scanFrom yX0_scanFrom, Cond.code yX0_scanFrom cX0_scanFrom 8 none, Cond.methodLink RX0 110 yX0_judge, Cond.instanceMethod yX0_judge, Cond.selects RX0 yX0_judge yX0_judge, Cond.code yX0_judge cX0_judge 2 none, Cond.methodLink RX0 113 yX0_blackenFrom, Cond.instanceMethod yX0_blackenFrom, Cond.selects RX0 yX0_blackenFrom yX0_blackenFrom, Cond.code yX0_blackenFrom cX0_blackenFrom 8 none, Cond.fieldLink RX0 18 "RingHeap$Collector" "darkened" "LRingHeap$Row;", Cond.methodLink RX0 116 yX0_turnBlack, Cond.instanceMethod yX0_turnBlack, Cond.selects RX0 yX0_turnBlack yX0_turnBlack, Cond.code yX0_turnBlack cX0_turnBlack 2 none, Cond.fieldLink RX0 119 "RingHeap$Collector" "blackened" "I", Cond.methodLink RX0 44 yX0_tellWishes, Cond.instanceMethod yX0_tellWishes, Cond.selects RX0 yX0_tellWishes yX0_tellWishes, Cond.code yX0_tellWishes cX0_tellWishes 3 none, Cond.fieldLink RX0 122 "RingHeap$Store" "words" "LRingHeap$Words;", Cond.fieldLink RX0 131 "RingHeap$Thing" "wishUntold" "Z", Cond.methodLink RX0 126 yX6_ownerFrom]
def wsX7_make_r6 : List Cond := [Cond.instanceMethod yX6_ownerFrom, Cond.selects RX6 yX6_ownerFrom yX6_ownerFrom, Cond.code yX6_ownerFrom cX6_ownerFrom 3 (some (.object "RingHeap$Thing")), Cond.methodLink RX6 21 yX6_owner, Cond.instanceMethod yX6_owner, Cond.selects RX6 yX6_owner yX6_owner, Cond.code yX6_owner cX6_owner 2 (some (.object "RingHeap$Thing")), Cond.methodLink RX0 134 yX1_tellWish, Cond.instanceMethod yX1_tellWish, Cond.selects RX1 yX1_tellWish yX1_tellWish, Cond.initialized RX1, Cond.code yX1_tellWish cX1_tellWish 2 none, Cond.fieldLink RX1 56 "RingHeap$Thing" "wishUntold" "Z", Cond.fieldLink RX1 28 "RingHeap$Thing" "count" "I", Cond.fieldLink RX1 21 "RingHeap$Counting" "wishes" "LRingHeap$Row;", Cond.methodLink RX1 60 yX3_append, Cond.methodLink RX0 47 yX0_emptyList, Cond.instanceMethod yX0_emptyList, Cond.selects RX0 yX0_emptyList yX0_emptyList, Cond.code yX0_emptyList cX0_emptyList 4 none, Cond.methodLink RX0 50 yX0_freeWhite, Cond.instanceMethod yX0_freeWhite, Cond.selects RX0 yX0_freeWhite yX0_freeWhite, Cond.code yX0_freeWhite cX0_freeWhite 7 none]
def wsX7_make_r7 : List Cond := [Cond.methodLink RX0 137 yX1_less, Cond.instanceMethod yX1_less, Cond.selects RX1 yX1_less yX1_less, Cond.code yX1_less cX1_less 6 (some .int), Cond.fieldLink RX1 24 "RingHeap$Counting" "store" "LRingHeap$Store;", Cond.fieldLink RX1 37 "RingHeap$Store" "freedEver" "I", Cond.fieldLink RX1 12 "RingHeap$Counting" "going" "LRingHeap$Row;", Cond.methodLink RX1 42 yX1_lower, Cond.instanceMethod yX1_lower, Cond.selects RX1 yX1_lower yX1_lower, Cond.code yX1_lower cX1_lower 2 none, Cond.methodLink RX1 63 yX1_suspect, Cond.instanceMethod yX1_suspect, Cond.selects RX1 yX1_suspect yX1_suspect, Cond.code yX1_suspect cX1_suspect 2 none, Cond.fieldLink RX1 73 "RingHeap$Thing" "colour" "I", Cond.fieldLink RX1 76 "RingHeap$Thing" "inList" "Z", Cond.fieldLink RX1 18 "RingHeap$Counting" "list" "LRingHeap$Row;", Cond.methodLink RX1 69 yX5_isGreen, Cond.methodLink RX1 66 yX1_tellWish, Cond.methodLink RX1 34 yX5_blackenUnlessGreen, Cond.instanceMethod yX5_blackenUnlessGreen, Cond.selects RX5 yX5_blackenUnlessGreen yX5_blackenUnlessGreen, Cond.code yX5_blackenUnlessGreen cX5_blackenUnlessGreen 1 none]
def wsX7_make_r8 : List Cond := [Cond.methodLink RX5 44 yX5_isGreen, Cond.methodLink RX1 46 yX3_last, Cond.instanceMethod yX3_last, Cond.selects RX3 yX3_last yX3_last, Cond.code yX3_last cX3_last 1 (some (.object "RingHeap$Thing")), Cond.methodLink RX3 21 yX3_item, Cond.methodLink RX1 50 yX5_giveUpNext, Cond.instanceMethod yX5_giveUpNext, Cond.selects RX5 yX5_giveUpNext yX5_giveUpNext, Cond.code yX5_giveUpNext cX5_giveUpNext 2 (some (.object "RingHeap$Thing")), Cond.fieldLink RX5 48 "RingHeap$Thing" "nextField" "I", Cond.fieldLink RX5 25 "RingHeap$Thing" "held" "[LRingHeap$Thing;", Cond.methodLink RX1 53 yX1_finish, Cond.instanceMethod yX1_finish, Cond.selects RX1 yX1_finish yX1_finish, Cond.code yX1_finish cX1_finish 2 none, Cond.fieldLink RX1 82 "RingHeap$Thing" "husk" "Z", Cond.methodLink RX1 79 yX3_removeLast, Cond.instanceMethod yX3_removeLast, Cond.selects RX3 yX3_removeLast yX3_removeLast, Cond.code yX3_removeLast cX3_removeLast 1 none, Cond.methodLink RX1 85 yX4_free, Cond.methodLink RX7 63 yX7_makeRoomByMoving, Cond.instanceMethod yX7_makeRoomByMoving]
def wsX7_make_r9 : List Cond := [Cond.selects RX7 yX7_makeRoomByMoving yX7_makeRoomByMoving, Cond.initialized RX7, Cond.code yX7_makeRoomByMoving cX7_makeRoomByMoving 2 (some .boolean), Cond.fieldLink RX7 125 "RingHeap$Store" "words" "LRingHeap$Words;", Cond.fieldLink RX7 154 "RingHeap$Words" "free" "I", Cond.fieldLink RX7 183 "RingHeap$Kind" "size" "I", Cond.fieldLink RX7 122 "RingHeap" "moves" "I", Cond.methodLink RX7 180 yX4_leastFreeNumber, Cond.methodLink RX7 129 yX6_moveAllDown, Cond.instanceMethod yX6_moveAllDown, Cond.selects RX6 yX6_moveAllDown yX6_moveAllDown, Cond.code yX6_moveAllDown cX6_moveAllDown 5 (some .int), Cond.methodLink RX6 37 yX6_ownerFrom, Cond.methodLink RX6 40 yX6_takeBack, Cond.methodLink RX6 44 yX6_give, Cond.instanceMethod yX6_give, Cond.selects RX6 yX6_give yX6_give, Cond.code yX6_give cX6_give 5 none, Cond.methodLink RX7 66 yX4_place, Cond.instanceMethod yX4_place, Cond.selects RX4 yX4_place yX4_place, Cond.code yX4_place cX4_place 5 (some .int), Cond.classLink RX4 9 RX5, Cond.instantiable RX5 11]
def wsX7_make_r10 : List Cond := [Cond.methodLink RX4 53 yX5_init, Cond.instanceMethod yX5_init, Cond.code yX5_init cX5_init 3 none, Cond.methodLink RX5 3 objectInit, Cond.instanceMethod objectInit, Cond.code objectInit ⟨#[0xb1]⟩ 1 none, Cond.fieldLink RX5 9 "RingHeap$Thing" "count" "I", Cond.fieldLink RX5 15 "RingHeap$Thing" "hands" "I", Cond.fieldLink RX5 18 "RingHeap$Thing" "number" "I", Cond.fieldLink RX5 21 "RingHeap$Thing" "kind" "LRingHeap$Kind;", Cond.classLink RX5 10 RX5, Cond.fieldLink RX5 29 "RingHeap$Kind" "fields" "I", Cond.fieldLink RX5 37 "RingHeap$Kind" "wish" "Z", Cond.fieldLink RX5 41 "RingHeap$Thing" "wishUntold" "Z", Cond.methodLink RX4 56 yX6_give]
def wsX7_make : List Cond := .code yX7_make cX7_make 3 (some .int) :: ((wsX7_make_r1 ++ (wsX7_make_r2 ++ (wsX7_make_r3 ++ (wsX7_make_r4 ++ (wsX7_make_r5 ++ (wsX7_make_r6 ++ (wsX7_make_r7 ++ (wsX7_make_r8 ++ (wsX7_make_r9 ++ wsX7_make_r10))))))))) ++ wsX70 ++ wsX40 ++ wsX20 ++ wsX60 ++ wsX00 ++ wsX10 ++ wsX30 ++ wsX50 ++ (vx_atS RX7 44 "java/lang/IndexOutOfBoundsException" ["java/lang/RuntimeException", "java/lang/Exception"]).filter goodWord)
def wsX7_hold_r1 : List Cond := [Cond.fieldLink RX7 18 "RingHeap" "store" "LRingHeap$Store;", Cond.fieldLink RX7 74 "RingHeap$Thing" "hands" "I", Cond.fieldLink RX7 27 "RingHeap" "counting" "LRingHeap$Counting;", Cond.fieldLink RX7 84 "RingHeap$Thing" "count" "I", Cond.methodLink RX7 70 yX4_living, Cond.instanceMethod yX4_living, Cond.selects RX4 yX4_living yX4_living, Cond.initialized RX4, Cond.code yX4_living cX4_living 3 (some (.object "RingHeap$Thing")), Cond.fieldLink RX4 35 "RingHeap$Thing" "husk" "Z", Cond.methodLink RX4 31 yX4_thing, Cond.instanceMethod yX4_thing, Cond.selects RX4 yX4_thing yX4_thing, Cond.code yX4_thing cX4_thing 2 (some (.object "RingHeap$Thing")), Cond.fieldLink RX4 11 "RingHeap$Store" "things" "[LRingHeap$Thing;", Cond.methodLink RX7 80 yX1_more, Cond.instanceMethod yX1_more, Cond.selects RX1 yX1_more yX1_more, Cond.initialized RX1, Cond.code yX1_more cX1_more 2 none, Cond.fieldLink RX1 28 "RingHeap$Thing" "count" "I", Cond.methodLink RX1 34 yX5_blackenUnlessGreen, Cond.instanceMethod yX5_blackenUnlessGreen, Cond.selects RX5 yX5_blackenUnlessGreen yX5_blackenUnlessGreen]
def wsX7_hold_r2 : List Cond := [Cond.initialized RX5, Cond.code yX5_blackenUnlessGreen cX5_blackenUnlessGreen 1 none, Cond.fieldLink RX5 34 "RingHeap$Thing" "colour" "I", Cond.methodLink RX5 44 yX5_isGreen, Cond.instanceMethod yX5_isGreen, Cond.selects RX5 yX5_isGreen yX5_isGreen, Cond.code yX5_isGreen cX5_isGreen 1 (some .boolean)]
def wsX7_hold : List Cond := .code yX7_hold cX7_hold 3 (some .int) :: ((wsX7_hold_r1 ++ wsX7_hold_r2) ++ wsX70 ++ wsX50 ++ wsX40)
def wsX7_loose_r1 : List Cond := [Cond.fieldLink RX7 18 "RingHeap" "store" "LRingHeap$Store;", Cond.fieldLink RX7 74 "RingHeap$Thing" "hands" "I", Cond.fieldLink RX7 27 "RingHeap" "counting" "LRingHeap$Counting;", Cond.methodLink RX7 70 yX4_living, Cond.instanceMethod yX4_living, Cond.selects RX4 yX4_living yX4_living, Cond.initialized RX4, Cond.code yX4_living cX4_living 3 (some (.object "RingHeap$Thing")), Cond.fieldLink RX4 35 "RingHeap$Thing" "husk" "Z", Cond.methodLink RX4 31 yX4_thing, Cond.instanceMethod yX4_thing, Cond.selects RX4 yX4_thing yX4_thing, Cond.code yX4_thing cX4_thing 2 (some (.object "RingHeap$Thing")), Cond.fieldLink RX4 11 "RingHeap$Store" "things" "[LRingHeap$Thing;", Cond.methodLink RX7 87 yX1_less, Cond.instanceMethod yX1_less, Cond.selects RX1 yX1_less yX1_less, Cond.initialized RX1, Cond.code yX1_less cX1_less 6 (some .int), Cond.fieldLink RX1 24 "RingHeap$Counting" "store" "LRingHeap$Store;", Cond.fieldLink RX1 37 "RingHeap$Store" "freedEver" "I", Cond.fieldLink RX1 12 "RingHeap$Counting" "going" "LRingHeap$Row;", Cond.methodLink RX1 42 yX1_lower, Cond.instanceMethod yX1_lower]
def wsX7_loose_r2 : List Cond := [Cond.selects RX1 yX1_lower yX1_lower, Cond.code yX1_lower cX1_lower 2 none, Cond.fieldLink RX1 28 "RingHeap$Thing" "count" "I", Cond.fieldLink RX1 56 "RingHeap$Thing" "wishUntold" "Z", Cond.methodLink RX1 63 yX1_suspect, Cond.instanceMethod yX1_suspect, Cond.selects RX1 yX1_suspect yX1_suspect, Cond.code yX1_suspect cX1_suspect 2 none, Cond.fieldLink RX1 73 "RingHeap$Thing" "colour" "I", Cond.fieldLink RX1 76 "RingHeap$Thing" "inList" "Z", Cond.fieldLink RX1 18 "RingHeap$Counting" "list" "LRingHeap$Row;", Cond.methodLink RX1 69 yX5_isGreen, Cond.instanceMethod yX5_isGreen, Cond.selects RX5 yX5_isGreen yX5_isGreen, Cond.initialized RX5, Cond.code yX5_isGreen cX5_isGreen 1 (some .boolean), Cond.fieldLink RX5 34 "RingHeap$Thing" "colour" "I", Cond.methodLink RX1 60 yX3_append, Cond.instanceMethod yX3_append, Cond.selects RX3 yX3_append yX3_append, Cond.initialized RX3, Cond.code yX3_append cX3_append 2 none, Cond.fieldLink RX3 17 "RingHeap$Row" "length" "I", Cond.fieldLink RX3 11 "RingHeap$Row" "things" "[LRingHeap$Thing;"]
def wsX7_loose_r3 : List Cond := [Cond.methodLink RX1 66 yX1_tellWish, Cond.instanceMethod yX1_tellWish, Cond.selects RX1 yX1_tellWish yX1_tellWish, Cond.code yX1_tellWish cX1_tellWish 2 none, Cond.fieldLink RX1 21 "RingHeap$Counting" "wishes" "LRingHeap$Row;", Cond.methodLink RX1 34 yX5_blackenUnlessGreen, Cond.instanceMethod yX5_blackenUnlessGreen, Cond.selects RX5 yX5_blackenUnlessGreen yX5_blackenUnlessGreen, Cond.code yX5_blackenUnlessGreen cX5_blackenUnlessGreen 1 none, Cond.methodLink RX5 44 yX5_isGreen, Cond.methodLink RX1 46 yX3_last, Cond.instanceMethod yX3_last, Cond.selects RX3 yX3_last yX3_last, Cond.code yX3_last cX3_last 1 (some (.object "RingHeap$Thing")), Cond.methodLink RX3 21 yX3_item, Cond.instanceMethod yX3_item, Cond.selects RX3 yX3_item yX3_item, Cond.code yX3_item cX3_item 2 (some (.object "RingHeap$Thing")), Cond.methodLink RX1 50 yX5_giveUpNext, Cond.instanceMethod yX5_giveUpNext, Cond.selects RX5 yX5_giveUpNext yX5_giveUpNext, Cond.code yX5_giveUpNext cX5_giveUpNext 2 (some (.object "RingHeap$Thing")), Cond.fieldLink RX5 48 "RingHeap$Thing" "nextField" "I", Cond.fieldLink RX5 25 "RingHeap$Thing" "held" "[LRingHeap$Thing;"]
def wsX7_loose_r4 : List Cond := [Cond.methodLink RX1 53 yX1_finish, Cond.instanceMethod yX1_finish, Cond.selects RX1 yX1_finish yX1_finish, Cond.code yX1_finish cX1_finish 2 none, Cond.fieldLink RX1 82 "RingHeap$Thing" "husk" "Z", Cond.methodLink RX1 79 yX3_removeLast, Cond.instanceMethod yX3_removeLast, Cond.selects RX3 yX3_removeLast yX3_removeLast, Cond.code yX3_removeLast cX3_removeLast 1 none, Cond.methodLink RX1 85 yX4_free, Cond.instanceMethod yX4_free, Cond.selects RX4 yX4_free yX4_free, Cond.code yX4_free cX4_free 3 none, Cond.fieldLink RX4 27 "RingHeap$Store" "words" "LRingHeap$Words;", Cond.fieldLink RX4 67 "RingHeap$Thing" "number" "I", Cond.fieldLink RX4 60 "RingHeap$Store" "thingsThere" "I", Cond.fieldLink RX4 21 "RingHeap$Store" "weaks" "[LRingHeap$Thing;", Cond.fieldLink RX4 17 "RingHeap$Store" "freedNumbers" "[I", Cond.fieldLink RX4 70 "RingHeap$Store" "freedEver" "I", Cond.methodLink RX4 63 yX6_takeBack, Cond.instanceMethod yX6_takeBack, Cond.selects RX6 yX6_takeBack yX6_takeBack, Cond.initialized RX6, Cond.code yX6_takeBack cX6_takeBack 4 none]
def wsX7_loose_r5 : List Cond := [Cond.fieldLink RX6 25 "RingHeap$Thing" "address" "I", Cond.fieldLink RX6 28 "RingHeap$Thing" "kind" "LRingHeap$Kind;", Cond.fieldLink RX6 32 "RingHeap$Kind" "size" "I", Cond.fieldLink RX6 11 "RingHeap$Words" "owners" "[LRingHeap$Thing;", Cond.fieldLink RX6 17 "RingHeap$Words" "free" "I"]
def wsX7_loose : List Cond := .code yX7_loose cX7_loose 3 (some .int) :: ((wsX7_loose_r1 ++ (wsX7_loose_r2 ++ (wsX7_loose_r3 ++ (wsX7_loose_r4 ++ wsX7_loose_r5)))) ++ wsX70 ++ wsX50 ++ wsX40 ++ wsX10 ++ wsX30 ++ wsX20 ++ wsX60)
def wsX7_set_r1 : List Cond := [Cond.classLink RX7 40 "java/lang/IndexOutOfBoundsException", Cond.initialized "java/lang/IndexOutOfBoundsException", Cond.fieldLink RX7 18 "RingHeap" "store" "LRingHeap$Store;", Cond.fieldLink RX7 97 "RingHeap$Thing" "held" "[LRingHeap$Thing;", Cond.fieldLink RX7 27 "RingHeap" "counting" "LRingHeap$Counting;", Cond.methodLink RX7 70 yX4_living, Cond.instanceMethod yX4_living, Cond.selects RX4 yX4_living yX4_living, Cond.initialized RX4, Cond.code yX4_living cX4_living 3 (some (.object "RingHeap$Thing")), Cond.fieldLink RX4 35 "RingHeap$Thing" "husk" "Z", Cond.methodLink RX4 31 yX4_thing, Cond.instanceMethod yX4_thing, Cond.selects RX4 yX4_thing yX4_thing, Cond.code yX4_thing cX4_thing 2 (some (.object "RingHeap$Thing")), Cond.fieldLink RX4 11 "RingHeap$Store" "things" "[LRingHeap$Thing;", Cond.methodLink RX7 91 yX5_hasField, Cond.instanceMethod yX5_hasField, Cond.selects RX5 yX5_hasField yX5_hasField, Cond.initialized RX5, Cond.code yX5_hasField cX5_hasField 2 (some .boolean), Cond.fieldLink RX5 21 "RingHeap$Thing" "kind" "LRingHeap$Kind;", Cond.fieldLink RX5 29 "RingHeap$Kind" "fields" "I", Cond.fieldLink RX5 25 "RingHeap$Thing" "held" "[LRingHeap$Thing;"]
def wsX7_set_r2 : List Cond := [Cond.methodLink RX7 80 yX1_more, Cond.instanceMethod yX1_more, Cond.selects RX1 yX1_more yX1_more, Cond.initialized RX1, Cond.code yX1_more cX1_more 2 none, Cond.fieldLink RX1 28 "RingHeap$Thing" "count" "I", Cond.methodLink RX1 34 yX5_blackenUnlessGreen, Cond.instanceMethod yX5_blackenUnlessGreen, Cond.selects RX5 yX5_blackenUnlessGreen yX5_blackenUnlessGreen, Cond.code yX5_blackenUnlessGreen cX5_blackenUnlessGreen 1 none, Cond.fieldLink RX5 34 "RingHeap$Thing" "colour" "I", Cond.methodLink RX5 44 yX5_isGreen, Cond.instanceMethod yX5_isGreen, Cond.selects RX5 yX5_isGreen yX5_isGreen, Cond.code yX5_isGreen cX5_isGreen 1 (some .boolean), Cond.methodLink RX7 87 yX1_less, Cond.instanceMethod yX1_less, Cond.selects RX1 yX1_less yX1_less, Cond.code yX1_less cX1_less 6 (some .int), Cond.fieldLink RX1 24 "RingHeap$Counting" "store" "LRingHeap$Store;", Cond.fieldLink RX1 37 "RingHeap$Store" "freedEver" "I", Cond.fieldLink RX1 12 "RingHeap$Counting" "going" "LRingHeap$Row;", Cond.methodLink RX1 42 yX1_lower, Cond.instanceMethod yX1_lower]
def wsX7_set_r3 : List Cond := [Cond.selects RX1 yX1_lower yX1_lower, Cond.code yX1_lower cX1_lower 2 none, Cond.fieldLink RX1 56 "RingHeap$Thing" "wishUntold" "Z", Cond.methodLink RX1 63 yX1_suspect, Cond.instanceMethod yX1_suspect, Cond.selects RX1 yX1_suspect yX1_suspect, Cond.code yX1_suspect cX1_suspect 2 none, Cond.fieldLink RX1 73 "RingHeap$Thing" "colour" "I", Cond.fieldLink RX1 76 "RingHeap$Thing" "inList" "Z", Cond.fieldLink RX1 18 "RingHeap$Counting" "list" "LRingHeap$Row;", Cond.methodLink RX1 69 yX5_isGreen, Cond.methodLink RX1 60 yX3_append, Cond.instanceMethod yX3_append, Cond.selects RX3 yX3_append yX3_append, Cond.initialized RX3, Cond.code yX3_append cX3_append 2 none, Cond.fieldLink RX3 17 "RingHeap$Row" "length" "I", Cond.fieldLink RX3 11 "RingHeap$Row" "things" "[LRingHeap$Thing;", Cond.methodLink RX1 66 yX1_tellWish, Cond.instanceMethod yX1_tellWish, Cond.selects RX1 yX1_tellWish yX1_tellWish, Cond.code yX1_tellWish cX1_tellWish 2 none, Cond.fieldLink RX1 21 "RingHeap$Counting" "wishes" "LRingHeap$Row;", Cond.methodLink RX1 46 yX3_last]
def wsX7_set_r4 : List Cond := [Cond.instanceMethod yX3_last, Cond.selects RX3 yX3_last yX3_last, Cond.code yX3_last cX3_last 1 (some (.object "RingHeap$Thing")), Cond.methodLink RX3 21 yX3_item, Cond.instanceMethod yX3_item, Cond.selects RX3 yX3_item yX3_item, Cond.code yX3_item cX3_item 2 (some (.object "RingHeap$Thing")), Cond.methodLink RX1 50 yX5_giveUpNext, Cond.instanceMethod yX5_giveUpNext, Cond.selects RX5 yX5_giveUpNext yX5_giveUpNext, Cond.code yX5_giveUpNext cX5_giveUpNext 2 (some (.object "RingHeap$Thing")), Cond.fieldLink RX5 48 "RingHeap$Thing" "nextField" "I", Cond.methodLink RX1 53 yX1_finish, Cond.instanceMethod yX1_finish, Cond.selects RX1 yX1_finish yX1_finish, Cond.code yX1_finish cX1_finish 2 none, Cond.fieldLink RX1 82 "RingHeap$Thing" "husk" "Z", Cond.methodLink RX1 79 yX3_removeLast, Cond.instanceMethod yX3_removeLast, Cond.selects RX3 yX3_removeLast yX3_removeLast, Cond.code yX3_removeLast cX3_removeLast 1 none, Cond.methodLink RX1 85 yX4_free, Cond.instanceMethod yX4_free, Cond.selects RX4 yX4_free yX4_free]
def wsX7_set_r5 : List Cond := [Cond.code yX4_free cX4_free 3 none, Cond.fieldLink RX4 27 "RingHeap$Store" "words" "LRingHeap$Words;", Cond.fieldLink RX4 67 "RingHeap$Thing" "number" "I", Cond.fieldLink RX4 60 "RingHeap$Store" "thingsThere" "I", Cond.fieldLink RX4 21 "RingHeap$Store" "weaks" "[LRingHeap$Thing;", Cond.fieldLink RX4 17 "RingHeap$Store" "freedNumbers" "[I", Cond.fieldLink RX4 70 "RingHeap$Store" "freedEver" "I", Cond.methodLink RX4 63 yX6_takeBack, Cond.instanceMethod yX6_takeBack, Cond.selects RX6 yX6_takeBack yX6_takeBack, Cond.initialized RX6, Cond.code yX6_takeBack cX6_takeBack 4 none, Cond.fieldLink RX6 25 "RingHeap$Thing" "address" "I", Cond.fieldLink RX6 28 "RingHeap$Thing" "kind" "LRingHeap$Kind;", Cond.fieldLink RX6 32 "RingHeap$Kind" "size" "I", Cond.fieldLink RX6 11 "RingHeap$Words" "owners" "[LRingHeap$Thing;", Cond.fieldLink RX6 17 "RingHeap$Words" "free" "I"]
def wsX7_set : List Cond := .code yX7_set cX7_set 7 (some .int) :: ((wsX7_set_r1 ++ (wsX7_set_r2 ++ (wsX7_set_r3 ++ (wsX7_set_r4 ++ wsX7_set_r5)))) ++ wsX70 ++ wsX50 ++ wsX40 ++ wsX20 ++ wsX10 ++ wsX30 ++ wsX60 ++ (vx_atS RX7 44 "java/lang/IndexOutOfBoundsException" ["java/lang/RuntimeException", "java/lang/Exception"]).filter goodWord)
def wsX7_numberOf : List Cond := .code yX7_numberOf cX7_numberOf 1 (some .int) :: ([.fieldLink RX7 119 "RingHeap$Thing" "number" "I"] ++ wsX50)
def wsX7_get : List Cond := .code yX7_get cX7_get 4 (some .int) :: ([.classLink RX7 40 "java/lang/IndexOutOfBoundsException", .initialized "java/lang/IndexOutOfBoundsException", .fieldLink RX7 18 "RingHeap" "store" "LRingHeap$Store;", .fieldLink RX7 97 "RingHeap$Thing" "held" "[LRingHeap$Thing;", .methodLink RX7 101 yX4_thing, .instanceMethod yX4_thing, .selects RX4 yX4_thing yX4_thing, .initialized RX4, .code yX4_thing cX4_thing 2 (some (.object "RingHeap$Thing")), .fieldLink RX4 11 "RingHeap$Store" "things" "[LRingHeap$Thing;", .methodLink RX7 91 yX5_hasField, .instanceMethod yX5_hasField, .selects RX5 yX5_hasField yX5_hasField, .initialized RX5, .code yX5_hasField cX5_hasField 2 (some .boolean), .fieldLink RX5 21 "RingHeap$Thing" "kind" "LRingHeap$Kind;", .fieldLink RX5 29 "RingHeap$Kind" "fields" "I", .fieldLink RX5 25 "RingHeap$Thing" "held" "[LRingHeap$Thing;", .methodLink RX7 106 yX7_numberOf, .static yX7_numberOf, .initialized RX7, .code yX7_numberOf cX7_numberOf 1 (some .int), .fieldLink RX7 119 "RingHeap$Thing" "number" "I"] ++ wsX70 ++ wsX50 ++ wsX40 ++ wsX20 ++ (vx_atS RX7 44 "java/lang/IndexOutOfBoundsException" ["java/lang/RuntimeException", "java/lang/Exception"]).filter goodWord)
def wsX7_wish : List Cond := .code yX7_wish cX7_wish 2 (some .int) :: ([.fieldLink RX7 27 "RingHeap" "counting" "LRingHeap$Counting;", .fieldLink RX7 109 "RingHeap$Counting" "wishes" "LRingHeap$Row;", .fieldLink RX7 74 "RingHeap$Thing" "hands" "I", .fieldLink RX7 119 "RingHeap$Thing" "number" "I", .methodLink RX7 113 yX3_takeFirst, .instanceMethod yX3_takeFirst, .selects RX3 yX3_takeFirst yX3_takeFirst, .initialized RX3, .code yX3_takeFirst cX3_takeFirst 3 (some (.object "RingHeap$Thing")), .fieldLink RX3 17 "RingHeap$Row" "length" "I", .fieldLink RX3 11 "RingHeap$Row" "things" "[LRingHeap$Thing;", .methodLink RX3 21 yX3_item, .instanceMethod yX3_item, .selects RX3 yX3_item yX3_item, .code yX3_item cX3_item 2 (some (.object "RingHeap$Thing"))] ++ wsX70 ++ wsX10 ++ wsX50 ++ wsX30)
def wsX7_collect_r1 : List Cond := [Cond.fieldLink RX7 36 "RingHeap" "collector" "LRingHeap$Collector;", Cond.methodLink RX7 59 yX0_run, Cond.instanceMethod yX0_run, Cond.selects RX0 yX0_run yX0_run, Cond.initialized RX0, Cond.code yX0_run cX0_run 2 (some .int), Cond.fieldLink RX0 21 "RingHeap$Collector" "store" "LRingHeap$Store;", Cond.fieldLink RX0 29 "RingHeap$Store" "freedEver" "I", Cond.fieldLink RX0 35 "RingHeap$Collector" "collections" "I", Cond.methodLink RX0 38 yX0_markListed, Cond.instanceMethod yX0_markListed, Cond.selects RX0 yX0_markListed yX0_markListed, Cond.code yX0_markListed cX0_markListed 4 none, Cond.fieldLink RX0 25 "RingHeap$Collector" "counting" "LRingHeap$Counting;", Cond.fieldLink RX0 53 "RingHeap$Counting" "list" "LRingHeap$Row;", Cond.fieldLink RX0 58 "RingHeap$Row" "length" "I", Cond.fieldLink RX0 65 "RingHeap$Thing" "husk" "Z", Cond.fieldLink RX0 71 "RingHeap$Thing" "inList" "Z", Cond.fieldLink RX0 78 "RingHeap$Thing" "colour" "I", Cond.methodLink RX0 61 yX3_item, Cond.instanceMethod yX3_item, Cond.selects RX3 yX3_item yX3_item, Cond.initialized RX3, Cond.code yX3_item cX3_item 2 (some (.object "RingHeap$Thing"))]
def wsX7_collect_r2 : List Cond := [Cond.fieldLink RX3 17 "RingHeap$Row" "length" "I", Cond.fieldLink RX3 11 "RingHeap$Row" "things" "[LRingHeap$Thing;", Cond.methodLink RX0 74 yX4_free, Cond.instanceMethod yX4_free, Cond.selects RX4 yX4_free yX4_free, Cond.initialized RX4, Cond.code yX4_free cX4_free 3 none, Cond.fieldLink RX4 27 "RingHeap$Store" "words" "LRingHeap$Words;", Cond.fieldLink RX4 11 "RingHeap$Store" "things" "[LRingHeap$Thing;", Cond.fieldLink RX4 67 "RingHeap$Thing" "number" "I", Cond.fieldLink RX4 60 "RingHeap$Store" "thingsThere" "I", Cond.fieldLink RX4 21 "RingHeap$Store" "weaks" "[LRingHeap$Thing;", Cond.fieldLink RX4 17 "RingHeap$Store" "freedNumbers" "[I", Cond.fieldLink RX4 70 "RingHeap$Store" "freedEver" "I", Cond.methodLink RX4 63 yX6_takeBack, Cond.instanceMethod yX6_takeBack, Cond.selects RX6 yX6_takeBack yX6_takeBack, Cond.initialized RX6, Cond.code yX6_takeBack cX6_takeBack 4 none, Cond.fieldLink RX6 25 "RingHeap$Thing" "address" "I", Cond.fieldLink RX6 28 "RingHeap$Thing" "kind" "LRingHeap$Kind;", Cond.fieldLink RX6 32 "RingHeap$Kind" "size" "I", Cond.fieldLink RX6 11 "RingHeap$Words" "owners" "[LRingHeap$Thing;", Cond.fieldLink RX6 17 "RingHeap$Words" "free" "I"]
def wsX7_collect_r3 : List Cond := [Cond.methodLink RX0 81 yX0_markFrom, Cond.instanceMethod yX0_markFrom, Cond.selects RX0 yX0_markFrom yX0_markFrom, Cond.code yX0_markFrom cX0_markFrom 8 none, Cond.fieldLink RX0 12 "RingHeap$Collector" "reached" "LRingHeap$Row;", Cond.fieldLink RX0 90 "RingHeap$Thing" "held" "[LRingHeap$Thing;", Cond.fieldLink RX0 98 "RingHeap$Thing" "count" "I", Cond.methodLink RX0 84 yX3_clear, Cond.instanceMethod yX3_clear, Cond.selects RX3 yX3_clear yX3_clear, Cond.code yX3_clear cX3_clear 1 none, Cond.methodLink RX0 87 yX0_turnGray, Cond.instanceMethod yX0_turnGray, Cond.selects RX0 yX0_turnGray yX0_turnGray, Cond.code yX0_turnGray cX0_turnGray 2 none, Cond.fieldLink RX0 101 "RingHeap$Collector" "grayed" "I", Cond.methodLink RX0 94 yX5_isGreen, Cond.instanceMethod yX5_isGreen, Cond.selects RX5 yX5_isGreen yX5_isGreen, Cond.initialized RX5, Cond.code yX5_isGreen cX5_isGreen 1 (some .boolean), Cond.fieldLink RX5 34 "RingHeap$Thing" "colour" "I", Cond.methodLink RX0 104 yX3_append, Cond.instanceMethod yX3_append]
def wsX7_collect_r4 : List Cond := [Cond.selects RX3 yX3_append yX3_append, Cond.code yX3_append cX3_append 2 none, Cond.methodLink RX0 41 yX0_scanListed, Cond.instanceMethod yX0_scanListed, Cond.selects RX0 yX0_scanListed yX0_scanListed, Cond.code yX0_scanListed cX0_scanListed 4 none, Cond.methodLink RX0 107 yX0_scanFrom, Cond.instanceMethod yX0_scanFrom, Cond.selects RX0 yX0_scanFrom yX0_scanFrom, Cond.code yX0_scanFrom cX0_scanFrom 8 none, Cond.methodLink RX0 110 yX0_judge, Cond.instanceMethod yX0_judge, Cond.selects RX0 yX0_judge yX0_judge, Cond.code yX0_judge cX0_judge 2 none, Cond.methodLink RX0 113 yX0_blackenFrom, Cond.instanceMethod yX0_blackenFrom, Cond.selects RX0 yX0_blackenFrom yX0_blackenFrom, Cond.code yX0_blackenFrom cX0_blackenFrom 8 none, Cond.fieldLink RX0 18 "RingHeap$Collector" "darkened" "LRingHeap$Row;", Cond.methodLink RX0 116 yX0_turnBlack, Cond.instanceMethod yX0_turnBlack, Cond.selects RX0 yX0_turnBlack yX0_turnBlack, Cond.code yX0_turnBlack cX0_turnBlack 2 none, Cond.fieldLink RX0 119 "RingHeap$Collector" "blackened" "I"]
def wsX7_collect_r5 : List Cond := [Cond.methodLink RX0 44 yX0_tellWishes, Cond.instanceMethod yX0_tellWishes, Cond.selects RX0 yX0_tellWishes yX0_tellWishes, Cond.code yX0_tellWishes cX0_tellWishes 3 none, Cond.fieldLink RX0 122 "RingHeap$Store" "words" "LRingHeap$Words;", Cond.fieldLink RX0 131 "RingHeap$Thing" "wishUntold" "Z", Cond.methodLink RX0 126 yX6_ownerFrom, Cond.instanceMethod yX6_ownerFrom, Cond.selects RX6 yX6_ownerFrom yX6_ownerFrom, Cond.code yX6_ownerFrom cX6_ownerFrom 3 (some (.object "RingHeap$Thing")), Cond.methodLink RX6 21 yX6_owner, Cond.instanceMethod yX6_owner, Cond.selects RX6 yX6_owner yX6_owner, Cond.code yX6_owner cX6_owner 2 (some (.object "RingHeap$Thing")), Cond.methodLink RX0 134 yX1_tellWish, Cond.instanceMethod yX1_tellWish, Cond.selects RX1 yX1_tellWish yX1_tellWish, Cond.initialized RX1, Cond.code yX1_tellWish cX1_tellWish 2 none, Cond.fieldLink RX1 56 "RingHeap$Thing" "wishUntold" "Z", Cond.fieldLink RX1 28 "RingHeap$Thing" "count" "I", Cond.fieldLink RX1 21 "RingHeap$Counting" "wishes" "LRingHeap$Row;", Cond.methodLink RX1 60 yX3_append, Cond.methodLink RX0 47 yX0_emptyList]
def wsX7_collect_r6 : List Cond := [Cond.instanceMethod yX0_emptyList, Cond.selects RX0 yX0_emptyList yX0_emptyList, Cond.code yX0_emptyList cX0_emptyList 4 none, Cond.methodLink RX0 50 yX0_freeWhite, Cond.instanceMethod yX0_freeWhite, Cond.selects RX0 yX0_freeWhite yX0_freeWhite, Cond.code yX0_freeWhite cX0_freeWhite 7 none, Cond.methodLink RX0 137 yX1_less, Cond.instanceMethod yX1_less, Cond.selects RX1 yX1_less yX1_less, Cond.code yX1_less cX1_less 6 (some .int), Cond.fieldLink RX1 24 "RingHeap$Counting" "store" "LRingHeap$Store;", Cond.fieldLink RX1 37 "RingHeap$Store" "freedEver" "I", Cond.fieldLink RX1 12 "RingHeap$Counting" "going" "LRingHeap$Row;", Cond.methodLink RX1 42 yX1_lower, Cond.instanceMethod yX1_lower, Cond.selects RX1 yX1_lower yX1_lower, Cond.code yX1_lower cX1_lower 2 none, Cond.methodLink RX1 63 yX1_suspect, Cond.instanceMethod yX1_suspect, Cond.selects RX1 yX1_suspect yX1_suspect, Cond.code yX1_suspect cX1_suspect 2 none, Cond.fieldLink RX1 73 "RingHeap$Thing" "colour" "I", Cond.fieldLink RX1 76 "RingHeap$Thing" "inList" "Z"]
def wsX7_collect_r7 : List Cond := [Cond.fieldLink RX1 18 "RingHeap$Counting" "list" "LRingHeap$Row;", Cond.methodLink RX1 69 yX5_isGreen, Cond.methodLink RX1 66 yX1_tellWish, Cond.methodLink RX1 34 yX5_blackenUnlessGreen, Cond.instanceMethod yX5_blackenUnlessGreen, Cond.selects RX5 yX5_blackenUnlessGreen yX5_blackenUnlessGreen, Cond.code yX5_blackenUnlessGreen cX5_blackenUnlessGreen 1 none, Cond.methodLink RX5 44 yX5_isGreen, Cond.methodLink RX1 46 yX3_last, Cond.instanceMethod yX3_last, Cond.selects RX3 yX3_last yX3_last, Cond.code yX3_last cX3_last 1 (some (.object "RingHeap$Thing")), Cond.methodLink RX3 21 yX3_item, Cond.methodLink RX1 50 yX5_giveUpNext, Cond.instanceMethod yX5_giveUpNext, Cond.selects RX5 yX5_giveUpNext yX5_giveUpNext, Cond.code yX5_giveUpNext cX5_giveUpNext 2 (some (.object "RingHeap$Thing")), Cond.fieldLink RX5 48 "RingHeap$Thing" "nextField" "I", Cond.fieldLink RX5 25 "RingHeap$Thing" "held" "[LRingHeap$Thing;", Cond.methodLink RX1 53 yX1_finish, Cond.instanceMethod yX1_finish, Cond.selects RX1 yX1_finish yX1_finish, Cond.code yX1_finish cX1_finish 2 none, Cond.fieldLink RX1 82 "RingHeap$Thing" "husk" "Z"]
def wsX7_collect_r8 : List Cond := [Cond.methodLink RX1 79 yX3_removeLast, Cond.instanceMethod yX3_removeLast, Cond.selects RX3 yX3_removeLast yX3_removeLast, Cond.code yX3_removeLast cX3_removeLast 1 none, Cond.methodLink RX1 85 yX4_free]
def wsX7_collect : List Cond := .code yX7_collect cX7_collect 1 (some .int) :: ((wsX7_collect_r1 ++ (wsX7_collect_r2 ++ (wsX7_collect_r3 ++ (wsX7_collect_r4 ++ (wsX7_collect_r5 ++ (wsX7_collect_r6 ++ (wsX7_collect_r7 ++ wsX7_collect_r8))))))) ++ wsX70 ++ wsX00 ++ wsX40 ++ wsX10 ++ wsX30 ++ wsX50 ++ wsX20 ++ wsX60)
def wsX7_pack_r1 : List Cond := [Cond.fieldLink RX7 122 "RingHeap" "moves" "I", Cond.fieldLink RX7 18 "RingHeap" "store" "LRingHeap$Store;", Cond.fieldLink RX7 125 "RingHeap$Store" "words" "LRingHeap$Words;", Cond.methodLink RX7 129 yX6_moveAllDown, Cond.instanceMethod yX6_moveAllDown, Cond.selects RX6 yX6_moveAllDown yX6_moveAllDown, Cond.initialized RX6, Cond.code yX6_moveAllDown cX6_moveAllDown 5 (some .int), Cond.fieldLink RX6 28 "RingHeap$Thing" "kind" "LRingHeap$Kind;", Cond.fieldLink RX6 32 "RingHeap$Kind" "size" "I", Cond.methodLink RX6 37 yX6_ownerFrom, Cond.instanceMethod yX6_ownerFrom, Cond.selects RX6 yX6_ownerFrom yX6_ownerFrom, Cond.code yX6_ownerFrom cX6_ownerFrom 3 (some (.object "RingHeap$Thing")), Cond.fieldLink RX6 25 "RingHeap$Thing" "address" "I", Cond.methodLink RX6 21 yX6_owner, Cond.instanceMethod yX6_owner, Cond.selects RX6 yX6_owner yX6_owner, Cond.code yX6_owner cX6_owner 2 (some (.object "RingHeap$Thing")), Cond.fieldLink RX6 11 "RingHeap$Words" "owners" "[LRingHeap$Thing;", Cond.methodLink RX6 40 yX6_takeBack, Cond.instanceMethod yX6_takeBack, Cond.selects RX6 yX6_takeBack yX6_takeBack, Cond.code yX6_takeBack cX6_takeBack 4 none]
def wsX7_pack_r2 : List Cond := [Cond.fieldLink RX6 17 "RingHeap$Words" "free" "I", Cond.methodLink RX6 44 yX6_give, Cond.instanceMethod yX6_give, Cond.selects RX6 yX6_give yX6_give, Cond.code yX6_give cX6_give 5 none]
def wsX7_pack : List Cond := .code yX7_pack cX7_pack 1 (some .int) :: ((wsX7_pack_r1 ++ wsX7_pack_r2) ++ wsX70 ++ wsX40 ++ wsX50 ++ wsX20 ++ wsX60)
def wsX7_weak : List Cond := .code yX7_weak cX7_weak 5 (some .int) :: ([.classLink RX7 40 "java/lang/IndexOutOfBoundsException", .initialized "java/lang/IndexOutOfBoundsException", .fieldLink RX7 18 "RingHeap" "store" "LRingHeap$Store;", .fieldLink RX7 136 "RingHeap$Store" "weaks" "[LRingHeap$Thing;", .methodLink RX7 70 yX4_living, .instanceMethod yX4_living, .selects RX4 yX4_living yX4_living, .initialized RX4, .code yX4_living cX4_living 3 (some (.object "RingHeap$Thing")), .fieldLink RX4 35 "RingHeap$Thing" "husk" "Z", .methodLink RX4 31 yX4_thing, .instanceMethod yX4_thing, .selects RX4 yX4_thing yX4_thing, .code yX4_thing cX4_thing 2 (some (.object "RingHeap$Thing")), .fieldLink RX4 11 "RingHeap$Store" "things" "[LRingHeap$Thing;", .methodLink RX7 106 yX7_numberOf, .static yX7_numberOf, .initialized RX7, .code yX7_numberOf cX7_numberOf 1 (some .int), .fieldLink RX7 119 "RingHeap$Thing" "number" "I"] ++ wsX70 ++ wsX40 ++ wsX50 ++ (vx_atS RX7 44 "java/lang/IndexOutOfBoundsException" ["java/lang/RuntimeException", "java/lang/Exception"]).filter goodWord)
def wsX7_seen : List Cond := .code yX7_seen cX7_seen 2 (some .int) :: ([.classLink RX7 40 "java/lang/IndexOutOfBoundsException", .initialized "java/lang/IndexOutOfBoundsException", .fieldLink RX7 18 "RingHeap" "store" "LRingHeap$Store;", .fieldLink RX7 136 "RingHeap$Store" "weaks" "[LRingHeap$Thing;", .methodLink RX7 106 yX7_numberOf, .static yX7_numberOf, .initialized RX7, .code yX7_numberOf cX7_numberOf 1 (some .int), .fieldLink RX7 119 "RingHeap$Thing" "number" "I"] ++ wsX70 ++ wsX40 ++ wsX50 ++ (vx_atS RX7 44 "java/lang/IndexOutOfBoundsException" ["java/lang/RuntimeException", "java/lang/Exception"]).filter goodWord)
def wsX7_object : List Cond := .code yX7_object cX7_object 4 (some .int) :: ([.classLink RX7 40 "java/lang/IndexOutOfBoundsException", .initialized "java/lang/IndexOutOfBoundsException", .fieldLink RX7 18 "RingHeap" "store" "LRingHeap$Store;", .methodLink RX7 101 yX4_thing, .instanceMethod yX4_thing, .selects RX4 yX4_thing yX4_thing, .initialized RX4, .code yX4_thing cX4_thing 2 (some (.object "RingHeap$Thing")), .fieldLink RX4 11 "RingHeap$Store" "things" "[LRingHeap$Thing;", .methodLink RX7 141 yX5_tell, .instanceMethod yX5_tell, .selects RX5 yX5_tell yX5_tell, .initialized RX5, .code yX5_tell cX5_tell 2 (some .int), .fieldLink RX5 21 "RingHeap$Thing" "kind" "LRingHeap$Kind;", .fieldLink RX5 51 "RingHeap$Kind" "number" "I", .fieldLink RX5 9 "RingHeap$Thing" "count" "I", .fieldLink RX5 34 "RingHeap$Thing" "colour" "I", .fieldLink RX5 52 "RingHeap$Thing" "address" "I", .fieldLink RX5 55 "RingHeap$Thing" "inList" "Z", .fieldLink RX5 41 "RingHeap$Thing" "wishUntold" "Z", .fieldLink RX5 15 "RingHeap$Thing" "hands" "I", .fieldLink RX5 58 "RingHeap$Thing" "husk" "Z"] ++ wsX70 ++ wsX40 ++ wsX50 ++ wsX20 ++ (vx_atS RX7 44 "java/lang/IndexOutOfBoundsException" ["java/lang/RuntimeException", "java/lang/Exception"]).filter goodWord)
def wsX7_count : List Cond := .code yX7_count cX7_count 2 (some .int) :: ([.classLink RX7 40 "java/lang/IndexOutOfBoundsException", .initialized "java/lang/IndexOutOfBoundsException", .fieldLink RX7 18 "RingHeap" "store" "LRingHeap$Store;", .fieldLink RX7 145 "RingHeap$Store" "thingsThere" "I", .fieldLink RX7 27 "RingHeap" "counting" "LRingHeap$Counting;", .fieldLink RX7 148 "RingHeap$Counting" "list" "LRingHeap$Row;", .fieldLink RX7 151 "RingHeap$Row" "length" "I", .fieldLink RX7 109 "RingHeap$Counting" "wishes" "LRingHeap$Row;", .fieldLink RX7 125 "RingHeap$Store" "words" "LRingHeap$Words;", .fieldLink RX7 154 "RingHeap$Words" "free" "I", .fieldLink RX7 157 "RingHeap$Store" "freedEver" "I", .fieldLink RX7 36 "RingHeap" "collector" "LRingHeap$Collector;", .fieldLink RX7 160 "RingHeap$Collector" "collections" "I", .fieldLink RX7 122 "RingHeap" "moves" "I", .fieldLink RX7 163 "RingHeap$Collector" "grayed" "I", .fieldLink RX7 166 "RingHeap$Collector" "blackened" "I"] ++ wsX70 ++ wsX40 ++ wsX10 ++ wsX30 ++ wsX60 ++ wsX00 ++ (vx_atS RX7 44 "java/lang/IndexOutOfBoundsException" ["java/lang/RuntimeException", "java/lang/Exception"]).filter goodWord)
def wsX7_listed : List Cond := .code yX7_listed cX7_listed 2 (some .int) :: ([.fieldLink RX7 27 "RingHeap" "counting" "LRingHeap$Counting;", .fieldLink RX7 148 "RingHeap$Counting" "list" "LRingHeap$Row;", .methodLink RX7 169 yX3_item, .instanceMethod yX3_item, .selects RX3 yX3_item yX3_item, .initialized RX3, .code yX3_item cX3_item 2 (some (.object "RingHeap$Thing")), .fieldLink RX3 17 "RingHeap$Row" "length" "I", .fieldLink RX3 11 "RingHeap$Row" "things" "[LRingHeap$Thing;", .methodLink RX7 106 yX7_numberOf, .static yX7_numberOf, .initialized RX7, .code yX7_numberOf cX7_numberOf 1 (some .int), .fieldLink RX7 119 "RingHeap$Thing" "number" "I"] ++ wsX70 ++ wsX10 ++ wsX30 ++ wsX50)
def wsX7_freed : List Cond := .code yX7_freed cX7_freed 2 (some .int) :: ([.fieldLink RX7 18 "RingHeap" "store" "LRingHeap$Store;", .methodLink RX7 172 yX4_freedNumber, .instanceMethod yX4_freedNumber, .selects RX4 yX4_freedNumber yX4_freedNumber, .initialized RX4, .code yX4_freedNumber cX4_freedNumber 2 (some .int), .fieldLink RX4 70 "RingHeap$Store" "freedEver" "I", .fieldLink RX4 17 "RingHeap$Store" "freedNumbers" "[I"] ++ wsX70 ++ wsX40)
def wsX7_at : List Cond := .code yX7_at cX7_at 2 (some .int) :: ([.classLink RX7 40 "java/lang/IndexOutOfBoundsException", .initialized "java/lang/IndexOutOfBoundsException", .fieldLink RX7 18 "RingHeap" "store" "LRingHeap$Store;", .fieldLink RX7 125 "RingHeap$Store" "words" "LRingHeap$Words;", .methodLink RX7 177 yX6_owner, .instanceMethod yX6_owner, .selects RX6 yX6_owner yX6_owner, .initialized RX6, .code yX6_owner cX6_owner 2 (some (.object "RingHeap$Thing")), .fieldLink RX6 11 "RingHeap$Words" "owners" "[LRingHeap$Thing;", .methodLink RX7 106 yX7_numberOf, .static yX7_numberOf, .initialized RX7, .code yX7_numberOf cX7_numberOf 1 (some .int), .fieldLink RX7 119 "RingHeap$Thing" "number" "I"] ++ wsX70 ++ wsX40 ++ wsX60 ++ wsX50 ++ (vx_atS RX7 44 "java/lang/IndexOutOfBoundsException" ["java/lang/RuntimeException", "java/lang/Exception"]).filter goodWord)
def wsX8_thrown : List Cond := .code yX8_thrown cX8_thrown 1 (some .int) :: ([.fieldLink RX8 1 "RingHeapModel" "thrown" "I"] ++ wsX80)
def wsX8_init_r1 : List Cond := [Cond.methodLink RX8 7 objectInit, Cond.instanceMethod objectInit, Cond.code objectInit ⟨#[0xb1]⟩ 1 none, Cond.arrayClass .int, Cond.fieldLink RX8 13 "RingHeapModel" "typeFields" "[I", Cond.fieldLink RX8 17 "RingHeapModel" "typeWords" "[I", Cond.arrayClass .boolean, Cond.fieldLink RX8 20 "RingHeapModel" "typeWish" "[Z", Cond.fieldLink RX8 24 "RingHeapModel" "types" "[I", Cond.fieldLink RX8 27 "RingHeapModel" "counts" "[I", Cond.fieldLink RX8 30 "RingHeapModel" "colours" "[I", Cond.fieldLink RX8 33 "RingHeapModel" "addresses" "[I", Cond.fieldLink RX8 36 "RingHeapModel" "hands" "[I", Cond.fieldLink RX8 39 "RingHeapModel" "listedNow" "[Z", Cond.fieldLink RX8 42 "RingHeapModel" "wishTold" "[Z", Cond.fieldLink RX8 45 "RingHeapModel" "husks" "[Z", Cond.fieldLink RX8 48 "RingHeapModel" "fields" "[I", Cond.fieldLink RX8 51 "RingHeapModel" "owners" "[I", Cond.fieldLink RX8 54 "RingHeapModel" "list" "[I", Cond.fieldLink RX8 57 "RingHeapModel" "wishes" "[I", Cond.fieldLink RX8 60 "RingHeapModel" "weaks" "[I", Cond.fieldLink RX8 63 "RingHeapModel" "freedRow" "[I", Cond.fieldLink RX8 66 "RingHeapModel" "work" "[I", Cond.fieldLink RX8 69 "RingHeapModel" "workFields" "[I"]
def wsX8_init_r2 : List Cond := [Cond.fieldLink RX8 72 "RingHeapModel" "byAddress" "[I", Cond.fieldLink RX8 75 "RingHeapModel" "blackWork" "[I"]
def wsX8_init : List Cond := .code yX8_init cX8_init 2 none :: ((wsX8_init_r1 ++ wsX8_init_r2) ++ wsX80)
def wsX8_isThere : List Cond := .code yX8_isThere cX8_isThere 2 (some .boolean) :: ([.fieldLink RX8 24 "RingHeapModel" "types" "[I"] ++ wsX80)
def wsX8_isWhole : List Cond := .code yX8_isWhole cX8_isWhole 2 (some .boolean) :: ([.fieldLink RX8 45 "RingHeapModel" "husks" "[Z", .methodLink RX8 78 yX8_isThere, .instanceMethod yX8_isThere, .selects RX8 yX8_isThere yX8_isThere, .initialized RX8, .code yX8_isThere cX8_isThere 2 (some .boolean), .fieldLink RX8 24 "RingHeapModel" "types" "[I"] ++ wsX80)
def wsX8_turn : List Cond := .code yX8_turn cX8_turn 3 none :: ([.fieldLink RX8 30 "RingHeapModel" "colours" "[I"] ++ wsX80)
def wsX8_fieldsOf : List Cond := .code yX8_fieldsOf cX8_fieldsOf 2 (some .int) :: ([.fieldLink RX8 13 "RingHeapModel" "typeFields" "[I", .fieldLink RX8 24 "RingHeapModel" "types" "[I"] ++ wsX80)
def wsX8_type : List Cond := .code yX8_type cX8_type 5 (some .boolean) :: ([.fieldLink RX8 1 "RingHeapModel" "thrown" "I", .fieldLink RX8 13 "RingHeapModel" "typeFields" "[I", .fieldLink RX8 17 "RingHeapModel" "typeWords" "[I", .fieldLink RX8 20 "RingHeapModel" "typeWish" "[Z"] ++ wsX80)
def wsX8_free : List Cond := .code yX8_free cX8_free 3 none :: ([.fieldLink RX8 51 "RingHeapModel" "owners" "[I", .fieldLink RX8 60 "RingHeapModel" "weaks" "[I", .fieldLink RX8 24 "RingHeapModel" "types" "[I", .fieldLink RX8 45 "RingHeapModel" "husks" "[Z", .fieldLink RX8 63 "RingHeapModel" "freedRow" "[I", .fieldLink RX8 82 "RingHeapModel" "freedEver" "I"] ++ wsX80)
def wsX8_hasWish : List Cond := .code yX8_hasWish cX8_hasWish 2 (some .boolean) :: ([.fieldLink RX8 20 "RingHeapModel" "typeWish" "[Z", .fieldLink RX8 24 "RingHeapModel" "types" "[I", .fieldLink RX8 42 "RingHeapModel" "wishTold" "[Z"] ++ wsX80)
def wsX8_comesToWishes : List Cond := .code yX8_comesToWishes cX8_comesToWishes 2 none :: ([.fieldLink RX8 42 "RingHeapModel" "wishTold" "[Z", .fieldLink RX8 57 "RingHeapModel" "wishes" "[I", .fieldLink RX8 85 "RingHeapModel" "wishCount" "I"] ++ wsX80)
def wsX8_isLetGo : List Cond := .code yX8_isLetGo cX8_isLetGo 2 (some .boolean) :: ([.fieldLink RX8 27 "RingHeapModel" "counts" "[I", .fieldLink RX8 30 "RingHeapModel" "colours" "[I", .fieldLink RX8 39 "RingHeapModel" "listedNow" "[Z", .fieldLink RX8 54 "RingHeapModel" "list" "[I", .fieldLink RX8 88 "RingHeapModel" "listCount" "I", .methodLink RX8 91 yX8_hasWish, .instanceMethod yX8_hasWish, .selects RX8 yX8_hasWish yX8_hasWish, .initialized RX8, .code yX8_hasWish cX8_hasWish 2 (some .boolean), .fieldLink RX8 20 "RingHeapModel" "typeWish" "[Z", .fieldLink RX8 24 "RingHeapModel" "types" "[I", .fieldLink RX8 42 "RingHeapModel" "wishTold" "[Z", .methodLink RX8 94 yX8_comesToWishes, .instanceMethod yX8_comesToWishes, .selects RX8 yX8_comesToWishes yX8_comesToWishes, .code yX8_comesToWishes cX8_comesToWishes 2 none, .fieldLink RX8 57 "RingHeapModel" "wishes" "[I", .fieldLink RX8 85 "RingHeapModel" "wishCount" "I", .methodLink RX8 98 yX8_turn, .instanceMethod yX8_turn, .selects RX8 yX8_turn yX8_turn, .code yX8_turn cX8_turn 3 none] ++ wsX80)
def wsX8_less_r1 : List Cond := [Cond.fieldLink RX8 105 "RingHeapModel" "workCount" "I", Cond.fieldLink RX8 66 "RingHeapModel" "work" "[I", Cond.fieldLink RX8 69 "RingHeapModel" "workFields" "[I", Cond.fieldLink RX8 48 "RingHeapModel" "fields" "[I", Cond.fieldLink RX8 39 "RingHeapModel" "listedNow" "[Z", Cond.fieldLink RX8 45 "RingHeapModel" "husks" "[Z", Cond.methodLink RX8 102 yX8_isLetGo, Cond.instanceMethod yX8_isLetGo, Cond.selects RX8 yX8_isLetGo yX8_isLetGo, Cond.initialized RX8, Cond.code yX8_isLetGo cX8_isLetGo 2 (some .boolean), Cond.fieldLink RX8 27 "RingHeapModel" "counts" "[I", Cond.fieldLink RX8 30 "RingHeapModel" "colours" "[I", Cond.fieldLink RX8 54 "RingHeapModel" "list" "[I", Cond.fieldLink RX8 88 "RingHeapModel" "listCount" "I", Cond.methodLink RX8 91 yX8_hasWish, Cond.instanceMethod yX8_hasWish, Cond.selects RX8 yX8_hasWish yX8_hasWish, Cond.code yX8_hasWish cX8_hasWish 2 (some .boolean), Cond.fieldLink RX8 20 "RingHeapModel" "typeWish" "[Z", Cond.fieldLink RX8 24 "RingHeapModel" "types" "[I", Cond.fieldLink RX8 42 "RingHeapModel" "wishTold" "[Z", Cond.methodLink RX8 94 yX8_comesToWishes, Cond.instanceMethod yX8_comesToWishes]
def wsX8_less_r2 : List Cond := [Cond.selects RX8 yX8_comesToWishes yX8_comesToWishes, Cond.code yX8_comesToWishes cX8_comesToWishes 2 none, Cond.fieldLink RX8 57 "RingHeapModel" "wishes" "[I", Cond.fieldLink RX8 85 "RingHeapModel" "wishCount" "I", Cond.methodLink RX8 98 yX8_turn, Cond.instanceMethod yX8_turn, Cond.selects RX8 yX8_turn yX8_turn, Cond.code yX8_turn cX8_turn 3 none, Cond.methodLink RX8 108 yX8_fieldsOf, Cond.instanceMethod yX8_fieldsOf, Cond.selects RX8 yX8_fieldsOf yX8_fieldsOf, Cond.code yX8_fieldsOf cX8_fieldsOf 2 (some .int), Cond.fieldLink RX8 13 "RingHeapModel" "typeFields" "[I", Cond.methodLink RX8 112 yX8_free, Cond.instanceMethod yX8_free, Cond.selects RX8 yX8_free yX8_free, Cond.code yX8_free cX8_free 3 none, Cond.fieldLink RX8 51 "RingHeapModel" "owners" "[I", Cond.fieldLink RX8 60 "RingHeapModel" "weaks" "[I", Cond.fieldLink RX8 63 "RingHeapModel" "freedRow" "[I", Cond.fieldLink RX8 82 "RingHeapModel" "freedEver" "I"]
def wsX8_less : List Cond := .code yX8_less cX8_less 6 none :: ((wsX8_less_r1 ++ wsX8_less_r2) ++ wsX80)
def wsX8_more : List Cond := .code yX8_more cX8_more 2 none :: ([.fieldLink RX8 27 "RingHeapModel" "counts" "[I", .methodLink RX8 98 yX8_turn, .instanceMethod yX8_turn, .selects RX8 yX8_turn yX8_turn, .initialized RX8, .code yX8_turn cX8_turn 3 none, .fieldLink RX8 30 "RingHeapModel" "colours" "[I"] ++ wsX80)
def wsX8_grayOne : List Cond := .code yX8_grayOne cX8_grayOne 2 none :: ([.fieldLink RX8 30 "RingHeapModel" "colours" "[I", .fieldLink RX8 118 "RingHeapModel" "grayed" "I", .fieldLink RX8 66 "RingHeapModel" "work" "[I", .fieldLink RX8 105 "RingHeapModel" "workCount" "I"] ++ wsX80)
def wsX8_gray : List Cond := .code yX8_gray cX8_gray 5 none :: ([.fieldLink RX8 105 "RingHeapModel" "workCount" "I", .fieldLink RX8 66 "RingHeapModel" "work" "[I", .fieldLink RX8 48 "RingHeapModel" "fields" "[I", .fieldLink RX8 30 "RingHeapModel" "colours" "[I", .fieldLink RX8 27 "RingHeapModel" "counts" "[I", .methodLink RX8 115 yX8_grayOne, .instanceMethod yX8_grayOne, .selects RX8 yX8_grayOne yX8_grayOne, .initialized RX8, .code yX8_grayOne cX8_grayOne 2 none, .fieldLink RX8 118 "RingHeapModel" "grayed" "I", .methodLink RX8 108 yX8_fieldsOf, .instanceMethod yX8_fieldsOf, .selects RX8 yX8_fieldsOf yX8_fieldsOf, .code yX8_fieldsOf cX8_fieldsOf 2 (some .int), .fieldLink RX8 13 "RingHeapModel" "typeFields" "[I", .fieldLink RX8 24 "RingHeapModel" "types" "[I"] ++ wsX80)
def wsX8_blacken : List Cond := .code yX8_blacken cX8_blacken 6 none :: ([.fieldLink RX8 75 "RingHeapModel" "blackWork" "[I", .fieldLink RX8 121 "RingHeapModel" "blackened" "I", .fieldLink RX8 48 "RingHeapModel" "fields" "[I", .fieldLink RX8 30 "RingHeapModel" "colours" "[I", .fieldLink RX8 27 "RingHeapModel" "counts" "[I", .methodLink RX8 98 yX8_turn, .instanceMethod yX8_turn, .selects RX8 yX8_turn yX8_turn, .initialized RX8, .code yX8_turn cX8_turn 3 none, .methodLink RX8 108 yX8_fieldsOf, .instanceMethod yX8_fieldsOf, .selects RX8 yX8_fieldsOf yX8_fieldsOf, .code yX8_fieldsOf cX8_fieldsOf 2 (some .int), .fieldLink RX8 13 "RingHeapModel" "typeFields" "[I", .fieldLink RX8 24 "RingHeapModel" "types" "[I"] ++ wsX80)
def wsX8_scanOne : List Cond := .code yX8_scanOne cX8_scanOne 2 none :: ([.fieldLink RX8 30 "RingHeapModel" "colours" "[I", .fieldLink RX8 27 "RingHeapModel" "counts" "[I", .fieldLink RX8 66 "RingHeapModel" "work" "[I", .fieldLink RX8 105 "RingHeapModel" "workCount" "I", .methodLink RX8 127 yX8_blacken, .instanceMethod yX8_blacken, .selects RX8 yX8_blacken yX8_blacken, .initialized RX8, .code yX8_blacken cX8_blacken 6 none, .fieldLink RX8 75 "RingHeapModel" "blackWork" "[I", .fieldLink RX8 121 "RingHeapModel" "blackened" "I", .fieldLink RX8 48 "RingHeapModel" "fields" "[I", .methodLink RX8 98 yX8_turn, .instanceMethod yX8_turn, .selects RX8 yX8_turn yX8_turn, .code yX8_turn cX8_turn 3 none, .methodLink RX8 108 yX8_fieldsOf, .instanceMethod yX8_fieldsOf, .selects RX8 yX8_fieldsOf yX8_fieldsOf, .code yX8_fieldsOf cX8_fieldsOf 2 (some .int), .fieldLink RX8 13 "RingHeapModel" "typeFields" "[I", .fieldLink RX8 24 "RingHeapModel" "types" "[I"] ++ wsX80)
def wsX8_scan_r1 : List Cond := [Cond.fieldLink RX8 105 "RingHeapModel" "workCount" "I", Cond.fieldLink RX8 66 "RingHeapModel" "work" "[I", Cond.fieldLink RX8 48 "RingHeapModel" "fields" "[I", Cond.methodLink RX8 124 yX8_scanOne, Cond.instanceMethod yX8_scanOne, Cond.selects RX8 yX8_scanOne yX8_scanOne, Cond.initialized RX8, Cond.code yX8_scanOne cX8_scanOne 2 none, Cond.fieldLink RX8 30 "RingHeapModel" "colours" "[I", Cond.fieldLink RX8 27 "RingHeapModel" "counts" "[I", Cond.methodLink RX8 127 yX8_blacken, Cond.instanceMethod yX8_blacken, Cond.selects RX8 yX8_blacken yX8_blacken, Cond.code yX8_blacken cX8_blacken 6 none, Cond.fieldLink RX8 75 "RingHeapModel" "blackWork" "[I", Cond.fieldLink RX8 121 "RingHeapModel" "blackened" "I", Cond.methodLink RX8 98 yX8_turn, Cond.instanceMethod yX8_turn, Cond.selects RX8 yX8_turn yX8_turn, Cond.code yX8_turn cX8_turn 3 none, Cond.methodLink RX8 108 yX8_fieldsOf, Cond.instanceMethod yX8_fieldsOf, Cond.selects RX8 yX8_fieldsOf yX8_fieldsOf, Cond.code yX8_fieldsOf cX8_fieldsOf 2 (some .int)]
def wsX8_scan_r2 : List Cond := [Cond.fieldLink RX8 13 "RingHeapModel" "typeFields" "[I", Cond.fieldLink RX8 24 "RingHeapModel" "types" "[I"]
def wsX8_scan : List Cond := .code yX8_scan cX8_scan 5 none :: ((wsX8_scan_r1 ++ wsX8_scan_r2) ++ wsX80)
def wsX8_findByAddress : List Cond := .code yX8_findByAddress cX8_findByAddress 3 none :: ([.fieldLink RX8 130 "RingHeapModel" "byAddressCount" "I", .fieldLink RX8 51 "RingHeapModel" "owners" "[I", .fieldLink RX8 33 "RingHeapModel" "addresses" "[I", .fieldLink RX8 72 "RingHeapModel" "byAddress" "[I"] ++ wsX80)
def wsX8_mark_r1 : List Cond := [Cond.fieldLink RX8 88 "RingHeapModel" "listCount" "I", Cond.fieldLink RX8 54 "RingHeapModel" "list" "[I", Cond.fieldLink RX8 45 "RingHeapModel" "husks" "[Z", Cond.fieldLink RX8 39 "RingHeapModel" "listedNow" "[Z", Cond.fieldLink RX8 30 "RingHeapModel" "colours" "[I", Cond.methodLink RX8 112 yX8_free, Cond.instanceMethod yX8_free, Cond.selects RX8 yX8_free yX8_free, Cond.initialized RX8, Cond.code yX8_free cX8_free 3 none, Cond.fieldLink RX8 51 "RingHeapModel" "owners" "[I", Cond.fieldLink RX8 60 "RingHeapModel" "weaks" "[I", Cond.fieldLink RX8 24 "RingHeapModel" "types" "[I", Cond.fieldLink RX8 63 "RingHeapModel" "freedRow" "[I", Cond.fieldLink RX8 82 "RingHeapModel" "freedEver" "I", Cond.methodLink RX8 133 yX8_gray, Cond.instanceMethod yX8_gray, Cond.selects RX8 yX8_gray yX8_gray, Cond.code yX8_gray cX8_gray 5 none, Cond.fieldLink RX8 105 "RingHeapModel" "workCount" "I", Cond.fieldLink RX8 66 "RingHeapModel" "work" "[I", Cond.fieldLink RX8 48 "RingHeapModel" "fields" "[I", Cond.fieldLink RX8 27 "RingHeapModel" "counts" "[I", Cond.methodLink RX8 115 yX8_grayOne]
def wsX8_mark_r2 : List Cond := [Cond.instanceMethod yX8_grayOne, Cond.selects RX8 yX8_grayOne yX8_grayOne, Cond.code yX8_grayOne cX8_grayOne 2 none, Cond.fieldLink RX8 118 "RingHeapModel" "grayed" "I", Cond.methodLink RX8 108 yX8_fieldsOf, Cond.instanceMethod yX8_fieldsOf, Cond.selects RX8 yX8_fieldsOf yX8_fieldsOf, Cond.code yX8_fieldsOf cX8_fieldsOf 2 (some .int), Cond.fieldLink RX8 13 "RingHeapModel" "typeFields" "[I"]
def wsX8_mark : List Cond := .code yX8_mark cX8_mark 4 none :: ((wsX8_mark_r1 ++ wsX8_mark_r2) ++ wsX80)
def wsX8_gather_r1 : List Cond := [Cond.fieldLink RX8 88 "RingHeapModel" "listCount" "I", Cond.fieldLink RX8 39 "RingHeapModel" "listedNow" "[Z", Cond.fieldLink RX8 54 "RingHeapModel" "list" "[I", Cond.fieldLink RX8 130 "RingHeapModel" "byAddressCount" "I", Cond.fieldLink RX8 72 "RingHeapModel" "byAddress" "[I", Cond.fieldLink RX8 30 "RingHeapModel" "colours" "[I", Cond.fieldLink RX8 48 "RingHeapModel" "fields" "[I", Cond.methodLink RX8 78 yX8_isThere, Cond.instanceMethod yX8_isThere, Cond.selects RX8 yX8_isThere yX8_isThere, Cond.initialized RX8, Cond.code yX8_isThere cX8_isThere 2 (some .boolean), Cond.fieldLink RX8 24 "RingHeapModel" "types" "[I", Cond.methodLink RX8 108 yX8_fieldsOf, Cond.instanceMethod yX8_fieldsOf, Cond.selects RX8 yX8_fieldsOf yX8_fieldsOf, Cond.code yX8_fieldsOf cX8_fieldsOf 2 (some .int), Cond.fieldLink RX8 13 "RingHeapModel" "typeFields" "[I", Cond.methodLink RX8 136 yX8_less, Cond.instanceMethod yX8_less, Cond.selects RX8 yX8_less yX8_less, Cond.code yX8_less cX8_less 6 none, Cond.fieldLink RX8 105 "RingHeapModel" "workCount" "I", Cond.fieldLink RX8 66 "RingHeapModel" "work" "[I"]
def wsX8_gather_r2 : List Cond := [Cond.fieldLink RX8 69 "RingHeapModel" "workFields" "[I", Cond.fieldLink RX8 45 "RingHeapModel" "husks" "[Z", Cond.methodLink RX8 102 yX8_isLetGo, Cond.instanceMethod yX8_isLetGo, Cond.selects RX8 yX8_isLetGo yX8_isLetGo, Cond.code yX8_isLetGo cX8_isLetGo 2 (some .boolean), Cond.fieldLink RX8 27 "RingHeapModel" "counts" "[I", Cond.methodLink RX8 91 yX8_hasWish, Cond.instanceMethod yX8_hasWish, Cond.selects RX8 yX8_hasWish yX8_hasWish, Cond.code yX8_hasWish cX8_hasWish 2 (some .boolean), Cond.fieldLink RX8 20 "RingHeapModel" "typeWish" "[Z", Cond.fieldLink RX8 42 "RingHeapModel" "wishTold" "[Z", Cond.methodLink RX8 94 yX8_comesToWishes, Cond.instanceMethod yX8_comesToWishes, Cond.selects RX8 yX8_comesToWishes yX8_comesToWishes, Cond.code yX8_comesToWishes cX8_comesToWishes 2 none, Cond.fieldLink RX8 57 "RingHeapModel" "wishes" "[I", Cond.fieldLink RX8 85 "RingHeapModel" "wishCount" "I", Cond.methodLink RX8 98 yX8_turn, Cond.instanceMethod yX8_turn, Cond.selects RX8 yX8_turn yX8_turn, Cond.code yX8_turn cX8_turn 3 none, Cond.methodLink RX8 112 yX8_free]
def wsX8_gather_r3 : List Cond := [Cond.instanceMethod yX8_free, Cond.selects RX8 yX8_free yX8_free, Cond.code yX8_free cX8_free 3 none, Cond.fieldLink RX8 51 "RingHeapModel" "owners" "[I", Cond.fieldLink RX8 60 "RingHeapModel" "weaks" "[I", Cond.fieldLink RX8 63 "RingHeapModel" "freedRow" "[I", Cond.fieldLink RX8 82 "RingHeapModel" "freedEver" "I"]
def wsX8_gather : List Cond := .code yX8_gather cX8_gather 5 none :: ((wsX8_gather_r1 ++ (wsX8_gather_r2 ++ wsX8_gather_r3)) ++ wsX80)
def wsX8_collect_r1 : List Cond := [Cond.fieldLink RX8 1 "RingHeapModel" "thrown" "I", Cond.fieldLink RX8 82 "RingHeapModel" "freedEver" "I", Cond.fieldLink RX8 139 "RingHeapModel" "collections" "I", Cond.fieldLink RX8 88 "RingHeapModel" "listCount" "I", Cond.fieldLink RX8 54 "RingHeapModel" "list" "[I", Cond.fieldLink RX8 130 "RingHeapModel" "byAddressCount" "I", Cond.fieldLink RX8 72 "RingHeapModel" "byAddress" "[I", Cond.fieldLink RX8 30 "RingHeapModel" "colours" "[I", Cond.fieldLink RX8 27 "RingHeapModel" "counts" "[I", Cond.methodLink RX8 142 yX8_mark, Cond.instanceMethod yX8_mark, Cond.selects RX8 yX8_mark yX8_mark, Cond.initialized RX8, Cond.code yX8_mark cX8_mark 4 none, Cond.fieldLink RX8 45 "RingHeapModel" "husks" "[Z", Cond.fieldLink RX8 39 "RingHeapModel" "listedNow" "[Z", Cond.methodLink RX8 112 yX8_free, Cond.instanceMethod yX8_free, Cond.selects RX8 yX8_free yX8_free, Cond.code yX8_free cX8_free 3 none, Cond.fieldLink RX8 51 "RingHeapModel" "owners" "[I", Cond.fieldLink RX8 60 "RingHeapModel" "weaks" "[I", Cond.fieldLink RX8 24 "RingHeapModel" "types" "[I", Cond.fieldLink RX8 63 "RingHeapModel" "freedRow" "[I"]
def wsX8_collect_r2 : List Cond := [Cond.methodLink RX8 133 yX8_gray, Cond.instanceMethod yX8_gray, Cond.selects RX8 yX8_gray yX8_gray, Cond.code yX8_gray cX8_gray 5 none, Cond.fieldLink RX8 105 "RingHeapModel" "workCount" "I", Cond.fieldLink RX8 66 "RingHeapModel" "work" "[I", Cond.fieldLink RX8 48 "RingHeapModel" "fields" "[I", Cond.methodLink RX8 115 yX8_grayOne, Cond.instanceMethod yX8_grayOne, Cond.selects RX8 yX8_grayOne yX8_grayOne, Cond.code yX8_grayOne cX8_grayOne 2 none, Cond.fieldLink RX8 118 "RingHeapModel" "grayed" "I", Cond.methodLink RX8 108 yX8_fieldsOf, Cond.instanceMethod yX8_fieldsOf, Cond.selects RX8 yX8_fieldsOf yX8_fieldsOf, Cond.code yX8_fieldsOf cX8_fieldsOf 2 (some .int), Cond.fieldLink RX8 13 "RingHeapModel" "typeFields" "[I", Cond.methodLink RX8 145 yX8_scan, Cond.instanceMethod yX8_scan, Cond.selects RX8 yX8_scan yX8_scan, Cond.code yX8_scan cX8_scan 5 none, Cond.methodLink RX8 124 yX8_scanOne, Cond.instanceMethod yX8_scanOne, Cond.selects RX8 yX8_scanOne yX8_scanOne]
def wsX8_collect_r3 : List Cond := [Cond.code yX8_scanOne cX8_scanOne 2 none, Cond.methodLink RX8 127 yX8_blacken, Cond.instanceMethod yX8_blacken, Cond.selects RX8 yX8_blacken yX8_blacken, Cond.code yX8_blacken cX8_blacken 6 none, Cond.fieldLink RX8 75 "RingHeapModel" "blackWork" "[I", Cond.fieldLink RX8 121 "RingHeapModel" "blackened" "I", Cond.methodLink RX8 98 yX8_turn, Cond.instanceMethod yX8_turn, Cond.selects RX8 yX8_turn yX8_turn, Cond.code yX8_turn cX8_turn 3 none, Cond.methodLink RX8 148 yX8_findByAddress, Cond.instanceMethod yX8_findByAddress, Cond.selects RX8 yX8_findByAddress yX8_findByAddress, Cond.code yX8_findByAddress cX8_findByAddress 3 none, Cond.fieldLink RX8 33 "RingHeapModel" "addresses" "[I", Cond.methodLink RX8 91 yX8_hasWish, Cond.instanceMethod yX8_hasWish, Cond.selects RX8 yX8_hasWish yX8_hasWish, Cond.code yX8_hasWish cX8_hasWish 2 (some .boolean), Cond.fieldLink RX8 20 "RingHeapModel" "typeWish" "[Z", Cond.fieldLink RX8 42 "RingHeapModel" "wishTold" "[Z", Cond.methodLink RX8 94 yX8_comesToWishes, Cond.instanceMethod yX8_comesToWishes]
def wsX8_collect_r4 : List Cond := [Cond.selects RX8 yX8_comesToWishes yX8_comesToWishes, Cond.code yX8_comesToWishes cX8_comesToWishes 2 none, Cond.fieldLink RX8 57 "RingHeapModel" "wishes" "[I", Cond.fieldLink RX8 85 "RingHeapModel" "wishCount" "I", Cond.methodLink RX8 151 yX8_gather, Cond.instanceMethod yX8_gather, Cond.selects RX8 yX8_gather yX8_gather, Cond.code yX8_gather cX8_gather 5 none, Cond.methodLink RX8 78 yX8_isThere, Cond.instanceMethod yX8_isThere, Cond.selects RX8 yX8_isThere yX8_isThere, Cond.code yX8_isThere cX8_isThere 2 (some .boolean), Cond.methodLink RX8 136 yX8_less, Cond.instanceMethod yX8_less, Cond.selects RX8 yX8_less yX8_less, Cond.code yX8_less cX8_less 6 none, Cond.fieldLink RX8 69 "RingHeapModel" "workFields" "[I", Cond.methodLink RX8 102 yX8_isLetGo, Cond.instanceMethod yX8_isLetGo, Cond.selects RX8 yX8_isLetGo yX8_isLetGo, Cond.code yX8_isLetGo cX8_isLetGo 2 (some .boolean)]
def wsX8_collect : List Cond := .code yX8_collect cX8_collect 4 (some .int) :: ((wsX8_collect_r1 ++ (wsX8_collect_r2 ++ (wsX8_collect_r3 ++ wsX8_collect_r4))) ++ wsX80)
def wsX8_place : List Cond := .code yX8_place cX8_place 4 (some .int) :: ([.fieldLink RX8 51 "RingHeapModel" "owners" "[I"] ++ wsX80)
def wsX8_number : List Cond := .code yX8_number cX8_number 2 (some .int) :: ([.fieldLink RX8 24 "RingHeapModel" "types" "[I"] ++ wsX80)
def wsX8_freeWords : List Cond := .code yX8_freeWords cX8_freeWords 3 (some .int) :: ([.fieldLink RX8 51 "RingHeapModel" "owners" "[I"] ++ wsX80)
def wsX8_pack : List Cond := .code yX8_pack cX8_pack 6 (some .int) :: ([.fieldLink RX8 1 "RingHeapModel" "thrown" "I", .fieldLink RX8 154 "RingHeapModel" "moves" "I", .fieldLink RX8 51 "RingHeapModel" "owners" "[I", .fieldLink RX8 130 "RingHeapModel" "byAddressCount" "I", .fieldLink RX8 72 "RingHeapModel" "byAddress" "[I", .fieldLink RX8 33 "RingHeapModel" "addresses" "[I", .fieldLink RX8 17 "RingHeapModel" "typeWords" "[I", .fieldLink RX8 24 "RingHeapModel" "types" "[I", .methodLink RX8 148 yX8_findByAddress, .instanceMethod yX8_findByAddress, .selects RX8 yX8_findByAddress yX8_findByAddress, .initialized RX8, .code yX8_findByAddress cX8_findByAddress 3 none] ++ wsX80)
def wsX8_make_r1 : List Cond := [Cond.fieldLink RX8 13 "RingHeapModel" "typeFields" "[I", Cond.fieldLink RX8 1 "RingHeapModel" "thrown" "I", Cond.fieldLink RX8 17 "RingHeapModel" "typeWords" "[I", Cond.fieldLink RX8 24 "RingHeapModel" "types" "[I", Cond.fieldLink RX8 27 "RingHeapModel" "counts" "[I", Cond.fieldLink RX8 36 "RingHeapModel" "hands" "[I", Cond.fieldLink RX8 30 "RingHeapModel" "colours" "[I", Cond.fieldLink RX8 33 "RingHeapModel" "addresses" "[I", Cond.fieldLink RX8 39 "RingHeapModel" "listedNow" "[Z", Cond.fieldLink RX8 42 "RingHeapModel" "wishTold" "[Z", Cond.fieldLink RX8 45 "RingHeapModel" "husks" "[Z", Cond.fieldLink RX8 48 "RingHeapModel" "fields" "[I", Cond.fieldLink RX8 51 "RingHeapModel" "owners" "[I", Cond.methodLink RX8 157 yX8_place, Cond.instanceMethod yX8_place, Cond.selects RX8 yX8_place yX8_place, Cond.initialized RX8, Cond.code yX8_place cX8_place 4 (some .int), Cond.methodLink RX8 160 yX8_number, Cond.instanceMethod yX8_number, Cond.selects RX8 yX8_number yX8_number, Cond.code yX8_number cX8_number 2 (some .int), Cond.methodLink RX8 164 yX8_collect, Cond.instanceMethod yX8_collect]
def wsX8_make_r2 : List Cond := [Cond.selects RX8 yX8_collect yX8_collect, Cond.code yX8_collect cX8_collect 4 (some .int), Cond.fieldLink RX8 82 "RingHeapModel" "freedEver" "I", Cond.fieldLink RX8 139 "RingHeapModel" "collections" "I", Cond.fieldLink RX8 88 "RingHeapModel" "listCount" "I", Cond.fieldLink RX8 54 "RingHeapModel" "list" "[I", Cond.fieldLink RX8 130 "RingHeapModel" "byAddressCount" "I", Cond.fieldLink RX8 72 "RingHeapModel" "byAddress" "[I", Cond.methodLink RX8 142 yX8_mark, Cond.instanceMethod yX8_mark, Cond.selects RX8 yX8_mark yX8_mark, Cond.code yX8_mark cX8_mark 4 none, Cond.methodLink RX8 112 yX8_free, Cond.instanceMethod yX8_free, Cond.selects RX8 yX8_free yX8_free, Cond.code yX8_free cX8_free 3 none, Cond.fieldLink RX8 60 "RingHeapModel" "weaks" "[I", Cond.fieldLink RX8 63 "RingHeapModel" "freedRow" "[I", Cond.methodLink RX8 133 yX8_gray, Cond.instanceMethod yX8_gray, Cond.selects RX8 yX8_gray yX8_gray, Cond.code yX8_gray cX8_gray 5 none, Cond.fieldLink RX8 105 "RingHeapModel" "workCount" "I", Cond.fieldLink RX8 66 "RingHeapModel" "work" "[I"]
def wsX8_make_r3 : List Cond := [Cond.methodLink RX8 115 yX8_grayOne, Cond.instanceMethod yX8_grayOne, Cond.selects RX8 yX8_grayOne yX8_grayOne, Cond.code yX8_grayOne cX8_grayOne 2 none, Cond.fieldLink RX8 118 "RingHeapModel" "grayed" "I", Cond.methodLink RX8 108 yX8_fieldsOf, Cond.instanceMethod yX8_fieldsOf, Cond.selects RX8 yX8_fieldsOf yX8_fieldsOf, Cond.code yX8_fieldsOf cX8_fieldsOf 2 (some .int), Cond.methodLink RX8 145 yX8_scan, Cond.instanceMethod yX8_scan, Cond.selects RX8 yX8_scan yX8_scan, Cond.code yX8_scan cX8_scan 5 none, Cond.methodLink RX8 124 yX8_scanOne, Cond.instanceMethod yX8_scanOne, Cond.selects RX8 yX8_scanOne yX8_scanOne, Cond.code yX8_scanOne cX8_scanOne 2 none, Cond.methodLink RX8 127 yX8_blacken, Cond.instanceMethod yX8_blacken, Cond.selects RX8 yX8_blacken yX8_blacken, Cond.code yX8_blacken cX8_blacken 6 none, Cond.fieldLink RX8 75 "RingHeapModel" "blackWork" "[I", Cond.fieldLink RX8 121 "RingHeapModel" "blackened" "I", Cond.methodLink RX8 98 yX8_turn]
def wsX8_make_r4 : List Cond := [Cond.instanceMethod yX8_turn, Cond.selects RX8 yX8_turn yX8_turn, Cond.code yX8_turn cX8_turn 3 none, Cond.methodLink RX8 148 yX8_findByAddress, Cond.instanceMethod yX8_findByAddress, Cond.selects RX8 yX8_findByAddress yX8_findByAddress, Cond.code yX8_findByAddress cX8_findByAddress 3 none, Cond.methodLink RX8 91 yX8_hasWish, Cond.instanceMethod yX8_hasWish, Cond.selects RX8 yX8_hasWish yX8_hasWish, Cond.code yX8_hasWish cX8_hasWish 2 (some .boolean), Cond.fieldLink RX8 20 "RingHeapModel" "typeWish" "[Z", Cond.methodLink RX8 94 yX8_comesToWishes, Cond.instanceMethod yX8_comesToWishes, Cond.selects RX8 yX8_comesToWishes yX8_comesToWishes, Cond.code yX8_comesToWishes cX8_comesToWishes 2 none, Cond.fieldLink RX8 57 "RingHeapModel" "wishes" "[I", Cond.fieldLink RX8 85 "RingHeapModel" "wishCount" "I", Cond.methodLink RX8 151 yX8_gather, Cond.instanceMethod yX8_gather, Cond.selects RX8 yX8_gather yX8_gather, Cond.code yX8_gather cX8_gather 5 none, Cond.methodLink RX8 78 yX8_isThere, Cond.instanceMethod yX8_isThere]
def wsX8_make_r5 : List Cond := [Cond.selects RX8 yX8_isThere yX8_isThere, Cond.code yX8_isThere cX8_isThere 2 (some .boolean), Cond.methodLink RX8 136 yX8_less, Cond.instanceMethod yX8_less, Cond.selects RX8 yX8_less yX8_less, Cond.code yX8_less cX8_less 6 none, Cond.fieldLink RX8 69 "RingHeapModel" "workFields" "[I", Cond.methodLink RX8 102 yX8_isLetGo, Cond.instanceMethod yX8_isLetGo, Cond.selects RX8 yX8_isLetGo yX8_isLetGo, Cond.code yX8_isLetGo cX8_isLetGo 2 (some .boolean), Cond.methodLink RX8 167 yX8_freeWords, Cond.instanceMethod yX8_freeWords, Cond.selects RX8 yX8_freeWords yX8_freeWords, Cond.code yX8_freeWords cX8_freeWords 3 (some .int), Cond.methodLink RX8 170 yX8_pack, Cond.instanceMethod yX8_pack, Cond.selects RX8 yX8_pack yX8_pack, Cond.code yX8_pack cX8_pack 6 (some .int), Cond.fieldLink RX8 154 "RingHeapModel" "moves" "I"]
def wsX8_make : List Cond := .code yX8_make cX8_make 6 (some .int) :: ((wsX8_make_r1 ++ (wsX8_make_r2 ++ (wsX8_make_r3 ++ (wsX8_make_r4 ++ wsX8_make_r5)))) ++ wsX80)
def wsX8_hold : List Cond := .code yX8_hold cX8_hold 2 (some .int) :: ([.fieldLink RX8 1 "RingHeapModel" "thrown" "I", .fieldLink RX8 36 "RingHeapModel" "hands" "[I", .fieldLink RX8 27 "RingHeapModel" "counts" "[I", .methodLink RX8 173 yX8_isWhole, .instanceMethod yX8_isWhole, .selects RX8 yX8_isWhole yX8_isWhole, .initialized RX8, .code yX8_isWhole cX8_isWhole 2 (some .boolean), .fieldLink RX8 45 "RingHeapModel" "husks" "[Z", .methodLink RX8 78 yX8_isThere, .instanceMethod yX8_isThere, .selects RX8 yX8_isThere yX8_isThere, .code yX8_isThere cX8_isThere 2 (some .boolean), .fieldLink RX8 24 "RingHeapModel" "types" "[I", .methodLink RX8 176 yX8_more, .instanceMethod yX8_more, .selects RX8 yX8_more yX8_more, .code yX8_more cX8_more 2 none, .methodLink RX8 98 yX8_turn, .instanceMethod yX8_turn, .selects RX8 yX8_turn yX8_turn, .code yX8_turn cX8_turn 3 none, .fieldLink RX8 30 "RingHeapModel" "colours" "[I"] ++ wsX80)
def wsX8_loose_r1 : List Cond := [Cond.fieldLink RX8 1 "RingHeapModel" "thrown" "I", Cond.fieldLink RX8 36 "RingHeapModel" "hands" "[I", Cond.fieldLink RX8 82 "RingHeapModel" "freedEver" "I", Cond.methodLink RX8 173 yX8_isWhole, Cond.instanceMethod yX8_isWhole, Cond.selects RX8 yX8_isWhole yX8_isWhole, Cond.initialized RX8, Cond.code yX8_isWhole cX8_isWhole 2 (some .boolean), Cond.fieldLink RX8 45 "RingHeapModel" "husks" "[Z", Cond.methodLink RX8 78 yX8_isThere, Cond.instanceMethod yX8_isThere, Cond.selects RX8 yX8_isThere yX8_isThere, Cond.code yX8_isThere cX8_isThere 2 (some .boolean), Cond.fieldLink RX8 24 "RingHeapModel" "types" "[I", Cond.methodLink RX8 136 yX8_less, Cond.instanceMethod yX8_less, Cond.selects RX8 yX8_less yX8_less, Cond.code yX8_less cX8_less 6 none, Cond.fieldLink RX8 105 "RingHeapModel" "workCount" "I", Cond.fieldLink RX8 66 "RingHeapModel" "work" "[I", Cond.fieldLink RX8 69 "RingHeapModel" "workFields" "[I", Cond.fieldLink RX8 48 "RingHeapModel" "fields" "[I", Cond.fieldLink RX8 39 "RingHeapModel" "listedNow" "[Z", Cond.methodLink RX8 102 yX8_isLetGo]
def wsX8_loose_r2 : List Cond := [Cond.instanceMethod yX8_isLetGo, Cond.selects RX8 yX8_isLetGo yX8_isLetGo, Cond.code yX8_isLetGo cX8_isLetGo 2 (some .boolean), Cond.fieldLink RX8 27 "RingHeapModel" "counts" "[I", Cond.fieldLink RX8 30 "RingHeapModel" "colours" "[I", Cond.fieldLink RX8 54 "RingHeapModel" "list" "[I", Cond.fieldLink RX8 88 "RingHeapModel" "listCount" "I", Cond.methodLink RX8 91 yX8_hasWish, Cond.instanceMethod yX8_hasWish, Cond.selects RX8 yX8_hasWish yX8_hasWish, Cond.code yX8_hasWish cX8_hasWish 2 (some .boolean), Cond.fieldLink RX8 20 "RingHeapModel" "typeWish" "[Z", Cond.fieldLink RX8 42 "RingHeapModel" "wishTold" "[Z", Cond.methodLink RX8 94 yX8_comesToWishes, Cond.instanceMethod yX8_comesToWishes, Cond.selects RX8 yX8_comesToWishes yX8_comesToWishes, Cond.code yX8_comesToWishes cX8_comesToWishes 2 none, Cond.fieldLink RX8 57 "RingHeapModel" "wishes" "[I", Cond.fieldLink RX8 85 "RingHeapModel" "wishCount" "I", Cond.methodLink RX8 98 yX8_turn, Cond.instanceMethod yX8_turn, Cond.selects RX8 yX8_turn yX8_turn, Cond.code yX8_turn cX8_turn 3 none, Cond.methodLink RX8 108 yX8_fieldsOf]
def wsX8_loose_r3 : List Cond := [Cond.instanceMethod yX8_fieldsOf, Cond.selects RX8 yX8_fieldsOf yX8_fieldsOf, Cond.code yX8_fieldsOf cX8_fieldsOf 2 (some .int), Cond.fieldLink RX8 13 "RingHeapModel" "typeFields" "[I", Cond.methodLink RX8 112 yX8_free, Cond.instanceMethod yX8_free, Cond.selects RX8 yX8_free yX8_free, Cond.code yX8_free cX8_free 3 none, Cond.fieldLink RX8 51 "RingHeapModel" "owners" "[I", Cond.fieldLink RX8 60 "RingHeapModel" "weaks" "[I", Cond.fieldLink RX8 63 "RingHeapModel" "freedRow" "[I"]
def wsX8_loose : List Cond := .code yX8_loose cX8_loose 3 (some .int) :: ((wsX8_loose_r1 ++ (wsX8_loose_r2 ++ wsX8_loose_r3)) ++ wsX80)
def wsX8_set_r1 : List Cond := [Cond.fieldLink RX8 1 "RingHeapModel" "thrown" "I", Cond.fieldLink RX8 82 "RingHeapModel" "freedEver" "I", Cond.fieldLink RX8 48 "RingHeapModel" "fields" "[I", Cond.methodLink RX8 173 yX8_isWhole, Cond.instanceMethod yX8_isWhole, Cond.selects RX8 yX8_isWhole yX8_isWhole, Cond.initialized RX8, Cond.code yX8_isWhole cX8_isWhole 2 (some .boolean), Cond.fieldLink RX8 45 "RingHeapModel" "husks" "[Z", Cond.methodLink RX8 78 yX8_isThere, Cond.instanceMethod yX8_isThere, Cond.selects RX8 yX8_isThere yX8_isThere, Cond.code yX8_isThere cX8_isThere 2 (some .boolean), Cond.fieldLink RX8 24 "RingHeapModel" "types" "[I", Cond.methodLink RX8 108 yX8_fieldsOf, Cond.instanceMethod yX8_fieldsOf, Cond.selects RX8 yX8_fieldsOf yX8_fieldsOf, Cond.code yX8_fieldsOf cX8_fieldsOf 2 (some .int), Cond.fieldLink RX8 13 "RingHeapModel" "typeFields" "[I", Cond.methodLink RX8 176 yX8_more, Cond.instanceMethod yX8_more, Cond.selects RX8 yX8_more yX8_more, Cond.code yX8_more cX8_more 2 none, Cond.fieldLink RX8 27 "RingHeapModel" "counts" "[I"]
def wsX8_set_r2 : List Cond := [Cond.methodLink RX8 98 yX8_turn, Cond.instanceMethod yX8_turn, Cond.selects RX8 yX8_turn yX8_turn, Cond.code yX8_turn cX8_turn 3 none, Cond.fieldLink RX8 30 "RingHeapModel" "colours" "[I", Cond.methodLink RX8 136 yX8_less, Cond.instanceMethod yX8_less, Cond.selects RX8 yX8_less yX8_less, Cond.code yX8_less cX8_less 6 none, Cond.fieldLink RX8 105 "RingHeapModel" "workCount" "I", Cond.fieldLink RX8 66 "RingHeapModel" "work" "[I", Cond.fieldLink RX8 69 "RingHeapModel" "workFields" "[I", Cond.fieldLink RX8 39 "RingHeapModel" "listedNow" "[Z", Cond.methodLink RX8 102 yX8_isLetGo, Cond.instanceMethod yX8_isLetGo, Cond.selects RX8 yX8_isLetGo yX8_isLetGo, Cond.code yX8_isLetGo cX8_isLetGo 2 (some .boolean), Cond.fieldLink RX8 54 "RingHeapModel" "list" "[I", Cond.fieldLink RX8 88 "RingHeapModel" "listCount" "I", Cond.methodLink RX8 91 yX8_hasWish, Cond.instanceMethod yX8_hasWish, Cond.selects RX8 yX8_hasWish yX8_hasWish, Cond.code yX8_hasWish cX8_hasWish 2 (some .boolean), Cond.fieldLink RX8 20 "RingHeapModel" "typeWish" "[Z"]
def wsX8_set_r3 : List Cond := [Cond.fieldLink RX8 42 "RingHeapModel" "wishTold" "[Z", Cond.methodLink RX8 94 yX8_comesToWishes, Cond.instanceMethod yX8_comesToWishes, Cond.selects RX8 yX8_comesToWishes yX8_comesToWishes, Cond.code yX8_comesToWishes cX8_comesToWishes 2 none, Cond.fieldLink RX8 57 "RingHeapModel" "wishes" "[I", Cond.fieldLink RX8 85 "RingHeapModel" "wishCount" "I", Cond.methodLink RX8 112 yX8_free, Cond.instanceMethod yX8_free, Cond.selects RX8 yX8_free yX8_free, Cond.code yX8_free cX8_free 3 none, Cond.fieldLink RX8 51 "RingHeapModel" "owners" "[I", Cond.fieldLink RX8 60 "RingHeapModel" "weaks" "[I", Cond.fieldLink RX8 63 "RingHeapModel" "freedRow" "[I"]
def wsX8_set : List Cond := .code yX8_set cX8_set 6 (some .int) :: ((wsX8_set_r1 ++ (wsX8_set_r2 ++ wsX8_set_r3)) ++ wsX80)
def wsX8_get : List Cond := .code yX8_get cX8_get 3 (some .int) :: ([.fieldLink RX8 1 "RingHeapModel" "thrown" "I", .fieldLink RX8 48 "RingHeapModel" "fields" "[I", .methodLink RX8 78 yX8_isThere, .instanceMethod yX8_isThere, .selects RX8 yX8_isThere yX8_isThere, .initialized RX8, .code yX8_isThere cX8_isThere 2 (some .boolean), .fieldLink RX8 24 "RingHeapModel" "types" "[I", .methodLink RX8 108 yX8_fieldsOf, .instanceMethod yX8_fieldsOf, .selects RX8 yX8_fieldsOf yX8_fieldsOf, .code yX8_fieldsOf cX8_fieldsOf 2 (some .int), .fieldLink RX8 13 "RingHeapModel" "typeFields" "[I"] ++ wsX80)
def wsX8_wish : List Cond := .code yX8_wish cX8_wish 3 (some .int) :: ([.fieldLink RX8 1 "RingHeapModel" "thrown" "I", .fieldLink RX8 85 "RingHeapModel" "wishCount" "I", .fieldLink RX8 57 "RingHeapModel" "wishes" "[I", .fieldLink RX8 36 "RingHeapModel" "hands" "[I"] ++ wsX80)
def wsX8_weak : List Cond := .code yX8_weak cX8_weak 4 (some .int) :: ([.fieldLink RX8 1 "RingHeapModel" "thrown" "I", .fieldLink RX8 60 "RingHeapModel" "weaks" "[I", .methodLink RX8 173 yX8_isWhole, .instanceMethod yX8_isWhole, .selects RX8 yX8_isWhole yX8_isWhole, .initialized RX8, .code yX8_isWhole cX8_isWhole 2 (some .boolean), .fieldLink RX8 45 "RingHeapModel" "husks" "[Z", .methodLink RX8 78 yX8_isThere, .instanceMethod yX8_isThere, .selects RX8 yX8_isThere yX8_isThere, .code yX8_isThere cX8_isThere 2 (some .boolean), .fieldLink RX8 24 "RingHeapModel" "types" "[I"] ++ wsX80)
def wsX8_seen : List Cond := .code yX8_seen cX8_seen 2 (some .int) :: ([.fieldLink RX8 1 "RingHeapModel" "thrown" "I", .fieldLink RX8 60 "RingHeapModel" "weaks" "[I"] ++ wsX80)
def wsX8_object : List Cond := .code yX8_object cX8_object 3 (some .int) :: ([.fieldLink RX8 1 "RingHeapModel" "thrown" "I", .fieldLink RX8 24 "RingHeapModel" "types" "[I", .fieldLink RX8 27 "RingHeapModel" "counts" "[I", .fieldLink RX8 30 "RingHeapModel" "colours" "[I", .fieldLink RX8 33 "RingHeapModel" "addresses" "[I", .fieldLink RX8 39 "RingHeapModel" "listedNow" "[Z", .fieldLink RX8 36 "RingHeapModel" "hands" "[I", .fieldLink RX8 45 "RingHeapModel" "husks" "[Z", .methodLink RX8 78 yX8_isThere, .instanceMethod yX8_isThere, .selects RX8 yX8_isThere yX8_isThere, .initialized RX8, .code yX8_isThere cX8_isThere 2 (some .boolean), .methodLink RX8 91 yX8_hasWish, .instanceMethod yX8_hasWish, .selects RX8 yX8_hasWish yX8_hasWish, .code yX8_hasWish cX8_hasWish 2 (some .boolean), .fieldLink RX8 20 "RingHeapModel" "typeWish" "[Z", .fieldLink RX8 42 "RingHeapModel" "wishTold" "[Z"] ++ wsX80)
def wsX8_count : List Cond := .code yX8_count cX8_count 2 (some .int) :: ([.fieldLink RX8 1 "RingHeapModel" "thrown" "I", .fieldLink RX8 130 "RingHeapModel" "byAddressCount" "I", .fieldLink RX8 88 "RingHeapModel" "listCount" "I", .fieldLink RX8 85 "RingHeapModel" "wishCount" "I", .fieldLink RX8 82 "RingHeapModel" "freedEver" "I", .fieldLink RX8 139 "RingHeapModel" "collections" "I", .fieldLink RX8 154 "RingHeapModel" "moves" "I", .fieldLink RX8 118 "RingHeapModel" "grayed" "I", .fieldLink RX8 121 "RingHeapModel" "blackened" "I", .methodLink RX8 148 yX8_findByAddress, .instanceMethod yX8_findByAddress, .selects RX8 yX8_findByAddress yX8_findByAddress, .initialized RX8, .code yX8_findByAddress cX8_findByAddress 3 none, .fieldLink RX8 51 "RingHeapModel" "owners" "[I", .fieldLink RX8 33 "RingHeapModel" "addresses" "[I", .fieldLink RX8 72 "RingHeapModel" "byAddress" "[I", .methodLink RX8 167 yX8_freeWords, .instanceMethod yX8_freeWords, .selects RX8 yX8_freeWords yX8_freeWords, .code yX8_freeWords cX8_freeWords 3 (some .int)] ++ wsX80)
def wsX8_listed : List Cond := .code yX8_listed cX8_listed 2 (some .int) :: ([.fieldLink RX8 1 "RingHeapModel" "thrown" "I", .fieldLink RX8 88 "RingHeapModel" "listCount" "I", .fieldLink RX8 54 "RingHeapModel" "list" "[I"] ++ wsX80)
def wsX8_freed : List Cond := .code yX8_freed cX8_freed 2 (some .int) :: ([.fieldLink RX8 1 "RingHeapModel" "thrown" "I", .fieldLink RX8 82 "RingHeapModel" "freedEver" "I", .fieldLink RX8 63 "RingHeapModel" "freedRow" "[I"] ++ wsX80)
def wsX8_at : List Cond := .code yX8_at cX8_at 2 (some .int) :: ([.fieldLink RX8 1 "RingHeapModel" "thrown" "I", .fieldLink RX8 51 "RingHeapModel" "owners" "[I"] ++ wsX80)
def wsL_type_r1 : List Cond := [Cond.classLink RL 13 "java/lang/IndexOutOfBoundsException", Cond.classLink RL 15 "java/lang/IllegalArgumentException", Cond.methodLink RL 7 yX7_type, Cond.instanceMethod yX7_type, Cond.selects RX7 yX7_type yX7_type, Cond.initialized RX7, Cond.code yX7_type cX7_type 5 (some .boolean), Cond.classLink RX7 40 "java/lang/IndexOutOfBoundsException", Cond.initialized "java/lang/IndexOutOfBoundsException", Cond.classLink RX7 47 "java/lang/IllegalArgumentException", Cond.initialized "java/lang/IllegalArgumentException", Cond.fieldLink RX7 11 "RingHeap" "kinds" "[LRingHeap$Kind;", Cond.classLink RX7 9 RX2, Cond.instantiable RX2 4, Cond.initialized RX2, Cond.methodLink RX7 52 yX2_init, Cond.instanceMethod yX2_init, Cond.code yX2_init cX2_init 5 none, Cond.methodLink RX2 1 objectInit, Cond.instanceMethod objectInit, Cond.code objectInit ⟨#[0xb1]⟩ 1 none, Cond.fieldLink RX2 7 "RingHeap$Kind" "number" "I", Cond.fieldLink RX2 13 "RingHeap$Kind" "fields" "I", Cond.fieldLink RX2 16 "RingHeap$Kind" "size" "I"]
def wsL_type_r2 : List Cond := [Cond.fieldLink RX2 19 "RingHeap$Kind" "wish" "Z"]
def wsL_type : List Cond := .codeWith yL_type cL_type 7 (some .int) [(0, 21, 24, 13), (0, 21, 28, 15)] :: ((wsL_type_r1 ++ wsL_type_r2) ++ wsX70 ++ wsX20 ++ (vx_atS RX7 44 "java/lang/IndexOutOfBoundsException" ["java/lang/RuntimeException", "java/lang/Exception"]).filter goodWord ++ (vx_atS RX7 51 "java/lang/IllegalArgumentException" ["java/lang/RuntimeException", "java/lang/Exception"]).filter goodWord)
def wsL_make_r1 : List Cond := [Cond.classLink RL 13 "java/lang/IndexOutOfBoundsException", Cond.methodLink RL 17 yX7_make, Cond.instanceMethod yX7_make, Cond.selects RX7 yX7_make yX7_make, Cond.initialized RX7, Cond.code yX7_make cX7_make 3 (some .int), Cond.classLink RX7 40 "java/lang/IndexOutOfBoundsException", Cond.initialized "java/lang/IndexOutOfBoundsException", Cond.fieldLink RX7 11 "RingHeap" "kinds" "[LRingHeap$Kind;", Cond.fieldLink RX7 18 "RingHeap" "store" "LRingHeap$Store;", Cond.fieldLink RX7 36 "RingHeap" "collector" "LRingHeap$Collector;", Cond.methodLink RX7 55 yX4_hasRoomFor, Cond.instanceMethod yX4_hasRoomFor, Cond.selects RX4 yX4_hasRoomFor yX4_hasRoomFor, Cond.initialized RX4, Cond.code yX4_hasRoomFor cX4_hasRoomFor 2 (some .boolean), Cond.fieldLink RX4 27 "RingHeap$Store" "words" "LRingHeap$Words;", Cond.fieldLink RX4 43 "RingHeap$Kind" "size" "I", Cond.methodLink RX4 39 yX4_leastFreeNumber, Cond.instanceMethod yX4_leastFreeNumber, Cond.selects RX4 yX4_leastFreeNumber yX4_leastFreeNumber, Cond.code yX4_leastFreeNumber cX4_leastFreeNumber 2 (some .int), Cond.fieldLink RX4 11 "RingHeap$Store" "things" "[LRingHeap$Thing;", Cond.methodLink RX4 49 yX6_gapFor]
def wsL_make_r2 : List Cond := [Cond.instanceMethod yX6_gapFor, Cond.selects RX6 yX6_gapFor yX6_gapFor, Cond.initialized RX6, Cond.code yX6_gapFor cX6_gapFor 4 (some .int), Cond.fieldLink RX6 11 "RingHeap$Words" "owners" "[LRingHeap$Thing;", Cond.methodLink RX7 59 yX0_run, Cond.instanceMethod yX0_run, Cond.selects RX0 yX0_run yX0_run, Cond.initialized RX0, Cond.code yX0_run cX0_run 2 (some .int), Cond.fieldLink RX0 21 "RingHeap$Collector" "store" "LRingHeap$Store;", Cond.fieldLink RX0 29 "RingHeap$Store" "freedEver" "I", Cond.fieldLink RX0 35 "RingHeap$Collector" "collections" "I", Cond.methodLink RX0 38 yX0_markListed, Cond.instanceMethod yX0_markListed, Cond.selects RX0 yX0_markListed yX0_markListed, Cond.code yX0_markListed cX0_markListed 4 none, Cond.fieldLink RX0 25 "RingHeap$Collector" "counting" "LRingHeap$Counting;", Cond.fieldLink RX0 53 "RingHeap$Counting" "list" "LRingHeap$Row;", Cond.fieldLink RX0 58 "RingHeap$Row" "length" "I", Cond.fieldLink RX0 65 "RingHeap$Thing" "husk" "Z", Cond.fieldLink RX0 71 "RingHeap$Thing" "inList" "Z", Cond.fieldLink RX0 78 "RingHeap$Thing" "colour" "I", Cond.methodLink RX0 61 yX3_item]
def wsL_make_r3 : List Cond := [Cond.instanceMethod yX3_item, Cond.selects RX3 yX3_item yX3_item, Cond.initialized RX3, Cond.code yX3_item cX3_item 2 (some (.object "RingHeap$Thing")), Cond.fieldLink RX3 17 "RingHeap$Row" "length" "I", Cond.fieldLink RX3 11 "RingHeap$Row" "things" "[LRingHeap$Thing;", Cond.methodLink RX0 74 yX4_free, Cond.instanceMethod yX4_free, Cond.selects RX4 yX4_free yX4_free, Cond.code yX4_free cX4_free 3 none, Cond.fieldLink RX4 67 "RingHeap$Thing" "number" "I", Cond.fieldLink RX4 60 "RingHeap$Store" "thingsThere" "I", Cond.fieldLink RX4 21 "RingHeap$Store" "weaks" "[LRingHeap$Thing;", Cond.fieldLink RX4 17 "RingHeap$Store" "freedNumbers" "[I", Cond.fieldLink RX4 70 "RingHeap$Store" "freedEver" "I", Cond.methodLink RX4 63 yX6_takeBack, Cond.instanceMethod yX6_takeBack, Cond.selects RX6 yX6_takeBack yX6_takeBack, Cond.code yX6_takeBack cX6_takeBack 4 none, Cond.fieldLink RX6 25 "RingHeap$Thing" "address" "I", Cond.fieldLink RX6 28 "RingHeap$Thing" "kind" "LRingHeap$Kind;", Cond.fieldLink RX6 32 "RingHeap$Kind" "size" "I", Cond.fieldLink RX6 17 "RingHeap$Words" "free" "I", Cond.methodLink RX0 81 yX0_markFrom]
def wsL_make_r4 : List Cond := [Cond.instanceMethod yX0_markFrom, Cond.selects RX0 yX0_markFrom yX0_markFrom, Cond.code yX0_markFrom cX0_markFrom 8 none, Cond.fieldLink RX0 12 "RingHeap$Collector" "reached" "LRingHeap$Row;", Cond.fieldLink RX0 90 "RingHeap$Thing" "held" "[LRingHeap$Thing;", Cond.fieldLink RX0 98 "RingHeap$Thing" "count" "I", Cond.methodLink RX0 84 yX3_clear, Cond.instanceMethod yX3_clear, Cond.selects RX3 yX3_clear yX3_clear, Cond.code yX3_clear cX3_clear 1 none, Cond.methodLink RX0 87 yX0_turnGray, Cond.instanceMethod yX0_turnGray, Cond.selects RX0 yX0_turnGray yX0_turnGray, Cond.code yX0_turnGray cX0_turnGray 2 none, Cond.fieldLink RX0 101 "RingHeap$Collector" "grayed" "I", Cond.methodLink RX0 94 yX5_isGreen, Cond.instanceMethod yX5_isGreen, Cond.selects RX5 yX5_isGreen yX5_isGreen, Cond.initialized RX5, Cond.code yX5_isGreen cX5_isGreen 1 (some .boolean), Cond.fieldLink RX5 34 "RingHeap$Thing" "colour" "I", Cond.methodLink RX0 104 yX3_append, Cond.instanceMethod yX3_append, Cond.selects RX3 yX3_append yX3_append]
def wsL_make_r5 : List Cond := [Cond.code yX3_append cX3_append 2 none, Cond.methodLink RX0 41 yX0_scanListed, Cond.instanceMethod yX0_scanListed, Cond.selects RX0 yX0_scanListed yX0_scanListed, Cond.code yX0_scanListed cX0_scanListed 4 none, Cond.methodLink RX0 107 yX0_scanFrom, Cond.instanceMethod yX0_scanFrom, Cond.selects RX0 yX0_scanFrom yX0_scanFrom, Cond.code yX0_scanFrom cX0_scanFrom 8 none, Cond.methodLink RX0 110 yX0_judge, Cond.instanceMethod yX0_judge, Cond.selects RX0 yX0_judge yX0_judge, Cond.code yX0_judge cX0_judge 2 none, Cond.methodLink RX0 113 yX0_blackenFrom, Cond.instanceMethod yX0_blackenFrom, Cond.selects RX0 yX0_blackenFrom yX0_blackenFrom, Cond.code yX0_blackenFrom cX0_blackenFrom 8 none, Cond.fieldLink RX0 18 "RingHeap$Collector" "darkened" "LRingHeap$Row;", Cond.methodLink RX0 116 yX0_turnBlack, Cond.instanceMethod yX0_turnBlack, Cond.selects RX0 yX0_turnBlack yX0_turnBlack, Cond.code yX0_turnBlack cX0_turnBlack 2 none, Cond.fieldLink RX0 119 "RingHeap$Collector" "blackened" "I", Cond.methodLink RX0 44 yX0_tellWishes]
def wsL_make_r6 : List Cond := [Cond.instanceMethod yX0_tellWishes, Cond.selects RX0 yX0_tellWishes yX0_tellWishes, Cond.code yX0_tellWishes cX0_tellWishes 3 none, Cond.fieldLink RX0 122 "RingHeap$Store" "words" "LRingHeap$Words;", Cond.fieldLink RX0 131 "RingHeap$Thing" "wishUntold" "Z", Cond.methodLink RX0 126 yX6_ownerFrom, Cond.instanceMethod yX6_ownerFrom, Cond.selects RX6 yX6_ownerFrom yX6_ownerFrom, Cond.code yX6_ownerFrom cX6_ownerFrom 3 (some (.object "RingHeap$Thing")), Cond.methodLink RX6 21 yX6_owner, Cond.instanceMethod yX6_owner, Cond.selects RX6 yX6_owner yX6_owner, Cond.code yX6_owner cX6_owner 2 (some (.object "RingHeap$Thing")), Cond.methodLink RX0 134 yX1_tellWish, Cond.instanceMethod yX1_tellWish, Cond.selects RX1 yX1_tellWish yX1_tellWish, Cond.initialized RX1, Cond.code yX1_tellWish cX1_tellWish 2 none, Cond.fieldLink RX1 56 "RingHeap$Thing" "wishUntold" "Z", Cond.fieldLink RX1 28 "RingHeap$Thing" "count" "I", Cond.fieldLink RX1 21 "RingHeap$Counting" "wishes" "LRingHeap$Row;", Cond.methodLink RX1 60 yX3_append, Cond.methodLink RX0 47 yX0_emptyList, Cond.instanceMethod yX0_emptyList]
def wsL_make_r7 : List Cond := [Cond.selects RX0 yX0_emptyList yX0_emptyList, Cond.code yX0_emptyList cX0_emptyList 4 none, Cond.methodLink RX0 50 yX0_freeWhite, Cond.instanceMethod yX0_freeWhite, Cond.selects RX0 yX0_freeWhite yX0_freeWhite, Cond.code yX0_freeWhite cX0_freeWhite 7 none, Cond.methodLink RX0 137 yX1_less, Cond.instanceMethod yX1_less, Cond.selects RX1 yX1_less yX1_less, Cond.code yX1_less cX1_less 6 (some .int), Cond.fieldLink RX1 24 "RingHeap$Counting" "store" "LRingHeap$Store;", Cond.fieldLink RX1 37 "RingHeap$Store" "freedEver" "I", Cond.fieldLink RX1 12 "RingHeap$Counting" "going" "LRingHeap$Row;", Cond.methodLink RX1 42 yX1_lower, Cond.instanceMethod yX1_lower, Cond.selects RX1 yX1_lower yX1_lower, Cond.code yX1_lower cX1_lower 2 none, Cond.methodLink RX1 63 yX1_suspect, Cond.instanceMethod yX1_suspect, Cond.selects RX1 yX1_suspect yX1_suspect, Cond.code yX1_suspect cX1_suspect 2 none, Cond.fieldLink RX1 73 "RingHeap$Thing" "colour" "I", Cond.fieldLink RX1 76 "RingHeap$Thing" "inList" "Z", Cond.fieldLink RX1 18 "RingHeap$Counting" "list" "LRingHeap$Row;"]
def wsL_make_r8 : List Cond := [Cond.methodLink RX1 69 yX5_isGreen, Cond.methodLink RX1 66 yX1_tellWish, Cond.methodLink RX1 34 yX5_blackenUnlessGreen, Cond.instanceMethod yX5_blackenUnlessGreen, Cond.selects RX5 yX5_blackenUnlessGreen yX5_blackenUnlessGreen, Cond.code yX5_blackenUnlessGreen cX5_blackenUnlessGreen 1 none, Cond.methodLink RX5 44 yX5_isGreen, Cond.methodLink RX1 46 yX3_last, Cond.instanceMethod yX3_last, Cond.selects RX3 yX3_last yX3_last, Cond.code yX3_last cX3_last 1 (some (.object "RingHeap$Thing")), Cond.methodLink RX3 21 yX3_item, Cond.methodLink RX1 50 yX5_giveUpNext, Cond.instanceMethod yX5_giveUpNext, Cond.selects RX5 yX5_giveUpNext yX5_giveUpNext, Cond.code yX5_giveUpNext cX5_giveUpNext 2 (some (.object "RingHeap$Thing")), Cond.fieldLink RX5 48 "RingHeap$Thing" "nextField" "I", Cond.fieldLink RX5 25 "RingHeap$Thing" "held" "[LRingHeap$Thing;", Cond.methodLink RX1 53 yX1_finish, Cond.instanceMethod yX1_finish, Cond.selects RX1 yX1_finish yX1_finish, Cond.code yX1_finish cX1_finish 2 none, Cond.fieldLink RX1 82 "RingHeap$Thing" "husk" "Z", Cond.methodLink RX1 79 yX3_removeLast]
def wsL_make_r9 : List Cond := [Cond.instanceMethod yX3_removeLast, Cond.selects RX3 yX3_removeLast yX3_removeLast, Cond.code yX3_removeLast cX3_removeLast 1 none, Cond.methodLink RX1 85 yX4_free, Cond.methodLink RX7 63 yX7_makeRoomByMoving, Cond.instanceMethod yX7_makeRoomByMoving, Cond.selects RX7 yX7_makeRoomByMoving yX7_makeRoomByMoving, Cond.code yX7_makeRoomByMoving cX7_makeRoomByMoving 2 (some .boolean), Cond.fieldLink RX7 125 "RingHeap$Store" "words" "LRingHeap$Words;", Cond.fieldLink RX7 154 "RingHeap$Words" "free" "I", Cond.fieldLink RX7 183 "RingHeap$Kind" "size" "I", Cond.fieldLink RX7 122 "RingHeap" "moves" "I", Cond.methodLink RX7 180 yX4_leastFreeNumber, Cond.methodLink RX7 129 yX6_moveAllDown, Cond.instanceMethod yX6_moveAllDown, Cond.selects RX6 yX6_moveAllDown yX6_moveAllDown, Cond.code yX6_moveAllDown cX6_moveAllDown 5 (some .int), Cond.methodLink RX6 37 yX6_ownerFrom, Cond.methodLink RX6 40 yX6_takeBack, Cond.methodLink RX6 44 yX6_give, Cond.instanceMethod yX6_give, Cond.selects RX6 yX6_give yX6_give, Cond.code yX6_give cX6_give 5 none, Cond.methodLink RX7 66 yX4_place]
def wsL_make_r10 : List Cond := [Cond.instanceMethod yX4_place, Cond.selects RX4 yX4_place yX4_place, Cond.code yX4_place cX4_place 5 (some .int), Cond.classLink RX4 9 RX5, Cond.instantiable RX5 11, Cond.methodLink RX4 53 yX5_init, Cond.instanceMethod yX5_init, Cond.code yX5_init cX5_init 3 none, Cond.methodLink RX5 3 objectInit, Cond.instanceMethod objectInit, Cond.code objectInit ⟨#[0xb1]⟩ 1 none, Cond.fieldLink RX5 9 "RingHeap$Thing" "count" "I", Cond.fieldLink RX5 15 "RingHeap$Thing" "hands" "I", Cond.fieldLink RX5 18 "RingHeap$Thing" "number" "I", Cond.fieldLink RX5 21 "RingHeap$Thing" "kind" "LRingHeap$Kind;", Cond.classLink RX5 10 RX5, Cond.fieldLink RX5 29 "RingHeap$Kind" "fields" "I", Cond.fieldLink RX5 37 "RingHeap$Kind" "wish" "Z", Cond.fieldLink RX5 41 "RingHeap$Thing" "wishUntold" "Z", Cond.methodLink RX4 56 yX6_give]
def wsL_make : List Cond := .codeWith yL_make cL_make 4 (some .int) [(0, 9, 12, 13)] :: ((wsL_make_r1 ++ (wsL_make_r2 ++ (wsL_make_r3 ++ (wsL_make_r4 ++ (wsL_make_r5 ++ (wsL_make_r6 ++ (wsL_make_r7 ++ (wsL_make_r8 ++ (wsL_make_r9 ++ wsL_make_r10))))))))) ++ wsX70 ++ wsX40 ++ wsX20 ++ wsX60 ++ wsX00 ++ wsX10 ++ wsX30 ++ wsX50 ++ (vx_atS RX7 44 "java/lang/IndexOutOfBoundsException" ["java/lang/RuntimeException", "java/lang/Exception"]).filter goodWord)
def wsL_set_r1 : List Cond := [Cond.classLink RL 13 "java/lang/IndexOutOfBoundsException", Cond.methodLink RL 21 yX7_set, Cond.instanceMethod yX7_set, Cond.selects RX7 yX7_set yX7_set, Cond.initialized RX7, Cond.code yX7_set cX7_set 7 (some .int), Cond.classLink RX7 40 "java/lang/IndexOutOfBoundsException", Cond.initialized "java/lang/IndexOutOfBoundsException", Cond.fieldLink RX7 18 "RingHeap" "store" "LRingHeap$Store;", Cond.fieldLink RX7 97 "RingHeap$Thing" "held" "[LRingHeap$Thing;", Cond.fieldLink RX7 27 "RingHeap" "counting" "LRingHeap$Counting;", Cond.methodLink RX7 70 yX4_living, Cond.instanceMethod yX4_living, Cond.selects RX4 yX4_living yX4_living, Cond.initialized RX4, Cond.code yX4_living cX4_living 3 (some (.object "RingHeap$Thing")), Cond.fieldLink RX4 35 "RingHeap$Thing" "husk" "Z", Cond.methodLink RX4 31 yX4_thing, Cond.instanceMethod yX4_thing, Cond.selects RX4 yX4_thing yX4_thing, Cond.code yX4_thing cX4_thing 2 (some (.object "RingHeap$Thing")), Cond.fieldLink RX4 11 "RingHeap$Store" "things" "[LRingHeap$Thing;", Cond.methodLink RX7 91 yX5_hasField, Cond.instanceMethod yX5_hasField]
def wsL_set_r2 : List Cond := [Cond.selects RX5 yX5_hasField yX5_hasField, Cond.initialized RX5, Cond.code yX5_hasField cX5_hasField 2 (some .boolean), Cond.fieldLink RX5 21 "RingHeap$Thing" "kind" "LRingHeap$Kind;", Cond.fieldLink RX5 29 "RingHeap$Kind" "fields" "I", Cond.fieldLink RX5 25 "RingHeap$Thing" "held" "[LRingHeap$Thing;", Cond.methodLink RX7 80 yX1_more, Cond.instanceMethod yX1_more, Cond.selects RX1 yX1_more yX1_more, Cond.initialized RX1, Cond.code yX1_more cX1_more 2 none, Cond.fieldLink RX1 28 "RingHeap$Thing" "count" "I", Cond.methodLink RX1 34 yX5_blackenUnlessGreen, Cond.instanceMethod yX5_blackenUnlessGreen, Cond.selects RX5 yX5_blackenUnlessGreen yX5_blackenUnlessGreen, Cond.code yX5_blackenUnlessGreen cX5_blackenUnlessGreen 1 none, Cond.fieldLink RX5 34 "RingHeap$Thing" "colour" "I", Cond.methodLink RX5 44 yX5_isGreen, Cond.instanceMethod yX5_isGreen, Cond.selects RX5 yX5_isGreen yX5_isGreen, Cond.code yX5_isGreen cX5_isGreen 1 (some .boolean), Cond.methodLink RX7 87 yX1_less, Cond.instanceMethod yX1_less, Cond.selects RX1 yX1_less yX1_less]
def wsL_set_r3 : List Cond := [Cond.code yX1_less cX1_less 6 (some .int), Cond.fieldLink RX1 24 "RingHeap$Counting" "store" "LRingHeap$Store;", Cond.fieldLink RX1 37 "RingHeap$Store" "freedEver" "I", Cond.fieldLink RX1 12 "RingHeap$Counting" "going" "LRingHeap$Row;", Cond.methodLink RX1 42 yX1_lower, Cond.instanceMethod yX1_lower, Cond.selects RX1 yX1_lower yX1_lower, Cond.code yX1_lower cX1_lower 2 none, Cond.fieldLink RX1 56 "RingHeap$Thing" "wishUntold" "Z", Cond.methodLink RX1 63 yX1_suspect, Cond.instanceMethod yX1_suspect, Cond.selects RX1 yX1_suspect yX1_suspect, Cond.code yX1_suspect cX1_suspect 2 none, Cond.fieldLink RX1 73 "RingHeap$Thing" "colour" "I", Cond.fieldLink RX1 76 "RingHeap$Thing" "inList" "Z", Cond.fieldLink RX1 18 "RingHeap$Counting" "list" "LRingHeap$Row;", Cond.methodLink RX1 69 yX5_isGreen, Cond.methodLink RX1 60 yX3_append, Cond.instanceMethod yX3_append, Cond.selects RX3 yX3_append yX3_append, Cond.initialized RX3, Cond.code yX3_append cX3_append 2 none, Cond.fieldLink RX3 17 "RingHeap$Row" "length" "I", Cond.fieldLink RX3 11 "RingHeap$Row" "things" "[LRingHeap$Thing;"]
def wsL_set_r4 : List Cond := [Cond.methodLink RX1 66 yX1_tellWish, Cond.instanceMethod yX1_tellWish, Cond.selects RX1 yX1_tellWish yX1_tellWish, Cond.code yX1_tellWish cX1_tellWish 2 none, Cond.fieldLink RX1 21 "RingHeap$Counting" "wishes" "LRingHeap$Row;", Cond.methodLink RX1 46 yX3_last, Cond.instanceMethod yX3_last, Cond.selects RX3 yX3_last yX3_last, Cond.code yX3_last cX3_last 1 (some (.object "RingHeap$Thing")), Cond.methodLink RX3 21 yX3_item, Cond.instanceMethod yX3_item, Cond.selects RX3 yX3_item yX3_item, Cond.code yX3_item cX3_item 2 (some (.object "RingHeap$Thing")), Cond.methodLink RX1 50 yX5_giveUpNext, Cond.instanceMethod yX5_giveUpNext, Cond.selects RX5 yX5_giveUpNext yX5_giveUpNext, Cond.code yX5_giveUpNext cX5_giveUpNext 2 (some (.object "RingHeap$Thing")), Cond.fieldLink RX5 48 "RingHeap$Thing" "nextField" "I", Cond.methodLink RX1 53 yX1_finish, Cond.instanceMethod yX1_finish, Cond.selects RX1 yX1_finish yX1_finish, Cond.code yX1_finish cX1_finish 2 none, Cond.fieldLink RX1 82 "RingHeap$Thing" "husk" "Z", Cond.methodLink RX1 79 yX3_removeLast]
def wsL_set_r5 : List Cond := [Cond.instanceMethod yX3_removeLast, Cond.selects RX3 yX3_removeLast yX3_removeLast, Cond.code yX3_removeLast cX3_removeLast 1 none, Cond.methodLink RX1 85 yX4_free, Cond.instanceMethod yX4_free, Cond.selects RX4 yX4_free yX4_free, Cond.code yX4_free cX4_free 3 none, Cond.fieldLink RX4 27 "RingHeap$Store" "words" "LRingHeap$Words;", Cond.fieldLink RX4 67 "RingHeap$Thing" "number" "I", Cond.fieldLink RX4 60 "RingHeap$Store" "thingsThere" "I", Cond.fieldLink RX4 21 "RingHeap$Store" "weaks" "[LRingHeap$Thing;", Cond.fieldLink RX4 17 "RingHeap$Store" "freedNumbers" "[I", Cond.fieldLink RX4 70 "RingHeap$Store" "freedEver" "I", Cond.methodLink RX4 63 yX6_takeBack, Cond.instanceMethod yX6_takeBack, Cond.selects RX6 yX6_takeBack yX6_takeBack, Cond.initialized RX6, Cond.code yX6_takeBack cX6_takeBack 4 none, Cond.fieldLink RX6 25 "RingHeap$Thing" "address" "I", Cond.fieldLink RX6 28 "RingHeap$Thing" "kind" "LRingHeap$Kind;", Cond.fieldLink RX6 32 "RingHeap$Kind" "size" "I", Cond.fieldLink RX6 11 "RingHeap$Words" "owners" "[LRingHeap$Thing;", Cond.fieldLink RX6 17 "RingHeap$Words" "free" "I"]
def wsL_set : List Cond := .codeWith yL_set cL_set 6 (some .int) [(0, 12, 15, 13)] :: ((wsL_set_r1 ++ (wsL_set_r2 ++ (wsL_set_r3 ++ (wsL_set_r4 ++ wsL_set_r5)))) ++ wsX70 ++ wsX50 ++ wsX40 ++ wsX20 ++ wsX10 ++ wsX30 ++ wsX60 ++ (vx_atS RX7 44 "java/lang/IndexOutOfBoundsException" ["java/lang/RuntimeException", "java/lang/Exception"]).filter goodWord)
def wsL_get_r1 : List Cond := [Cond.classLink RL 13 "java/lang/IndexOutOfBoundsException", Cond.methodLink RL 25 yX7_get, Cond.instanceMethod yX7_get, Cond.selects RX7 yX7_get yX7_get, Cond.initialized RX7, Cond.code yX7_get cX7_get 4 (some .int), Cond.classLink RX7 40 "java/lang/IndexOutOfBoundsException", Cond.initialized "java/lang/IndexOutOfBoundsException", Cond.fieldLink RX7 18 "RingHeap" "store" "LRingHeap$Store;", Cond.fieldLink RX7 97 "RingHeap$Thing" "held" "[LRingHeap$Thing;", Cond.methodLink RX7 101 yX4_thing, Cond.instanceMethod yX4_thing, Cond.selects RX4 yX4_thing yX4_thing, Cond.initialized RX4, Cond.code yX4_thing cX4_thing 2 (some (.object "RingHeap$Thing")), Cond.fieldLink RX4 11 "RingHeap$Store" "things" "[LRingHeap$Thing;", Cond.methodLink RX7 91 yX5_hasField, Cond.instanceMethod yX5_hasField, Cond.selects RX5 yX5_hasField yX5_hasField, Cond.initialized RX5, Cond.code yX5_hasField cX5_hasField 2 (some .boolean), Cond.fieldLink RX5 21 "RingHeap$Thing" "kind" "LRingHeap$Kind;", Cond.fieldLink RX5 29 "RingHeap$Kind" "fields" "I", Cond.fieldLink RX5 25 "RingHeap$Thing" "held" "[LRingHeap$Thing;"]
def wsL_get_r2 : List Cond := [Cond.methodLink RX7 106 yX7_numberOf, Cond.static yX7_numberOf, Cond.code yX7_numberOf cX7_numberOf 1 (some .int), Cond.fieldLink RX7 119 "RingHeap$Thing" "number" "I"]
def wsL_get : List Cond := .codeWith yL_get cL_get 5 (some .int) [(0, 10, 13, 13)] :: ((wsL_get_r1 ++ wsL_get_r2) ++ wsX70 ++ wsX50 ++ wsX40 ++ wsX20 ++ (vx_atS RX7 44 "java/lang/IndexOutOfBoundsException" ["java/lang/RuntimeException", "java/lang/Exception"]).filter goodWord)
def wsL_weak_r1 : List Cond := [Cond.classLink RL 13 "java/lang/IndexOutOfBoundsException", Cond.methodLink RL 29 yX7_weak, Cond.instanceMethod yX7_weak, Cond.selects RX7 yX7_weak yX7_weak, Cond.initialized RX7, Cond.code yX7_weak cX7_weak 5 (some .int), Cond.classLink RX7 40 "java/lang/IndexOutOfBoundsException", Cond.initialized "java/lang/IndexOutOfBoundsException", Cond.fieldLink RX7 18 "RingHeap" "store" "LRingHeap$Store;", Cond.fieldLink RX7 136 "RingHeap$Store" "weaks" "[LRingHeap$Thing;", Cond.methodLink RX7 70 yX4_living, Cond.instanceMethod yX4_living, Cond.selects RX4 yX4_living yX4_living, Cond.initialized RX4, Cond.code yX4_living cX4_living 3 (some (.object "RingHeap$Thing")), Cond.fieldLink RX4 35 "RingHeap$Thing" "husk" "Z", Cond.methodLink RX4 31 yX4_thing, Cond.instanceMethod yX4_thing, Cond.selects RX4 yX4_thing yX4_thing, Cond.code yX4_thing cX4_thing 2 (some (.object "RingHeap$Thing")), Cond.fieldLink RX4 11 "RingHeap$Store" "things" "[LRingHeap$Thing;", Cond.methodLink RX7 106 yX7_numberOf, Cond.static yX7_numberOf, Cond.code yX7_numberOf cX7_numberOf 1 (some .int)]
def wsL_weak_r2 : List Cond := [Cond.fieldLink RX7 119 "RingHeap$Thing" "number" "I"]
def wsL_weak : List Cond := .codeWith yL_weak cL_weak 5 (some .int) [(0, 10, 13, 13)] :: ((wsL_weak_r1 ++ wsL_weak_r2) ++ wsX70 ++ wsX40 ++ wsX50 ++ (vx_atS RX7 44 "java/lang/IndexOutOfBoundsException" ["java/lang/RuntimeException", "java/lang/Exception"]).filter goodWord)
def wsL_seen : List Cond := .codeWith yL_seen cL_seen 4 (some .int) [(0, 9, 12, 13)] :: ([.classLink RL 13 "java/lang/IndexOutOfBoundsException", .methodLink RL 32 yX7_seen, .instanceMethod yX7_seen, .selects RX7 yX7_seen yX7_seen, .initialized RX7, .code yX7_seen cX7_seen 2 (some .int), .classLink RX7 40 "java/lang/IndexOutOfBoundsException", .initialized "java/lang/IndexOutOfBoundsException", .fieldLink RX7 18 "RingHeap" "store" "LRingHeap$Store;", .fieldLink RX7 136 "RingHeap$Store" "weaks" "[LRingHeap$Thing;", .methodLink RX7 106 yX7_numberOf, .static yX7_numberOf, .code yX7_numberOf cX7_numberOf 1 (some .int), .fieldLink RX7 119 "RingHeap$Thing" "number" "I"] ++ wsX70 ++ wsX40 ++ wsX50 ++ (vx_atS RX7 44 "java/lang/IndexOutOfBoundsException" ["java/lang/RuntimeException", "java/lang/Exception"]).filter goodWord)
def wsL_object_r1 : List Cond := [Cond.classLink RL 13 "java/lang/IndexOutOfBoundsException", Cond.methodLink RL 35 yX7_object, Cond.instanceMethod yX7_object, Cond.selects RX7 yX7_object yX7_object, Cond.initialized RX7, Cond.code yX7_object cX7_object 4 (some .int), Cond.classLink RX7 40 "java/lang/IndexOutOfBoundsException", Cond.initialized "java/lang/IndexOutOfBoundsException", Cond.fieldLink RX7 18 "RingHeap" "store" "LRingHeap$Store;", Cond.methodLink RX7 101 yX4_thing, Cond.instanceMethod yX4_thing, Cond.selects RX4 yX4_thing yX4_thing, Cond.initialized RX4, Cond.code yX4_thing cX4_thing 2 (some (.object "RingHeap$Thing")), Cond.fieldLink RX4 11 "RingHeap$Store" "things" "[LRingHeap$Thing;", Cond.methodLink RX7 141 yX5_tell, Cond.instanceMethod yX5_tell, Cond.selects RX5 yX5_tell yX5_tell, Cond.initialized RX5, Cond.code yX5_tell cX5_tell 2 (some .int), Cond.fieldLink RX5 21 "RingHeap$Thing" "kind" "LRingHeap$Kind;", Cond.fieldLink RX5 51 "RingHeap$Kind" "number" "I", Cond.fieldLink RX5 9 "RingHeap$Thing" "count" "I", Cond.fieldLink RX5 34 "RingHeap$Thing" "colour" "I"]
def wsL_object_r2 : List Cond := [Cond.fieldLink RX5 52 "RingHeap$Thing" "address" "I", Cond.fieldLink RX5 55 "RingHeap$Thing" "inList" "Z", Cond.fieldLink RX5 41 "RingHeap$Thing" "wishUntold" "Z", Cond.fieldLink RX5 15 "RingHeap$Thing" "hands" "I", Cond.fieldLink RX5 58 "RingHeap$Thing" "husk" "Z"]
def wsL_object : List Cond := .codeWith yL_object cL_object 5 (some .int) [(0, 10, 13, 13)] :: ((wsL_object_r1 ++ wsL_object_r2) ++ wsX70 ++ wsX40 ++ wsX50 ++ wsX20 ++ (vx_atS RX7 44 "java/lang/IndexOutOfBoundsException" ["java/lang/RuntimeException", "java/lang/Exception"]).filter goodWord)
def wsL_count : List Cond := .codeWith yL_count cL_count 4 (some .int) [(0, 9, 12, 13)] :: ([.classLink RL 13 "java/lang/IndexOutOfBoundsException", .methodLink RL 38 yX7_count, .instanceMethod yX7_count, .selects RX7 yX7_count yX7_count, .initialized RX7, .code yX7_count cX7_count 2 (some .int), .classLink RX7 40 "java/lang/IndexOutOfBoundsException", .initialized "java/lang/IndexOutOfBoundsException", .fieldLink RX7 18 "RingHeap" "store" "LRingHeap$Store;", .fieldLink RX7 145 "RingHeap$Store" "thingsThere" "I", .fieldLink RX7 27 "RingHeap" "counting" "LRingHeap$Counting;", .fieldLink RX7 148 "RingHeap$Counting" "list" "LRingHeap$Row;", .fieldLink RX7 151 "RingHeap$Row" "length" "I", .fieldLink RX7 109 "RingHeap$Counting" "wishes" "LRingHeap$Row;", .fieldLink RX7 125 "RingHeap$Store" "words" "LRingHeap$Words;", .fieldLink RX7 154 "RingHeap$Words" "free" "I", .fieldLink RX7 157 "RingHeap$Store" "freedEver" "I", .fieldLink RX7 36 "RingHeap" "collector" "LRingHeap$Collector;", .fieldLink RX7 160 "RingHeap$Collector" "collections" "I", .fieldLink RX7 122 "RingHeap" "moves" "I", .fieldLink RX7 163 "RingHeap$Collector" "grayed" "I", .fieldLink RX7 166 "RingHeap$Collector" "blackened" "I"] ++ wsX70 ++ wsX40 ++ wsX10 ++ wsX30 ++ wsX60 ++ wsX00 ++ (vx_atS RX7 44 "java/lang/IndexOutOfBoundsException" ["java/lang/RuntimeException", "java/lang/Exception"]).filter goodWord)
def wsL_at : List Cond := .codeWith yL_at cL_at 4 (some .int) [(0, 9, 12, 13)] :: ([.classLink RL 13 "java/lang/IndexOutOfBoundsException", .methodLink RL 41 yX7_at, .instanceMethod yX7_at, .selects RX7 yX7_at yX7_at, .initialized RX7, .code yX7_at cX7_at 2 (some .int), .classLink RX7 40 "java/lang/IndexOutOfBoundsException", .initialized "java/lang/IndexOutOfBoundsException", .fieldLink RX7 18 "RingHeap" "store" "LRingHeap$Store;", .fieldLink RX7 125 "RingHeap$Store" "words" "LRingHeap$Words;", .methodLink RX7 177 yX6_owner, .instanceMethod yX6_owner, .selects RX6 yX6_owner yX6_owner, .initialized RX6, .code yX6_owner cX6_owner 2 (some (.object "RingHeap$Thing")), .fieldLink RX6 11 "RingHeap$Words" "owners" "[LRingHeap$Thing;", .methodLink RX7 106 yX7_numberOf, .static yX7_numberOf, .code yX7_numberOf cX7_numberOf 1 (some .int), .fieldLink RX7 119 "RingHeap$Thing" "number" "I"] ++ wsX70 ++ wsX40 ++ wsX60 ++ wsX50 ++ (vx_atS RX7 44 "java/lang/IndexOutOfBoundsException" ["java/lang/RuntimeException", "java/lang/Exception"]).filter goodWord)
def wsL_law0_r1 : List Cond := [Cond.classLink RL 8 RX7, Cond.instantiable RX7 5, Cond.initialized RX7, Cond.classLink RL 45 RX8, Cond.instantiable RX8 31, Cond.initialized RX8, Cond.arrayClass .long, Cond.methodLink RL 44 yX7_init, Cond.instanceMethod yX7_init, Cond.code yX7_init cX7_init 1 none, Cond.methodLink RX7 3 objectInit, Cond.instanceMethod objectInit, Cond.code objectInit ⟨#[0xb1]⟩ 1 none, Cond.classLink RX7 9 RX2, Cond.fieldLink RX7 11 "RingHeap" "kinds" "[LRingHeap$Kind;", Cond.classLink RX7 15 RX4, Cond.instantiable RX4 6, Cond.initialized RX4, Cond.fieldLink RX7 18 "RingHeap" "store" "LRingHeap$Store;", Cond.classLink RX7 22 RX1, Cond.instantiable RX1 4, Cond.initialized RX1, Cond.fieldLink RX7 27 "RingHeap" "counting" "LRingHeap$Counting;", Cond.classLink RX7 31 RX0]
def wsL_law0_r2 : List Cond := [Cond.instantiable RX0 7, Cond.initialized RX0, Cond.fieldLink RX7 36 "RingHeap" "collector" "LRingHeap$Collector;", Cond.instanceMethod yX4_init, Cond.code yX4_init cX4_init 1 none, Cond.methodLink RX4 3 objectInit, Cond.classLink RX4 9 RX5, Cond.fieldLink RX4 11 "RingHeap$Store" "things" "[LRingHeap$Thing;", Cond.arrayClass .int, Cond.fieldLink RX4 17 "RingHeap$Store" "freedNumbers" "[I", Cond.fieldLink RX4 21 "RingHeap$Store" "weaks" "[LRingHeap$Thing;", Cond.classLink RX4 24 RX6, Cond.instantiable RX6 2, Cond.initialized RX6, Cond.fieldLink RX4 27 "RingHeap$Store" "words" "LRingHeap$Words;", Cond.instanceMethod yX6_init, Cond.code yX6_init cX6_init 1 none, Cond.methodLink RX6 3 objectInit, Cond.classLink RX6 9 RX5, Cond.fieldLink RX6 11 "RingHeap$Words" "owners" "[LRingHeap$Thing;", Cond.fieldLink RX6 17 "RingHeap$Words" "free" "I", Cond.methodLink RX7 24 yX1_init, Cond.instanceMethod yX1_init, Cond.code yX1_init cX1_init 2 none]
def wsL_law0_r3 : List Cond := [Cond.methodLink RX1 3 objectInit, Cond.classLink RX1 9 RX3, Cond.instantiable RX3 2, Cond.initialized RX3, Cond.fieldLink RX1 12 "RingHeap$Counting" "going" "LRingHeap$Row;", Cond.fieldLink RX1 18 "RingHeap$Counting" "list" "LRingHeap$Row;", Cond.fieldLink RX1 21 "RingHeap$Counting" "wishes" "LRingHeap$Row;", Cond.fieldLink RX1 24 "RingHeap$Counting" "store" "LRingHeap$Store;", Cond.instanceMethod yX3_init, Cond.code yX3_init cX3_init 1 none, Cond.methodLink RX3 3 objectInit, Cond.classLink RX3 9 RX5, Cond.fieldLink RX3 11 "RingHeap$Row" "things" "[LRingHeap$Thing;", Cond.methodLink RX7 33 yX0_init, Cond.instanceMethod yX0_init, Cond.code yX0_init cX0_init 3 none, Cond.methodLink RX0 3 objectInit, Cond.classLink RX0 9 RX3, Cond.fieldLink RX0 12 "RingHeap$Collector" "reached" "LRingHeap$Row;", Cond.fieldLink RX0 18 "RingHeap$Collector" "darkened" "LRingHeap$Row;", Cond.fieldLink RX0 21 "RingHeap$Collector" "store" "LRingHeap$Store;", Cond.fieldLink RX0 25 "RingHeap$Collector" "counting" "LRingHeap$Counting;", Cond.methodLink RL 47 yX8_init, Cond.instanceMethod yX8_init]
def wsL_law0_r4 : List Cond := [Cond.code yX8_init cX8_init 2 none, Cond.methodLink RX8 7 objectInit, Cond.fieldLink RX8 13 "RingHeapModel" "typeFields" "[I", Cond.fieldLink RX8 17 "RingHeapModel" "typeWords" "[I", Cond.arrayClass .boolean, Cond.fieldLink RX8 20 "RingHeapModel" "typeWish" "[Z", Cond.fieldLink RX8 24 "RingHeapModel" "types" "[I", Cond.fieldLink RX8 27 "RingHeapModel" "counts" "[I", Cond.fieldLink RX8 30 "RingHeapModel" "colours" "[I", Cond.fieldLink RX8 33 "RingHeapModel" "addresses" "[I", Cond.fieldLink RX8 36 "RingHeapModel" "hands" "[I", Cond.fieldLink RX8 39 "RingHeapModel" "listedNow" "[Z", Cond.fieldLink RX8 42 "RingHeapModel" "wishTold" "[Z", Cond.fieldLink RX8 45 "RingHeapModel" "husks" "[Z", Cond.fieldLink RX8 48 "RingHeapModel" "fields" "[I", Cond.fieldLink RX8 51 "RingHeapModel" "owners" "[I", Cond.fieldLink RX8 54 "RingHeapModel" "list" "[I", Cond.fieldLink RX8 57 "RingHeapModel" "wishes" "[I", Cond.fieldLink RX8 60 "RingHeapModel" "weaks" "[I", Cond.fieldLink RX8 63 "RingHeapModel" "freedRow" "[I", Cond.fieldLink RX8 66 "RingHeapModel" "work" "[I", Cond.fieldLink RX8 69 "RingHeapModel" "workFields" "[I", Cond.fieldLink RX8 72 "RingHeapModel" "byAddress" "[I", Cond.fieldLink RX8 75 "RingHeapModel" "blackWork" "[I"]
def wsL_law0_r5 : List Cond := [Cond.methodLink RL 48 yL_type, Cond.static yL_type, Cond.initialized RL, Cond.codeWith yL_type cL_type 7 (some .int) [(0, 21, 24, 13), (0, 21, 28, 15)], Cond.classLink RL 13 "java/lang/IndexOutOfBoundsException", Cond.classLink RL 15 "java/lang/IllegalArgumentException", Cond.methodLink RL 7 yX7_type, Cond.instanceMethod yX7_type, Cond.selects RX7 yX7_type yX7_type, Cond.code yX7_type cX7_type 5 (some .boolean), Cond.classLink RX7 40 "java/lang/IndexOutOfBoundsException", Cond.initialized "java/lang/IndexOutOfBoundsException", Cond.classLink RX7 47 "java/lang/IllegalArgumentException", Cond.initialized "java/lang/IllegalArgumentException", Cond.instantiable RX2 4, Cond.initialized RX2, Cond.methodLink RX7 52 yX2_init, Cond.instanceMethod yX2_init, Cond.code yX2_init cX2_init 5 none, Cond.methodLink RX2 1 objectInit, Cond.fieldLink RX2 7 "RingHeap$Kind" "number" "I", Cond.fieldLink RX2 13 "RingHeap$Kind" "fields" "I", Cond.fieldLink RX2 16 "RingHeap$Kind" "size" "I", Cond.fieldLink RX2 19 "RingHeap$Kind" "wish" "Z"]
def wsL_law0_r6 : List Cond := [Cond.methodLink RL 53 yX8_type, Cond.instanceMethod yX8_type, Cond.selects RX8 yX8_type yX8_type, Cond.code yX8_type cX8_type 5 (some .boolean), Cond.fieldLink RX8 1 "RingHeapModel" "thrown" "I", Cond.methodLink RL 54 yX8_thrown, Cond.instanceMethod yX8_thrown, Cond.selects RX8 yX8_thrown yX8_thrown, Cond.code yX8_thrown cX8_thrown 1 (some .int), Cond.methodLink RL 58 yL_make, Cond.static yL_make, Cond.codeWith yL_make cL_make 4 (some .int) [(0, 9, 12, 13)], Cond.methodLink RL 17 yX7_make, Cond.instanceMethod yX7_make, Cond.selects RX7 yX7_make yX7_make, Cond.code yX7_make cX7_make 3 (some .int), Cond.methodLink RX7 55 yX4_hasRoomFor, Cond.instanceMethod yX4_hasRoomFor, Cond.selects RX4 yX4_hasRoomFor yX4_hasRoomFor, Cond.code yX4_hasRoomFor cX4_hasRoomFor 2 (some .boolean), Cond.fieldLink RX4 43 "RingHeap$Kind" "size" "I", Cond.methodLink RX4 39 yX4_leastFreeNumber, Cond.instanceMethod yX4_leastFreeNumber, Cond.selects RX4 yX4_leastFreeNumber yX4_leastFreeNumber]
def wsL_law0_r7 : List Cond := [Cond.code yX4_leastFreeNumber cX4_leastFreeNumber 2 (some .int), Cond.methodLink RX4 49 yX6_gapFor, Cond.instanceMethod yX6_gapFor, Cond.selects RX6 yX6_gapFor yX6_gapFor, Cond.code yX6_gapFor cX6_gapFor 4 (some .int), Cond.methodLink RX7 59 yX0_run, Cond.instanceMethod yX0_run, Cond.selects RX0 yX0_run yX0_run, Cond.code yX0_run cX0_run 2 (some .int), Cond.fieldLink RX0 29 "RingHeap$Store" "freedEver" "I", Cond.fieldLink RX0 35 "RingHeap$Collector" "collections" "I", Cond.methodLink RX0 38 yX0_markListed, Cond.instanceMethod yX0_markListed, Cond.selects RX0 yX0_markListed yX0_markListed, Cond.code yX0_markListed cX0_markListed 4 none, Cond.fieldLink RX0 53 "RingHeap$Counting" "list" "LRingHeap$Row;", Cond.fieldLink RX0 58 "RingHeap$Row" "length" "I", Cond.fieldLink RX0 65 "RingHeap$Thing" "husk" "Z", Cond.fieldLink RX0 71 "RingHeap$Thing" "inList" "Z", Cond.fieldLink RX0 78 "RingHeap$Thing" "colour" "I", Cond.methodLink RX0 61 yX3_item, Cond.instanceMethod yX3_item, Cond.selects RX3 yX3_item yX3_item, Cond.code yX3_item cX3_item 2 (some (.object "RingHeap$Thing"))]
def wsL_law0_r8 : List Cond := [Cond.fieldLink RX3 17 "RingHeap$Row" "length" "I", Cond.methodLink RX0 74 yX4_free, Cond.instanceMethod yX4_free, Cond.selects RX4 yX4_free yX4_free, Cond.code yX4_free cX4_free 3 none, Cond.fieldLink RX4 67 "RingHeap$Thing" "number" "I", Cond.fieldLink RX4 60 "RingHeap$Store" "thingsThere" "I", Cond.fieldLink RX4 70 "RingHeap$Store" "freedEver" "I", Cond.methodLink RX4 63 yX6_takeBack, Cond.instanceMethod yX6_takeBack, Cond.selects RX6 yX6_takeBack yX6_takeBack, Cond.code yX6_takeBack cX6_takeBack 4 none, Cond.fieldLink RX6 25 "RingHeap$Thing" "address" "I", Cond.fieldLink RX6 28 "RingHeap$Thing" "kind" "LRingHeap$Kind;", Cond.fieldLink RX6 32 "RingHeap$Kind" "size" "I", Cond.methodLink RX0 81 yX0_markFrom, Cond.instanceMethod yX0_markFrom, Cond.selects RX0 yX0_markFrom yX0_markFrom, Cond.code yX0_markFrom cX0_markFrom 8 none, Cond.fieldLink RX0 90 "RingHeap$Thing" "held" "[LRingHeap$Thing;", Cond.fieldLink RX0 98 "RingHeap$Thing" "count" "I", Cond.methodLink RX0 84 yX3_clear, Cond.instanceMethod yX3_clear, Cond.selects RX3 yX3_clear yX3_clear]
def wsL_law0_r9 : List Cond := [Cond.code yX3_clear cX3_clear 1 none, Cond.methodLink RX0 87 yX0_turnGray, Cond.instanceMethod yX0_turnGray, Cond.selects RX0 yX0_turnGray yX0_turnGray, Cond.code yX0_turnGray cX0_turnGray 2 none, Cond.fieldLink RX0 101 "RingHeap$Collector" "grayed" "I", Cond.methodLink RX0 94 yX5_isGreen, Cond.instanceMethod yX5_isGreen, Cond.selects RX5 yX5_isGreen yX5_isGreen, Cond.initialized RX5, Cond.code yX5_isGreen cX5_isGreen 1 (some .boolean), Cond.fieldLink RX5 34 "RingHeap$Thing" "colour" "I", Cond.methodLink RX0 104 yX3_append, Cond.instanceMethod yX3_append, Cond.selects RX3 yX3_append yX3_append, Cond.code yX3_append cX3_append 2 none, Cond.methodLink RX0 41 yX0_scanListed, Cond.instanceMethod yX0_scanListed, Cond.selects RX0 yX0_scanListed yX0_scanListed, Cond.code yX0_scanListed cX0_scanListed 4 none, Cond.methodLink RX0 107 yX0_scanFrom, Cond.instanceMethod yX0_scanFrom, Cond.selects RX0 yX0_scanFrom yX0_scanFrom, Cond.code yX0_scanFrom cX0_scanFrom 8 none]
def wsL_law0_r10 : List Cond := [Cond.methodLink RX0 110 yX0_judge, Cond.instanceMethod yX0_judge, Cond.selects RX0 yX0_judge yX0_judge, Cond.code yX0_judge cX0_judge 2 none, Cond.methodLink RX0 113 yX0_blackenFrom, Cond.instanceMethod yX0_blackenFrom, Cond.selects RX0 yX0_blackenFrom yX0_blackenFrom, Cond.code yX0_blackenFrom cX0_blackenFrom 8 none, Cond.methodLink RX0 116 yX0_turnBlack, Cond.instanceMethod yX0_turnBlack, Cond.selects RX0 yX0_turnBlack yX0_turnBlack, Cond.code yX0_turnBlack cX0_turnBlack 2 none, Cond.fieldLink RX0 119 "RingHeap$Collector" "blackened" "I", Cond.methodLink RX0 44 yX0_tellWishes, Cond.instanceMethod yX0_tellWishes, Cond.selects RX0 yX0_tellWishes yX0_tellWishes, Cond.code yX0_tellWishes cX0_tellWishes 3 none, Cond.fieldLink RX0 122 "RingHeap$Store" "words" "LRingHeap$Words;", Cond.fieldLink RX0 131 "RingHeap$Thing" "wishUntold" "Z", Cond.methodLink RX0 126 yX6_ownerFrom, Cond.instanceMethod yX6_ownerFrom, Cond.selects RX6 yX6_ownerFrom yX6_ownerFrom, Cond.code yX6_ownerFrom cX6_ownerFrom 3 (some (.object "RingHeap$Thing")), Cond.methodLink RX6 21 yX6_owner]
def wsL_law0_r11 : List Cond := [Cond.instanceMethod yX6_owner, Cond.selects RX6 yX6_owner yX6_owner, Cond.code yX6_owner cX6_owner 2 (some (.object "RingHeap$Thing")), Cond.methodLink RX0 134 yX1_tellWish, Cond.instanceMethod yX1_tellWish, Cond.selects RX1 yX1_tellWish yX1_tellWish, Cond.code yX1_tellWish cX1_tellWish 2 none, Cond.fieldLink RX1 56 "RingHeap$Thing" "wishUntold" "Z", Cond.fieldLink RX1 28 "RingHeap$Thing" "count" "I", Cond.methodLink RX1 60 yX3_append, Cond.methodLink RX0 47 yX0_emptyList, Cond.instanceMethod yX0_emptyList, Cond.selects RX0 yX0_emptyList yX0_emptyList, Cond.code yX0_emptyList cX0_emptyList 4 none, Cond.methodLink RX0 50 yX0_freeWhite, Cond.instanceMethod yX0_freeWhite, Cond.selects RX0 yX0_freeWhite yX0_freeWhite, Cond.code yX0_freeWhite cX0_freeWhite 7 none, Cond.methodLink RX0 137 yX1_less, Cond.instanceMethod yX1_less, Cond.selects RX1 yX1_less yX1_less, Cond.code yX1_less cX1_less 6 (some .int), Cond.fieldLink RX1 37 "RingHeap$Store" "freedEver" "I", Cond.methodLink RX1 42 yX1_lower]
def wsL_law0_r12 : List Cond := [Cond.instanceMethod yX1_lower, Cond.selects RX1 yX1_lower yX1_lower, Cond.code yX1_lower cX1_lower 2 none, Cond.methodLink RX1 63 yX1_suspect, Cond.instanceMethod yX1_suspect, Cond.selects RX1 yX1_suspect yX1_suspect, Cond.code yX1_suspect cX1_suspect 2 none, Cond.fieldLink RX1 73 "RingHeap$Thing" "colour" "I", Cond.fieldLink RX1 76 "RingHeap$Thing" "inList" "Z", Cond.methodLink RX1 69 yX5_isGreen, Cond.methodLink RX1 66 yX1_tellWish, Cond.methodLink RX1 34 yX5_blackenUnlessGreen, Cond.instanceMethod yX5_blackenUnlessGreen, Cond.selects RX5 yX5_blackenUnlessGreen yX5_blackenUnlessGreen, Cond.code yX5_blackenUnlessGreen cX5_blackenUnlessGreen 1 none, Cond.methodLink RX5 44 yX5_isGreen, Cond.methodLink RX1 46 yX3_last, Cond.instanceMethod yX3_last, Cond.selects RX3 yX3_last yX3_last, Cond.code yX3_last cX3_last 1 (some (.object "RingHeap$Thing")), Cond.methodLink RX3 21 yX3_item, Cond.methodLink RX1 50 yX5_giveUpNext, Cond.instanceMethod yX5_giveUpNext, Cond.selects RX5 yX5_giveUpNext yX5_giveUpNext]
def wsL_law0_r13 : List Cond := [Cond.code yX5_giveUpNext cX5_giveUpNext 2 (some (.object "RingHeap$Thing")), Cond.fieldLink RX5 48 "RingHeap$Thing" "nextField" "I", Cond.fieldLink RX5 25 "RingHeap$Thing" "held" "[LRingHeap$Thing;", Cond.methodLink RX1 53 yX1_finish, Cond.instanceMethod yX1_finish, Cond.selects RX1 yX1_finish yX1_finish, Cond.code yX1_finish cX1_finish 2 none, Cond.fieldLink RX1 82 "RingHeap$Thing" "husk" "Z", Cond.methodLink RX1 79 yX3_removeLast, Cond.instanceMethod yX3_removeLast, Cond.selects RX3 yX3_removeLast yX3_removeLast, Cond.code yX3_removeLast cX3_removeLast 1 none, Cond.methodLink RX1 85 yX4_free, Cond.methodLink RX7 63 yX7_makeRoomByMoving, Cond.instanceMethod yX7_makeRoomByMoving, Cond.selects RX7 yX7_makeRoomByMoving yX7_makeRoomByMoving, Cond.code yX7_makeRoomByMoving cX7_makeRoomByMoving 2 (some .boolean), Cond.fieldLink RX7 125 "RingHeap$Store" "words" "LRingHeap$Words;", Cond.fieldLink RX7 154 "RingHeap$Words" "free" "I", Cond.fieldLink RX7 183 "RingHeap$Kind" "size" "I", Cond.fieldLink RX7 122 "RingHeap" "moves" "I", Cond.methodLink RX7 180 yX4_leastFreeNumber, Cond.methodLink RX7 129 yX6_moveAllDown, Cond.instanceMethod yX6_moveAllDown]
def wsL_law0_r14 : List Cond := [Cond.selects RX6 yX6_moveAllDown yX6_moveAllDown, Cond.code yX6_moveAllDown cX6_moveAllDown 5 (some .int), Cond.methodLink RX6 37 yX6_ownerFrom, Cond.methodLink RX6 40 yX6_takeBack, Cond.methodLink RX6 44 yX6_give, Cond.instanceMethod yX6_give, Cond.selects RX6 yX6_give yX6_give, Cond.code yX6_give cX6_give 5 none, Cond.methodLink RX7 66 yX4_place, Cond.instanceMethod yX4_place, Cond.selects RX4 yX4_place yX4_place, Cond.code yX4_place cX4_place 5 (some .int), Cond.instantiable RX5 11, Cond.methodLink RX4 53 yX5_init, Cond.instanceMethod yX5_init, Cond.code yX5_init cX5_init 3 none, Cond.methodLink RX5 3 objectInit, Cond.fieldLink RX5 9 "RingHeap$Thing" "count" "I", Cond.fieldLink RX5 15 "RingHeap$Thing" "hands" "I", Cond.fieldLink RX5 18 "RingHeap$Thing" "number" "I", Cond.fieldLink RX5 21 "RingHeap$Thing" "kind" "LRingHeap$Kind;", Cond.classLink RX5 10 RX5, Cond.fieldLink RX5 29 "RingHeap$Kind" "fields" "I", Cond.fieldLink RX5 37 "RingHeap$Kind" "wish" "Z"]
def wsL_law0_r15 : List Cond := [Cond.fieldLink RX5 41 "RingHeap$Thing" "wishUntold" "Z", Cond.methodLink RX4 56 yX6_give, Cond.methodLink RL 61 yX8_make, Cond.instanceMethod yX8_make, Cond.selects RX8 yX8_make yX8_make, Cond.code yX8_make cX8_make 6 (some .int), Cond.methodLink RX8 157 yX8_place, Cond.instanceMethod yX8_place, Cond.selects RX8 yX8_place yX8_place, Cond.code yX8_place cX8_place 4 (some .int), Cond.methodLink RX8 160 yX8_number, Cond.instanceMethod yX8_number, Cond.selects RX8 yX8_number yX8_number, Cond.code yX8_number cX8_number 2 (some .int), Cond.methodLink RX8 164 yX8_collect, Cond.instanceMethod yX8_collect, Cond.selects RX8 yX8_collect yX8_collect, Cond.code yX8_collect cX8_collect 4 (some .int), Cond.fieldLink RX8 82 "RingHeapModel" "freedEver" "I", Cond.fieldLink RX8 139 "RingHeapModel" "collections" "I", Cond.fieldLink RX8 88 "RingHeapModel" "listCount" "I", Cond.fieldLink RX8 130 "RingHeapModel" "byAddressCount" "I", Cond.methodLink RX8 142 yX8_mark, Cond.instanceMethod yX8_mark]
def wsL_law0_r16 : List Cond := [Cond.selects RX8 yX8_mark yX8_mark, Cond.code yX8_mark cX8_mark 4 none, Cond.methodLink RX8 112 yX8_free, Cond.instanceMethod yX8_free, Cond.selects RX8 yX8_free yX8_free, Cond.code yX8_free cX8_free 3 none, Cond.methodLink RX8 133 yX8_gray, Cond.instanceMethod yX8_gray, Cond.selects RX8 yX8_gray yX8_gray, Cond.code yX8_gray cX8_gray 5 none, Cond.fieldLink RX8 105 "RingHeapModel" "workCount" "I", Cond.methodLink RX8 115 yX8_grayOne, Cond.instanceMethod yX8_grayOne, Cond.selects RX8 yX8_grayOne yX8_grayOne, Cond.code yX8_grayOne cX8_grayOne 2 none, Cond.fieldLink RX8 118 "RingHeapModel" "grayed" "I", Cond.methodLink RX8 108 yX8_fieldsOf, Cond.instanceMethod yX8_fieldsOf, Cond.selects RX8 yX8_fieldsOf yX8_fieldsOf, Cond.code yX8_fieldsOf cX8_fieldsOf 2 (some .int), Cond.methodLink RX8 145 yX8_scan, Cond.instanceMethod yX8_scan, Cond.selects RX8 yX8_scan yX8_scan, Cond.code yX8_scan cX8_scan 5 none]
def wsL_law0_r17 : List Cond := [Cond.methodLink RX8 124 yX8_scanOne, Cond.instanceMethod yX8_scanOne, Cond.selects RX8 yX8_scanOne yX8_scanOne, Cond.code yX8_scanOne cX8_scanOne 2 none, Cond.methodLink RX8 127 yX8_blacken, Cond.instanceMethod yX8_blacken, Cond.selects RX8 yX8_blacken yX8_blacken, Cond.code yX8_blacken cX8_blacken 6 none, Cond.fieldLink RX8 121 "RingHeapModel" "blackened" "I", Cond.methodLink RX8 98 yX8_turn, Cond.instanceMethod yX8_turn, Cond.selects RX8 yX8_turn yX8_turn, Cond.code yX8_turn cX8_turn 3 none, Cond.methodLink RX8 148 yX8_findByAddress, Cond.instanceMethod yX8_findByAddress, Cond.selects RX8 yX8_findByAddress yX8_findByAddress, Cond.code yX8_findByAddress cX8_findByAddress 3 none, Cond.methodLink RX8 91 yX8_hasWish, Cond.instanceMethod yX8_hasWish, Cond.selects RX8 yX8_hasWish yX8_hasWish, Cond.code yX8_hasWish cX8_hasWish 2 (some .boolean), Cond.methodLink RX8 94 yX8_comesToWishes, Cond.instanceMethod yX8_comesToWishes, Cond.selects RX8 yX8_comesToWishes yX8_comesToWishes]
def wsL_law0_r18 : List Cond := [Cond.code yX8_comesToWishes cX8_comesToWishes 2 none, Cond.fieldLink RX8 85 "RingHeapModel" "wishCount" "I", Cond.methodLink RX8 151 yX8_gather, Cond.instanceMethod yX8_gather, Cond.selects RX8 yX8_gather yX8_gather, Cond.code yX8_gather cX8_gather 5 none, Cond.methodLink RX8 78 yX8_isThere, Cond.instanceMethod yX8_isThere, Cond.selects RX8 yX8_isThere yX8_isThere, Cond.code yX8_isThere cX8_isThere 2 (some .boolean), Cond.methodLink RX8 136 yX8_less, Cond.instanceMethod yX8_less, Cond.selects RX8 yX8_less yX8_less, Cond.code yX8_less cX8_less 6 none, Cond.methodLink RX8 102 yX8_isLetGo, Cond.instanceMethod yX8_isLetGo, Cond.selects RX8 yX8_isLetGo yX8_isLetGo, Cond.code yX8_isLetGo cX8_isLetGo 2 (some .boolean), Cond.methodLink RX8 167 yX8_freeWords, Cond.instanceMethod yX8_freeWords, Cond.selects RX8 yX8_freeWords yX8_freeWords, Cond.code yX8_freeWords cX8_freeWords 3 (some .int), Cond.methodLink RX8 170 yX8_pack, Cond.instanceMethod yX8_pack]
def wsL_law0_r19 : List Cond := [Cond.selects RX8 yX8_pack yX8_pack, Cond.code yX8_pack cX8_pack 6 (some .int), Cond.fieldLink RX8 154 "RingHeapModel" "moves" "I", Cond.methodLink RL 62 yX7_hold, Cond.instanceMethod yX7_hold, Cond.selects RX7 yX7_hold yX7_hold, Cond.code yX7_hold cX7_hold 3 (some .int), Cond.fieldLink RX7 74 "RingHeap$Thing" "hands" "I", Cond.fieldLink RX7 84 "RingHeap$Thing" "count" "I", Cond.methodLink RX7 70 yX4_living, Cond.instanceMethod yX4_living, Cond.selects RX4 yX4_living yX4_living, Cond.code yX4_living cX4_living 3 (some (.object "RingHeap$Thing")), Cond.fieldLink RX4 35 "RingHeap$Thing" "husk" "Z", Cond.methodLink RX4 31 yX4_thing, Cond.instanceMethod yX4_thing, Cond.selects RX4 yX4_thing yX4_thing, Cond.code yX4_thing cX4_thing 2 (some (.object "RingHeap$Thing")), Cond.methodLink RX7 80 yX1_more, Cond.instanceMethod yX1_more, Cond.selects RX1 yX1_more yX1_more, Cond.code yX1_more cX1_more 2 none, Cond.methodLink RL 65 yX8_hold, Cond.instanceMethod yX8_hold]
def wsL_law0_r20 : List Cond := [Cond.selects RX8 yX8_hold yX8_hold, Cond.code yX8_hold cX8_hold 2 (some .int), Cond.methodLink RX8 173 yX8_isWhole, Cond.instanceMethod yX8_isWhole, Cond.selects RX8 yX8_isWhole yX8_isWhole, Cond.code yX8_isWhole cX8_isWhole 2 (some .boolean), Cond.methodLink RX8 176 yX8_more, Cond.instanceMethod yX8_more, Cond.selects RX8 yX8_more yX8_more, Cond.code yX8_more cX8_more 2 none, Cond.methodLink RL 66 yX7_loose, Cond.instanceMethod yX7_loose, Cond.selects RX7 yX7_loose yX7_loose, Cond.code yX7_loose cX7_loose 3 (some .int), Cond.methodLink RX7 87 yX1_less, Cond.methodLink RL 69 yX8_loose, Cond.instanceMethod yX8_loose, Cond.selects RX8 yX8_loose yX8_loose, Cond.code yX8_loose cX8_loose 3 (some .int), Cond.methodLink RL 70 yL_set, Cond.static yL_set, Cond.codeWith yL_set cL_set 6 (some .int) [(0, 12, 15, 13)], Cond.methodLink RL 21 yX7_set, Cond.instanceMethod yX7_set]
def wsL_law0_r21 : List Cond := [Cond.selects RX7 yX7_set yX7_set, Cond.code yX7_set cX7_set 7 (some .int), Cond.fieldLink RX7 97 "RingHeap$Thing" "held" "[LRingHeap$Thing;", Cond.methodLink RX7 91 yX5_hasField, Cond.instanceMethod yX5_hasField, Cond.selects RX5 yX5_hasField yX5_hasField, Cond.code yX5_hasField cX5_hasField 2 (some .boolean), Cond.methodLink RL 73 yX8_set, Cond.instanceMethod yX8_set, Cond.selects RX8 yX8_set yX8_set, Cond.code yX8_set cX8_set 6 (some .int), Cond.methodLink RL 74 yL_get, Cond.static yL_get, Cond.codeWith yL_get cL_get 5 (some .int) [(0, 10, 13, 13)], Cond.methodLink RL 25 yX7_get, Cond.instanceMethod yX7_get, Cond.selects RX7 yX7_get yX7_get, Cond.code yX7_get cX7_get 4 (some .int), Cond.methodLink RX7 101 yX4_thing, Cond.methodLink RX7 106 yX7_numberOf, Cond.static yX7_numberOf, Cond.code yX7_numberOf cX7_numberOf 1 (some .int), Cond.fieldLink RX7 119 "RingHeap$Thing" "number" "I", Cond.methodLink RL 77 yX8_get]
def wsL_law0_r22 : List Cond := [Cond.instanceMethod yX8_get, Cond.selects RX8 yX8_get yX8_get, Cond.code yX8_get cX8_get 3 (some .int), Cond.methodLink RL 78 yX7_wish, Cond.instanceMethod yX7_wish, Cond.selects RX7 yX7_wish yX7_wish, Cond.code yX7_wish cX7_wish 2 (some .int), Cond.fieldLink RX7 109 "RingHeap$Counting" "wishes" "LRingHeap$Row;", Cond.methodLink RX7 113 yX3_takeFirst, Cond.instanceMethod yX3_takeFirst, Cond.selects RX3 yX3_takeFirst yX3_takeFirst, Cond.code yX3_takeFirst cX3_takeFirst 3 (some (.object "RingHeap$Thing")), Cond.methodLink RL 81 yX8_wish, Cond.instanceMethod yX8_wish, Cond.selects RX8 yX8_wish yX8_wish, Cond.code yX8_wish cX8_wish 3 (some .int), Cond.methodLink RL 82 yX7_collect, Cond.instanceMethod yX7_collect, Cond.selects RX7 yX7_collect yX7_collect, Cond.code yX7_collect cX7_collect 1 (some .int), Cond.methodLink RL 85 yX8_collect, Cond.methodLink RL 86 yX7_pack, Cond.instanceMethod yX7_pack, Cond.selects RX7 yX7_pack yX7_pack]
def wsL_law0_r23 : List Cond := [Cond.code yX7_pack cX7_pack 1 (some .int), Cond.methodLink RL 89 yX8_pack, Cond.methodLink RL 90 yL_weak, Cond.static yL_weak, Cond.codeWith yL_weak cL_weak 5 (some .int) [(0, 10, 13, 13)], Cond.methodLink RL 29 yX7_weak, Cond.instanceMethod yX7_weak, Cond.selects RX7 yX7_weak yX7_weak, Cond.code yX7_weak cX7_weak 5 (some .int), Cond.fieldLink RX7 136 "RingHeap$Store" "weaks" "[LRingHeap$Thing;", Cond.methodLink RL 92 yX8_weak, Cond.instanceMethod yX8_weak, Cond.selects RX8 yX8_weak yX8_weak, Cond.code yX8_weak cX8_weak 4 (some .int), Cond.methodLink RL 93 yL_seen, Cond.static yL_seen, Cond.codeWith yL_seen cL_seen 4 (some .int) [(0, 9, 12, 13)], Cond.methodLink RL 32 yX7_seen, Cond.instanceMethod yX7_seen, Cond.selects RX7 yX7_seen yX7_seen, Cond.code yX7_seen cX7_seen 2 (some .int), Cond.methodLink RL 95 yX8_seen, Cond.instanceMethod yX8_seen, Cond.selects RX8 yX8_seen yX8_seen]
def wsL_law0_r24 : List Cond := [Cond.code yX8_seen cX8_seen 2 (some .int), Cond.methodLink RL 96 yL_object, Cond.static yL_object, Cond.codeWith yL_object cL_object 5 (some .int) [(0, 10, 13, 13)], Cond.methodLink RL 35 yX7_object, Cond.instanceMethod yX7_object, Cond.selects RX7 yX7_object yX7_object, Cond.code yX7_object cX7_object 4 (some .int), Cond.methodLink RX7 141 yX5_tell, Cond.instanceMethod yX5_tell, Cond.selects RX5 yX5_tell yX5_tell, Cond.code yX5_tell cX5_tell 2 (some .int), Cond.fieldLink RX5 51 "RingHeap$Kind" "number" "I", Cond.fieldLink RX5 52 "RingHeap$Thing" "address" "I", Cond.fieldLink RX5 55 "RingHeap$Thing" "inList" "Z", Cond.fieldLink RX5 58 "RingHeap$Thing" "husk" "Z", Cond.methodLink RL 98 yX8_object, Cond.instanceMethod yX8_object, Cond.selects RX8 yX8_object yX8_object, Cond.code yX8_object cX8_object 3 (some .int), Cond.methodLink RL 99 yL_count, Cond.static yL_count, Cond.codeWith yL_count cL_count 4 (some .int) [(0, 9, 12, 13)], Cond.methodLink RL 38 yX7_count]
def wsL_law0_r25 : List Cond := [Cond.instanceMethod yX7_count, Cond.selects RX7 yX7_count yX7_count, Cond.code yX7_count cX7_count 2 (some .int), Cond.fieldLink RX7 145 "RingHeap$Store" "thingsThere" "I", Cond.fieldLink RX7 148 "RingHeap$Counting" "list" "LRingHeap$Row;", Cond.fieldLink RX7 151 "RingHeap$Row" "length" "I", Cond.fieldLink RX7 157 "RingHeap$Store" "freedEver" "I", Cond.fieldLink RX7 160 "RingHeap$Collector" "collections" "I", Cond.fieldLink RX7 163 "RingHeap$Collector" "grayed" "I", Cond.fieldLink RX7 166 "RingHeap$Collector" "blackened" "I", Cond.methodLink RL 101 yX8_count, Cond.instanceMethod yX8_count, Cond.selects RX8 yX8_count yX8_count, Cond.code yX8_count cX8_count 2 (some .int), Cond.methodLink RL 102 yX7_listed, Cond.instanceMethod yX7_listed, Cond.selects RX7 yX7_listed yX7_listed, Cond.code yX7_listed cX7_listed 2 (some .int), Cond.methodLink RX7 169 yX3_item, Cond.methodLink RL 105 yX8_listed, Cond.instanceMethod yX8_listed, Cond.selects RX8 yX8_listed yX8_listed, Cond.code yX8_listed cX8_listed 2 (some .int), Cond.methodLink RL 106 yX7_freed]
def wsL_law0_r26 : List Cond := [Cond.instanceMethod yX7_freed, Cond.selects RX7 yX7_freed yX7_freed, Cond.code yX7_freed cX7_freed 2 (some .int), Cond.methodLink RX7 172 yX4_freedNumber, Cond.instanceMethod yX4_freedNumber, Cond.selects RX4 yX4_freedNumber yX4_freedNumber, Cond.code yX4_freedNumber cX4_freedNumber 2 (some .int), Cond.methodLink RL 109 yX8_freed, Cond.instanceMethod yX8_freed, Cond.selects RX8 yX8_freed yX8_freed, Cond.code yX8_freed cX8_freed 2 (some .int), Cond.methodLink RL 110 yL_at, Cond.static yL_at, Cond.codeWith yL_at cL_at 4 (some .int) [(0, 9, 12, 13)], Cond.methodLink RL 41 yX7_at, Cond.instanceMethod yX7_at, Cond.selects RX7 yX7_at yX7_at, Cond.code yX7_at cX7_at 2 (some .int), Cond.methodLink RX7 177 yX6_owner, Cond.methodLink RL 112 yX8_at, Cond.instanceMethod yX8_at, Cond.selects RX8 yX8_at yX8_at, Cond.code yX8_at cX8_at 2 (some .int)]
def wsL_law0 : List Cond := (wsL_law0_r1 ++ (wsL_law0_r2 ++ (wsL_law0_r3 ++ (wsL_law0_r4 ++ (wsL_law0_r5 ++ (wsL_law0_r6 ++ (wsL_law0_r7 ++ (wsL_law0_r8 ++ (wsL_law0_r9 ++ (wsL_law0_r10 ++ (wsL_law0_r11 ++ (wsL_law0_r12 ++ (wsL_law0_r13 ++ (wsL_law0_r14 ++ (wsL_law0_r15 ++ (wsL_law0_r16 ++ (wsL_law0_r17 ++ (wsL_law0_r18 ++ (wsL_law0_r19 ++ (wsL_law0_r20 ++ (wsL_law0_r21 ++ (wsL_law0_r22 ++ (wsL_law0_r23 ++ (wsL_law0_r24 ++ (wsL_law0_r25 ++ wsL_law0_r26))))))))))))))))))))))))) ++ wsX70 ++ wsX80 ++ wsX40 ++ wsX10 ++ wsX00 ++ wsX60 ++ wsX30 ++ wsX20 ++ wsX50 ++ ([] : List Cond)
def wsL_law : List Cond := wsL_law0 ++ (vx_atS RX7 44 "java/lang/IndexOutOfBoundsException" ["java/lang/RuntimeException", "java/lang/Exception"]).filter goodWord ++ (vx_atS RX7 51 "java/lang/IllegalArgumentException" ["java/lang/RuntimeException", "java/lang/Exception"]).filter goodWord
abbrev vwCl : List vw_C := [(RX0, TX0, 7), (RX1, TX1, 4), (RX2, TX2, 4), (RX3, TX3, 2), (RX4, TX4, 6), (RX5, TX5, 11), (RX6, TX6, 2), (RX7, TX7, 5), (RX8, TX8, 31)]
end
section
/-! the memory of both sides: ints I c k and references R c k, by cell numbers; which number is what stands in tg -/
abbrev Mm : Type := (Nat → Nat → Int32) × (Nat → Nat → Option Nat)
def sI (u : Mm) (c k : Nat) (v : Int32) : Mm := (fun a b => if a = c ∧ b = k then v else u.1 a b, u.2)
def sR (u : Mm) (c k : Nat) (v : Option Nat) : Mm := (u.1, fun a b => if a = c ∧ b = k then v else u.2 a b)
def tgl : List Nat := [8, 9, 9, 10, 9, 9, 9, 9, 9, 10, 10, 10, 9, 9, 9, 99, 9, 99, 9, 9, 99, 99, 99, 99, 99, 9, 9, 99, 9, 99, 9, 99, 99, 99, 99, 99, 99, 99, 99, 99, 7, 11, 4, 12, 9, 12, 6, 12, 1, 3, 12, 3, 12, 3, 12, 0, 3, 12, 3, 12, 2, 2, 2, 2, 2, 2, 2, 2, 2, 2]
def tg (c : Nat) : Nat := if c < 70 then tgl.getD c 99 else if c % 2 = 0 then 5 else 12
def lnl : List Nat := [0, 10, 10, 10, 80, 80, 80, 80, 80, 80, 80, 80, 480, 400, 80, 0, 80, 0, 20, 100, 0, 0, 0, 0, 0, 80, 80, 0, 80, 0, 80, 0, 0, 0, 0, 0, 0, 0, 0, 0, 0, 10, 0, 80, 100, 20, 0, 400, 0, 0, 80, 0, 80, 0, 80, 0, 0, 80, 0, 80, 0, 0, 0, 0, 0, 0, 0, 0, 0, 0]
def ln (c : Nat) : Nat := if c < 70 then lnl.getD c 0 else 6
def rs (t k : Nat) : Nat := match t with
  | 0 => [5, 2, 4, 4].getD k 0
  | 1 => [5, 4, 4, 4].getD k 0
  | 3 => [13].getD k 0
  | 4 => [13, 10, 13, 7].getD k 0
  | 5 => [0, 3, 13].getD k 0
  | 6 => [13].getD k 0
  | 7 => [12, 5, 2, 1].getD k 0
  | 8 => [0, 10, 10, 11, 10, 10, 10, 10, 10, 11, 11, 11, 10, 10, 10, 0, 10, 0, 10, 10, 0, 0, 0, 0, 0, 10, 10, 0, 10, 0, 10].getD k 0
  | 11 => 3
  | 12 => 6
  | _ => 0
def cst (c k : Nat) : Option Nat := match tg c with
  | 0 => [42, 48, 56, 58][k]?
  | 1 => [42, 49, 51, 53][k]?
  | 3 => if k = 0 then some (c + 1) else none
  | 4 => [43, 44, 45, 46][k]?
  | 5 => if k = 2 then some (c + 1) else none
  | 6 => if k = 0 then some 47 else none
  | 7 => [41, 42, 48, 55][k]?
  | 8 => if rs 8 k = 0 then none else some k
  | _ => none
def nf (t : Nat) : Nat := match vwCl[t]? with
  | some q => q.2.2
  | none => 0
def vn (L : List Nat) (t a : Nat) : Prop := a ∈ L ∧ tg a = t
def vr (L : List Nat) (t : Nat) (r : Option Nat) : Prop := ∀ a, r = some a → vn L t a
def Ok (L : List Nat) (u : Mm) : Prop := ∀ c ∈ L, ∀ k, (∀ d, cst c k = some d → u.2 c k = some d) ∧ (rs (tg c) k ≠ 0 → ∀ d, u.2 c k = some d → d ∈ L ∧ tg d + 1 = rs (tg c) k)
def fso (ad : Nat → Nat) (u : Mm) (t c : Nat) : List Value := (List.range (nf t)).map (fun k => if rs t k = 0 then .int (u.1 c k) else va_re ad (u.2 c k))
def en (cy : Nat → ClassId) (ad : Nat → Nat) (u : Mm) (c : Nat) : va_E :=
  if tg c = 9 then .inl (cy 0, ln c, .inl (u.1 c))
  else if tg c = 10 then .inl (cy 1, ln c, .inl (u.1 c))
  else if tg c = 11 then .inl (cy 2, ln c, .inr (.inr (.inr (.inr (fun k => (u.2 c k).map ad)))))
  else if tg c = 12 then .inl (cy 3, ln c, .inr (.inr (.inr (.inr (fun k => (u.2 c k).map ad)))))
  else .inr (tg c, fso ad u (tg c) c)
def wl (cy : Nat → ClassId) (L : List Nat) (ad : Nat → Nat) (u : Mm) : va_W := L.map (fun c => (ad c, en cy ad u c))
def tyv (cy : Nat → ClassId) : List (ClassId × FieldType) := [(cy 0, .int), (cy 1, .boolean), (cy 2, .object RX2), (cy 3, .object RX5)]
def Wd (D : va_G) (cy : Nat → ClassId) (L : List Nat) (ad : Nat → Nat) (A : Nat → Prop) (H0 : Heap) (u : Mm) (H : Heap) (locs : List Loc) : Prop :=
  va_P D vwCl (wl cy L ad u) H ∧ va_D A (wl cy L ad u) ∧ va_S A H0 H locs ∧ Ok L u
def Hs (D : va_G) (cy : Nat → ClassId) (L : List Nat) (ad : Nat → Nat) (u : Mm) (A : Nat → Prop) (U : State) : Prop :=
  va_P D vwCl (wl cy L ad u) U.heap ∧ va_K D vwCl (tyv cy) U ∧ va_D A (wl cy L ad u) ∧ Ok L u
/-! the words of the printed functions -/
def pt {α β : Type} (x : α) (k : α → β) : β := k x
def ck {β : Type} (b : Bool) (x : Option β) : Option β := match b with
  | true => x
  | false => none
def nl {β : Type} (r : Option Nat) (x : Option β) (y : Nat → Option β) : Option β := match r with
  | none => x
  | some t => y t
def bd {α β γ : Type} (r : Option (α × β)) (k : α → β → Option γ) : Option γ := match r with
  | none => none
  | some (a, b) => k a b
def bv {β γ : Type} (r : Option β) (k : β → Option γ) : Option γ := match r with
  | none => none
  | some b => k b
def bI (i : Int32) (n : Nat) : Bool := decide (0 ≤ i.toInt) && decide (i.toInt < n)
def ix (i : Int32) : Nat := i.toNatClampNeg
theorem bI_in {i : Int32} {n : Nat} (h : bI i n = true) : vp_in i n := by
  rw [vp_in_iff]
  simp only [bI, Bool.and_eq_true, decide_eq_true_eq] at h
  exact h
theorem ck_e {β : Type} {b : Bool} {x : Option β} {o : β} (h : ck b x = some o) : b = true ∧ x = some o := by
  cases b with
  | true => exact ⟨rfl, h⟩
  | false => cases h
theorem bd_e {α β γ : Type} {r : Option (α × β)} {k : α → β → Option γ} {o : γ} (h : bd r k = some o) : ∃ a b, r = some (a, b) ∧ k a b = some o := by
  cases r with
  | none => cases h
  | some q => exact ⟨q.1, q.2, rfl, h⟩
theorem bv_e {β γ : Type} {r : Option β} {k : β → Option γ} {o : γ} (h : bv r k = some o) : ∃ b, r = some b ∧ k b = some o := by
  cases r with
  | none => cases h
  | some q => exact ⟨q, rfl, h⟩
/-! numbers of cells -/
theorem tg_ge {c : Nat} (h : 70 ≤ c) : tg c = if c % 2 = 0 then 5 else 12 := by
  unfold tg
  rw [if_neg (by omega)]
theorem tg_lt : ∀ c, c < 70 → tg c = tgl.getD c 99 := fun c h => by
  unfold tg
  rw [if_pos h]
theorem tg5 {c : Nat} (h : tg c = 5) : 70 ≤ c ∧ c % 2 = 0 := by
  by_cases hc : c < 70
  · have h9 : ∀ c, c < 70 → tgl.getD c 99 ≠ 5 := by decide +kernel
    rw [tg_lt c hc] at h
    exact absurd h (h9 c hc)
  · refine ⟨by omega, ?_⟩
    rw [tg_ge (by omega)] at h
    by_cases h2 : c % 2 = 0
    · exact h2
    · rw [if_neg h2] at h
      cases h
theorem tg5s {c : Nat} (h : tg c = 5) : tg (c + 1) = 12 := by
  have h1 := tg5 h
  rw [tg_ge (by omega), if_neg (by omega)]
theorem ln5s {c : Nat} (h : tg c = 5) : ln (c + 1) = 6 := by
  have h1 := tg5 h
  unfold ln
  rw [if_neg (by omega)]
theorem cst5 {c : Nat} (h : tg c = 5) : cst c 2 = some (c + 1) := by
  unfold cst
  rw [h]
  rfl
theorem tg3 {c : Nat} (h : tg c = 3) : c = 49 ∨ c = 51 ∨ c = 53 ∨ c = 56 ∨ c = 58 := by
  by_cases hc : c < 70
  · have h9 : ∀ c, c < 70 → tgl.getD c 99 = 3 → c = 49 ∨ c = 51 ∨ c = 53 ∨ c = 56 ∨ c = 58 := by decide +kernel
    rw [tg_lt c hc] at h
    exact h9 c hc h
  · rw [tg_ge (by omega)] at h
    split at h <;> cases h
theorem tg3s {c : Nat} (h : tg c = 3) : tg (c + 1) = 12 := by
  rcases tg3 h with rfl | rfl | rfl | rfl | rfl <;> rfl
theorem ln3s {c : Nat} (h : tg c = 3) : ln (c + 1) = 80 := by
  rcases tg3 h with rfl | rfl | rfl | rfl | rfl <;> rfl
theorem cst3 {c : Nat} (h : tg c = 3) : cst c 0 = some (c + 1) := by
  unfold cst
  rw [h]
  rfl
/-! worlds -/
section WLD
variable {D : va_G} {cy : Nat → ClassId} {L : List Nat} {ad : Nat → Nat} {A : Nat → Prop} {u u' : Mm}
theorem wl_at {i : Nat} {q : Nat × va_E} (h : (wl cy L ad u)[i]? = some q) : ∃ c, L[i]? = some c ∧ q = (ad c, en cy ad u c) := by
  simp only [wl, List.getElem?_map, Option.map_eq_some_iff] at h
  obtain ⟨c, h1, h2⟩ := h
  exact ⟨c, h1, h2.symm⟩
theorem wl_of {i c : Nat} (h : L[i]? = some c) : (wl cy L ad u)[i]? = some (ad c, en cy ad u c) := by
  simp [wl, h]
theorem wl_D (h : va_D A (wl cy L ad u)) : va_D A (wl cy L ad u') := by
  refine ⟨fun i j p q hp hq hpq => ?_, fun k q hq => ?_⟩
  · obtain ⟨c, h1, rfl⟩ := wl_at hp
    obtain ⟨d, h2, rfl⟩ := wl_at hq
    exact h.1 i j _ _ (wl_of h1) (wl_of h2) hpq
  · obtain ⟨c, h1, rfl⟩ := wl_at hq
    exact h.2 k (ad c, en cy ad u c) (wl_of h1)
theorem wl_inj (h : va_D A (wl cy L ad u)) {c d : Nat} (hc : c ∈ L) (hd : d ∈ L) (he : ad c = ad d) : c = d := by
  obtain ⟨i, hi⟩ := List.getElem?_of_mem hc
  obtain ⟨j, hj⟩ := List.getElem?_of_mem hd
  have hij := h.1 i j _ _ (wl_of hi) (wl_of hj) he
  subst hij
  exact Option.some.inj (hi.symm.trans hj)
theorem wl_set {i c : Nat} {e : va_E} (hD : va_D A (wl cy L ad u)) (hc : L[i]? = some c) (he : e = en cy ad u' c) (hne : ∀ d, d ≠ c → en cy ad u' d = en cy ad u d) : (wl cy L ad u).set i (ad c, e) = wl cy L ad u' := by
  subst he
  have hl : i < (wl cy L ad u).length := (List.getElem?_eq_some_iff.mp (wl_of (cy := cy) (ad := ad) (u := u) hc)).1
  apply List.ext_getElem?
  intro j
  by_cases hj : j = i
  · subst hj
    rw [List.getElem?_set_self hl, wl_of hc]
  · rw [List.getElem?_set_ne (Ne.symm hj)]
    cases hd : L[j]? with
    | none => simp [wl, hd]
    | some d =>
      have hdc : d ≠ c := by
        intro q
        subst q
        exact hj (hD.1 j i _ _ (wl_of hd) (wl_of hc) rfl)
      rw [wl_of hd, wl_of hd, hne d hdc]
theorem fso_get {t c k N : Nat} {C : String} {T : u_T} (hcl : vwCl[t]? = some (C, T, N)) (hk : k < N) : (fso ad u t c)[k]? = some (if rs t k = 0 then .int (u.1 c k) else va_re ad (u.2 c k)) := by
  have h1 : nf t = N := by simp [nf, hcl]
  simp [fso, h1, hk]
theorem fso_len {t c N : Nat} {C : String} {T : u_T} (hcl : vwCl[t]? = some (C, T, N)) : (fso ad u t c).length = N := by
  have h1 : nf t = N := by simp [nf, hcl]
  simp [fso, h1]
theorem en_o {t c : Nat} (h : tg c = t) (ht : t < 9) : en cy ad u c = .inr (t, fso ad u t c) := by
  subst h
  unfold en
  rw [if_neg (by omega), if_neg (by omega), if_neg (by omega), if_neg (by omega)]
theorem en_9 {c : Nat} (h : tg c = 9) : en cy ad u c = .inl (cy 0, ln c, .inl (u.1 c)) := by
  unfold en
  rw [if_pos h]
theorem en_10 {c : Nat} (h : tg c = 10) : en cy ad u c = .inl (cy 1, ln c, .inl (u.1 c)) := by
  unfold en
  rw [if_neg (by omega), if_pos h]
theorem en_11 {c : Nat} (h : tg c = 11) : en cy ad u c = .inl (cy 2, ln c, .inr (.inr (.inr (.inr (fun k => (u.2 c k).map ad))))) := by
  unfold en
  rw [if_neg (by omega), if_neg (by omega), if_pos h]
theorem en_12 {c : Nat} (h : tg c = 12) : en cy ad u c = .inl (cy 3, ln c, .inr (.inr (.inr (.inr (fun k => (u.2 c k).map ad))))) := by
  unfold en
  rw [if_neg (by omega), if_neg (by omega), if_neg (by omega), if_pos h]
theorem sI_ne {a k : Nat} {v : Int32} {d : Nat} (h : d ≠ a) : en cy ad (sI u a k v) d = en cy ad u d := by
  have h1 : (sI u a k v).1 d = u.1 d := by
    funext b
    show (if d = a ∧ b = k then v else u.1 d b) = u.1 d b
    rw [if_neg (fun q => h q.1)]
  have h2 : ∀ t, fso ad (sI u a k v) t d = fso ad u t d := fun t => by
    unfold fso
    rw [h1]
    rfl
  unfold en
  rw [h1, h2]
  rfl
theorem sR_ne {a k : Nat} {v : Option Nat} {d : Nat} (h : d ≠ a) : en cy ad (sR u a k v) d = en cy ad u d := by
  have h1 : (sR u a k v).2 d = u.2 d := by
    funext b
    show (if d = a ∧ b = k then v else u.2 d b) = u.2 d b
    rw [if_neg (fun q => h q.1)]
  have h2 : ∀ t, fso ad (sR u a k v) t d = fso ad u t d := fun t => by
    unfold fso
    rw [h1]
    rfl
  unfold en
  rw [h1, h2]
  rfl
theorem sI_fso {t a k N : Nat} {v : Int32} {C : String} {T : u_T} (hcl : vwCl[t]? = some (C, T, N)) (hk : k < N) (hr : rs t k = 0) : (fso ad u t a).set k (.int v) = fso ad (sI u a k v) t a := by
  apply List.ext_getElem?
  intro j
  by_cases hj : j = k
  · subst hj
    rw [List.getElem?_set_self (by rw [fso_len hcl]; exact hk), fso_get hcl hk, if_pos hr]
    simp [sI]
  · rw [List.getElem?_set_ne (Ne.symm hj)]
    by_cases hjN : j < N
    · rw [fso_get hcl hjN, fso_get hcl hjN]
      simp [sI, hj]
    · rw [List.getElem?_eq_none (by rw [fso_len hcl]; omega), List.getElem?_eq_none (by rw [fso_len hcl]; omega)]
theorem sR_fso {t a k N : Nat} {v : Option Nat} {C : String} {T : u_T} (hcl : vwCl[t]? = some (C, T, N)) (hk : k < N) (hr : rs t k ≠ 0) : (fso ad u t a).set k (va_re ad v) = fso ad (sR u a k v) t a := by
  apply List.ext_getElem?
  intro j
  by_cases hj : j = k
  · subst hj
    rw [List.getElem?_set_self (by rw [fso_len hcl]; exact hk), fso_get hcl hk, if_neg hr]
    simp [sR]
  · rw [List.getElem?_set_ne (Ne.symm hj)]
    by_cases hjN : j < N
    · rw [fso_get hcl hjN, fso_get hcl hjN]
      simp [sR, hj]
    · rw [List.getElem?_eq_none (by rw [fso_len hcl]; omega), List.getElem?_eq_none (by rw [fso_len hcl]; omega)]
theorem Ok_sI {a k : Nat} {v : Int32} (h : Ok L u) : Ok L (sI u a k v) := h
theorem Ok_sR {a k t : Nat} {v : Option Nat} (h : Ok L u) (hc : cst a k = none) (hr : rs (tg a) k = t + 1) (hv : vr L t v) : Ok L (sR u a k v) := by
  intro c hcL j
  by_cases hcj : c = a ∧ j = k
  · obtain ⟨rfl, rfl⟩ := hcj
    refine ⟨fun d hd => ?_, fun _ d hd => ?_⟩
    · rw [hc] at hd
      cases hd
    · have hd : (if c = c ∧ j = j then v else u.2 c j) = some d := hd
      rw [if_pos ⟨rfl, rfl⟩] at hd
      obtain ⟨h1, h2⟩ := hv d hd
      exact ⟨h1, by rw [h2, hr]⟩
  · have e : (sR u a k v).2 c j = u.2 c j := by
      show (if c = a ∧ j = k then v else u.2 c j) = u.2 c j
      rw [if_neg hcj]
    rw [e]
    exact h c hcL j
theorem Ok_get {a k t : Nat} (h : Ok L u) (ha : a ∈ L) (hr : rs (tg a) k = t + 1) : vr L t (u.2 a k) := fun d hd => by
  obtain ⟨h1, h2⟩ := (h a ha k).2 (by omega) d hd
  exact ⟨h1, by omega⟩
theorem Ok_cst {a k d : Nat} (h : Ok L u) (ha : a ∈ L) (hc : cst a k = some d) : u.2 a k = some d := (h a ha k).1 d hc
end WLD
end
section
section MRW
variable {p : Program} {l : Launch} {e : Env} {R : Room} {s : State} {m : MethodId} {args : Array Value} {below : List Frame} {meth : Method} {c : Code} {H : Heap} {locs : List Loc} {cells slots : Nat} {Q : State → Prop}
variable {cc : ByteArray} {pc : Nat} {ls : Array Slot} {rest : List Value} {D : va_G} {cy : Nat → ClassId} {L : List Nat} {ad : Nat → Nat} {A : Nat → Prop} {H0 : Heap} {u : Mm} {O : Type} {out : O}
/-- an int (or boolean) field is read -/
theorem r_getI (hx : p.tables.exec = Jvm.exec) (hb : c.code = cc) {own ref C : String} {T : u_T} {N t index a : Nat} {Ts : List Cond} (hts : ∀ w ∈ Ts, w.before args s = true) (hin : ∀ w ∈ u_ws C T N, w ∈ Ts) (hown : s.vm.findClass own = some m.cls) (hK : va_K D vwCl (tyv cy) s) (hw : Wd D cy L ad A H0 u H locs) (ha : vn L t a) (ht : t < 9) (hcl : vwCl[t]? = some (C, T, N)) (k : Nat) (hk : k < N) (hr : rs t k = 0) (hlink : (Cond.fieldLink own index ref (T k).2.1 (T k).2.2.1).before args s = true) (hsame : ∀ x, s.fieldFound? (T k).1 (T k).2.1 (T k).2.2.1 = some x → s.fieldFound? ref (T k).2.1 (T k).2.2.1 = some x) (hdg : decode cc pc = .ok (.getfield index, 3))
    {F : Int32 → Option O} (h : pt (u.1 a k) F = some out) (kk : ∀ x : Int32, F x = some out → W p l e R s m args below meth c H locs cells slots Q (F0 m (pc + 3) ls (.int x :: rest))) : W p l e R s m args below meth c H locs cells slots Q (F0 m pc ls (.ref (ad a) :: rest)) := by
  obtain ⟨i, hi⟩ := List.getElem?_of_mem ha.1
  have he : (wl cy L ad u)[i]? = some (ad a, .inr (t, fso ad u t a)) := by rw [wl_of hi, en_o ha.2 ht]
  exact va_get hx hb hts hin hown hK hw.1 i he hcl k hk hlink hsame (v := .int (u.1 a k)) (by rw [fso_get hcl hk, if_pos hr]) hdg (kk _ h)
/-- a reference that stays as it was made: the cell that it names is known -/
theorem r_getC (hx : p.tables.exec = Jvm.exec) (hb : c.code = cc) {own ref C : String} {T : u_T} {N t t2 index a d : Nat} {Ts : List Cond} (hts : ∀ w ∈ Ts, w.before args s = true) (hin : ∀ w ∈ u_ws C T N, w ∈ Ts) (hown : s.vm.findClass own = some m.cls) (hK : va_K D vwCl (tyv cy) s) (hw : Wd D cy L ad A H0 u H locs) (ha : vn L t a) (ht : t < 9) (hcl : vwCl[t]? = some (C, T, N)) (k : Nat) (hk : k < N) (hr : rs t k = t2 + 1) (hc : cst a k = some d) (hlink : (Cond.fieldLink own index ref (T k).2.1 (T k).2.2.1).before args s = true) (hsame : ∀ x, s.fieldFound? (T k).1 (T k).2.1 (T k).2.2.1 = some x → s.fieldFound? ref (T k).2.1 (T k).2.2.1 = some x) (hdg : decode cc pc = .ok (.getfield index, 3))
    (kk : vn L t2 d → W p l e R s m args below meth c H locs cells slots Q (F0 m (pc + 3) ls (.ref (ad d) :: rest))) : W p l e R s m args below meth c H locs cells slots Q (F0 m pc ls (.ref (ad a) :: rest)) := by
  obtain ⟨i, hi⟩ := List.getElem?_of_mem ha.1
  have he : (wl cy L ad u)[i]? = some (ad a, .inr (t, fso ad u t a)) := by rw [wl_of hi, en_o ha.2 ht]
  have hd := Ok_cst hw.2.2.2 ha.1 hc
  have hv := Ok_get hw.2.2.2 ha.1 (by rw [ha.2]; exact hr) d hd
  exact va_get hx hb hts hin hown hK hw.1 i he hcl k hk hlink hsame (v := .ref (ad d)) (by rw [fso_get hcl hk, if_neg (by omega), hd]; rfl) hdg (kk hv)
/-- any reference -/
theorem r_getR (hx : p.tables.exec = Jvm.exec) (hb : c.code = cc) {own ref C : String} {T : u_T} {N t t2 index a : Nat} {Ts : List Cond} (hts : ∀ w ∈ Ts, w.before args s = true) (hin : ∀ w ∈ u_ws C T N, w ∈ Ts) (hown : s.vm.findClass own = some m.cls) (hK : va_K D vwCl (tyv cy) s) (hw : Wd D cy L ad A H0 u H locs) (ha : vn L t a) (ht : t < 9) (hcl : vwCl[t]? = some (C, T, N)) (k : Nat) (hk : k < N) (hr : rs t k = t2 + 1) (hlink : (Cond.fieldLink own index ref (T k).2.1 (T k).2.2.1).before args s = true) (hsame : ∀ x, s.fieldFound? (T k).1 (T k).2.1 (T k).2.2.1 = some x → s.fieldFound? ref (T k).2.1 (T k).2.2.1 = some x) (hdg : decode cc pc = .ok (.getfield index, 3))
    {F : Option Nat → Option O} (h : pt (u.2 a k) F = some out) (kk : ∀ x : Option Nat, vr L t2 x → F x = some out → W p l e R s m args below meth c H locs cells slots Q (F0 m (pc + 3) ls (va_re ad x :: rest))) : W p l e R s m args below meth c H locs cells slots Q (F0 m pc ls (.ref (ad a) :: rest)) := by
  obtain ⟨i, hi⟩ := List.getElem?_of_mem ha.1
  have he : (wl cy L ad u)[i]? = some (ad a, .inr (t, fso ad u t a)) := by rw [wl_of hi, en_o ha.2 ht]
  have hv := Ok_get hw.2.2.2 ha.1 (by rw [ha.2]; exact hr)
  exact va_get hx hb hts hin hown hK hw.1 i he hcl k hk hlink hsame (v := va_re ad (u.2 a k)) (by rw [fso_get hcl hk, if_neg (by omega)]) hdg (kk _ hv h)
/-- an int (or boolean) field is written -/
theorem r_putI (hx : p.tables.exec = Jvm.exec) (hb : c.code = cc) {own ref C : String} {T : u_T} {N t index a : Nat} {Ts : List Cond} (hts : ∀ w ∈ Ts, w.before args s = true) (hin : ∀ w ∈ u_ws C T N, w ∈ Ts) (ty0 : Nat → FieldType) (hty : ∀ k, k < N → parseFieldDescriptor (T k).2.2.1 = some (ty0 k)) (hnm : ∀ a, a < N → ∀ b, b < N → a ≠ b → (T a).2.1 ≠ (T b).2.1) (hown : s.vm.findClass own = some m.cls) (hK : va_K D vwCl (tyv cy) s) (hw : Wd D cy L ad A H0 u H locs) (ha : vn L t a) (ht : t < 9) (hcl : vwCl[t]? = some (C, T, N)) (k : Nat) (hk : k < N) (hr : rs t k = 0) (hlink : (Cond.fieldLink own index ref (T k).2.1 (T k).2.2.1).before args s = true) (hsame : ∀ x, s.fieldFound? (T k).1 (T k).2.1 (T k).2.2.1 = some x → s.fieldFound? ref (T k).2.1 (T k).2.2.1 = some x) (hfin : (T k).2.2.2 = false) {ty : FieldType} {v : Int32} (hd : ty0 k = ty) (hn : narrow ty (.int v) = .int v) (hfit : fits ty (.int v) = true) (hdg : decode cc pc = .ok (.putfield index, 3))
    {F : Mm → Option O} (h : pt (sI u a k v) F = some out) (kk : ∀ (u : Mm) (H : Heap) (locs : List Loc), Wd D cy L ad A H0 u H locs → F u = some out → W p l e R s m args below meth c H locs cells slots Q (F0 m (pc + 3) ls rest)) : W p l e R s m args below meth c H locs cells slots Q (F0 m pc ls (.int v :: .ref (ad a) :: rest)) := by
  obtain ⟨i, hi⟩ := List.getElem?_of_mem ha.1
  have he : (wl cy L ad u)[i]? = some (ad a, .inr (t, fso ad u t a)) := by rw [wl_of hi, en_o ha.2 ht]
  refine va_put hx hb hts hin ty0 hty hnm hown hK hw.1 hw.2.1 hw.2.2.1 i he hcl k hk hlink hsame hfin (ty := ty) (v := .int v) (by rw [hty k hk, hd]) hn hfit (by rw [fso_len hcl]; exact hk) hdg (fun H1 locs1 hP hD hS => ?_)
  have e1 : (wl cy L ad u).set i (ad a, .inr (t, (fso ad u t a).set k (.int v))) = wl cy L ad (sI u a k v) := wl_set hw.2.1 hi (by rw [en_o ha.2 ht, sI_fso hcl hk hr]) (fun d h => sI_ne h)
  rw [e1] at hP hD
  exact kk _ H1 locs1 ⟨hP, hD, hS, hw.2.2.2⟩ h
theorem arr_at {t a i : Nat} (hw : Wd D cy L ad A H0 u H locs) (ha : vn L t a) (hi : L[i]? = some a) : (t = 9 → (wl cy L ad u)[i]? = some (ad a, .inl (cy 0, ln a, .inl (u.1 a)))) ∧ (t = 10 → (wl cy L ad u)[i]? = some (ad a, .inl (cy 1, ln a, .inl (u.1 a)))) ∧ (t = 11 → (wl cy L ad u)[i]? = some (ad a, .inl (cy 2, ln a, .inr (.inr (.inr (.inr (fun k => (u.2 a k).map ad))))))) ∧ (t = 12 → (wl cy L ad u)[i]? = some (ad a, .inl (cy 3, ln a, .inr (.inr (.inr (.inr (fun k => (u.2 a k).map ad))))))) := by
  refine ⟨fun h => ?_, fun h => ?_, fun h => ?_, fun h => ?_⟩
  · rw [wl_of hi, en_9 (by rw [ha.2, h])]
  · rw [wl_of hi, en_10 (by rw [ha.2, h])]
  · rw [wl_of hi, en_11 (by rw [ha.2, h])]
  · rw [wl_of hi, en_12 (by rw [ha.2, h])]
/-- arrays: the length -/
theorem r_alen (hx : p.tables.exec = Jvm.exec) (hb : c.code = cc) (hK : va_K D vwCl (tyv cy) s) {t a n : Nat} (hw : Wd D cy L ad A H0 u H locs) (ha : vn L t a) (ht : 9 ≤ t ∧ t < 13) (hn : ln a = n) {v : Int32} (hv : Int32.ofNat n = v) (hdg : decode cc pc = .ok (.arraylength, 1)) (kk : W p l e R s m args below meth c H locs cells slots Q (F0 m (pc + 1) ls (.int v :: rest))) : W p l e R s m args below meth c H locs cells slots Q (F0 m pc ls (.ref (ad a) :: rest)) := by
  subst hn
  obtain ⟨i, hi⟩ := List.getElem?_of_mem ha.1
  obtain ⟨h9, h10, h11, h12⟩ := arr_at hw ha hi
  rcases (show t = 9 ∨ t = 10 ∨ t = 11 ∨ t = 12 by omega) with q | q | q | q
  · exact va_alen hx hb hK hw.1 i 0 (h9 q) rfl hv hdg kk
  · exact va_alen hx hb hK hw.1 i 1 (h10 q) rfl hv hdg kk
  · exact va_alen hx hb hK hw.1 i 2 (h11 q) rfl hv hdg kk
  · exact va_alen hx hb hK hw.1 i 3 (h12 q) rfl hv hdg kk
/-- an int array is read -/
theorem r_iald (hx : p.tables.exec = Jvm.exec) (hb : c.code = cc) (hK : va_K D vwCl (tyv cy) s) {a n : Nat} (hw : Wd D cy L ad A H0 u H locs) (ha : vn L 9 a) (hn : ln a = n) {x : Int32} (hdg : decode cc pc = .ok (.iaload, 1)) {F : Int32 → Option O} (h : ck (bI x n) (pt (u.1 a (ix x)) F) = some out) (kk : ∀ y : Int32, F y = some out → W p l e R s m args below meth c H locs cells slots Q (F0 m (pc + 1) ls (.int y :: rest))) : W p l e R s m args below meth c H locs cells slots Q (F0 m pc ls (.int x :: .ref (ad a) :: rest)) := by
  subst hn
  obtain ⟨hi1, h⟩ := ck_e h
  obtain ⟨i, hi⟩ := List.getElem?_of_mem ha.1
  exact va_iald hx hb hK hw.1 i 0 ((arr_at hw ha hi).1 rfl) rfl (bI_in hi1) hdg (kk _ h)
/-- a boolean array is read -/
theorem r_zald (hx : p.tables.exec = Jvm.exec) (hb : c.code = cc) (hK : va_K D vwCl (tyv cy) s) {a n : Nat} (hw : Wd D cy L ad A H0 u H locs) (ha : vn L 10 a) (hn : ln a = n) {x : Int32} (hdg : decode cc pc = .ok (.baload, 1)) {F : Int32 → Option O} (h : ck (bI x n) (pt (u.1 a (ix x)) F) = some out) (kk : ∀ y : Int32, F y = some out → W p l e R s m args below meth c H locs cells slots Q (F0 m (pc + 1) ls (.int y :: rest))) : W p l e R s m args below meth c H locs cells slots Q (F0 m pc ls (.int x :: .ref (ad a) :: rest)) := by
  subst hn
  obtain ⟨hi1, h⟩ := ck_e h
  obtain ⟨i, hi⟩ := List.getElem?_of_mem ha.1
  exact va_zald hx hb hK hw.1 i 1 ((arr_at hw ha hi).2.1 rfl) rfl (bI_in hi1) hdg (kk _ h)
/-- a reference array is read: t 11 Kinds, 12 Things -/
theorem r_kald (hx : p.tables.exec = Jvm.exec) (hb : c.code = cc) (hK : va_K D vwCl (tyv cy) s) {a n : Nat} (hw : Wd D cy L ad A H0 u H locs) (ha : vn L 11 a) (hn : ln a = n) {x : Int32} (hdg : decode cc pc = .ok (.aaload, 1)) {F : Option Nat → Option O} (h : ck (bI x n) (pt (u.2 a (ix x)) F) = some out) (kk : ∀ y : Option Nat, vr L 2 y → F y = some out → W p l e R s m args below meth c H locs cells slots Q (F0 m (pc + 1) ls (va_re ad y :: rest))) : W p l e R s m args below meth c H locs cells slots Q (F0 m pc ls (.int x :: .ref (ad a) :: rest)) := by
  subst hn
  obtain ⟨hi1, h⟩ := ck_e h
  obtain ⟨i, hi⟩ := List.getElem?_of_mem ha.1
  exact va_aldq hx hb hK hw.1 i 2 ((arr_at hw ha hi).2.2.1 rfl) rfl (bI_in hi1) hdg (kk _ (Ok_get hw.2.2.2 ha.1 (by rw [ha.2]; rfl)) h)
theorem r_tald (hx : p.tables.exec = Jvm.exec) (hb : c.code = cc) (hK : va_K D vwCl (tyv cy) s) {a n : Nat} (hw : Wd D cy L ad A H0 u H locs) (ha : vn L 12 a) (hn : ln a = n) {x : Int32} (hdg : decode cc pc = .ok (.aaload, 1)) {F : Option Nat → Option O} (h : ck (bI x n) (pt (u.2 a (ix x)) F) = some out) (kk : ∀ y : Option Nat, vr L 5 y → F y = some out → W p l e R s m args below meth c H locs cells slots Q (F0 m (pc + 1) ls (va_re ad y :: rest))) : W p l e R s m args below meth c H locs cells slots Q (F0 m pc ls (.int x :: .ref (ad a) :: rest)) := by
  subst hn
  obtain ⟨hi1, h⟩ := ck_e h
  obtain ⟨i, hi⟩ := List.getElem?_of_mem ha.1
  exact va_aldq hx hb hK hw.1 i 3 ((arr_at hw ha hi).2.2.2 rfl) rfl (bI_in hi1) hdg (kk _ (Ok_get hw.2.2.2 ha.1 (by rw [ha.2]; rfl)) h)
theorem sI_row {a : Nat} {x v : Int32} : upd (u.1 a) (ix x) v = (sI u a (ix x) v).1 a := by
  funext j
  by_cases hj : j = ix x
  · subst hj
    simp [upd, sI]
  · simp [upd, sI, hj]
theorem sR_row {a : Nat} {x : Int32} {v : Option Nat} : va_up (fun k => (u.2 a k).map ad) (ix x) (v.map ad) = fun k => ((sR u a (ix x) v).2 a k).map ad := by
  funext j
  by_cases hj : j = ix x
  · subst hj
    simp [va_up, sR]
  · simp [va_up, sR, hj]
theorem r_iast (hx : p.tables.exec = Jvm.exec) (hb : c.code = cc) (hK : va_K D vwCl (tyv cy) s) {a n : Nat} (hw : Wd D cy L ad A H0 u H locs) (ha : vn L 9 a) (hn : ln a = n) {x v : Int32} (hdg : decode cc pc = .ok (.iastore, 1)) {F : Mm → Option O} (h : ck (bI x n) (pt (sI u a (ix x) v) F) = some out) (kk : ∀ (u : Mm) (H : Heap) (locs : List Loc), Wd D cy L ad A H0 u H locs → F u = some out → W p l e R s m args below meth c H locs cells slots Q (F0 m (pc + 1) ls rest)) : W p l e R s m args below meth c H locs cells slots Q (F0 m pc ls (.int v :: .int x :: .ref (ad a) :: rest)) := by
  subst hn
  obtain ⟨hi1, h⟩ := ck_e h
  obtain ⟨i, hi⟩ := List.getElem?_of_mem ha.1
  refine va_iast hx hb hK hw.1 hw.2.1 hw.2.2.1 i 0 ((arr_at hw ha hi).1 rfl) rfl (bI_in hi1) hdg (fun H1 locs1 hP hD hS => ?_)
  have e1 : (wl cy L ad u).set i (ad a, .inl (cy 0, ln a, .inl (upd (u.1 a) x.toNatClampNeg v))) = wl cy L ad (sI u a (ix x) v) := wl_set hw.2.1 hi (by rw [en_9 ha.2, ← sI_row]; rfl) (fun d h => sI_ne h)
  rw [e1] at hP hD
  exact kk _ H1 locs1 ⟨hP, hD, hS, hw.2.2.2⟩ h
theorem r_zast (hx : p.tables.exec = Jvm.exec) (hb : c.code = cc) (hK : va_K D vwCl (tyv cy) s) {a n : Nat} (hw : Wd D cy L ad A H0 u H locs) (ha : vn L 10 a) (hn : ln a = n) {x v : Int32} (hdg : decode cc pc = .ok (.bastore, 1)) {F : Mm → Option O} (h : ck (bI x n) (pt (sI u a (ix x) (vp_nar .boolean v)) F) = some out) (kk : ∀ (u : Mm) (H : Heap) (locs : List Loc), Wd D cy L ad A H0 u H locs → F u = some out → W p l e R s m args below meth c H locs cells slots Q (F0 m (pc + 1) ls rest)) : W p l e R s m args below meth c H locs cells slots Q (F0 m pc ls (.int v :: .int x :: .ref (ad a) :: rest)) := by
  subst hn
  obtain ⟨hi1, h⟩ := ck_e h
  obtain ⟨i, hi⟩ := List.getElem?_of_mem ha.1
  refine va_zast hx hb hK hw.1 hw.2.1 hw.2.2.1 i 1 ((arr_at hw ha hi).2.1 rfl) rfl (bI_in hi1) hdg (fun H1 locs1 hP hD hS => ?_)
  have e1 : (wl cy L ad u).set i (ad a, .inl (cy 1, ln a, .inl (upd (u.1 a) x.toNatClampNeg (vp_nar .boolean v)))) = wl cy L ad (sI u a (ix x) (vp_nar .boolean v)) := wl_set hw.2.1 hi (by rw [en_10 ha.2, ← sI_row]; rfl) (fun d h => sI_ne h)
  rw [e1] at hP hD
  exact kk _ H1 locs1 ⟨hP, hD, hS, hw.2.2.2⟩ h
theorem cst_arr {a k t : Nat} (h : tg a = t) (ht : 9 ≤ t) : cst a k = none := by
  unfold cst
  rw [h]
  split <;> first | rfl | omega
/-- a Thing or null comes into an array of Things -/
theorem r_tast (hx : p.tables.exec = Jvm.exec) (hb : c.code = cc) (hK : va_K D vwCl (tyv cy) s) {a n : Nat} (hw : Wd D cy L ad A H0 u H locs) (ha : vn L 12 a) (hn : ln a = n) {x : Int32} {v : Option Nat} (hv : vr L 5 v) (hdg : decode cc pc = .ok (.aastore, 1)) {F : Mm → Option O} (h : ck (bI x n) (pt (sR u a (ix x) v) F) = some out) (kk : ∀ (u : Mm) (H : Heap) (locs : List Loc), Wd D cy L ad A H0 u H locs → F u = some out → W p l e R s m args below meth c H locs cells slots Q (F0 m (pc + 1) ls rest)) : W p l e R s m args below meth c H locs cells slots Q (F0 m pc ls (va_re ad v :: .int x :: .ref (ad a) :: rest)) := by
  subst hn
  obtain ⟨hi1, h⟩ := ck_e h
  obtain ⟨i, hi⟩ := List.getElem?_of_mem ha.1
  have e1 : (wl cy L ad u).set i (ad a, .inl (cy 3, ln a, .inr (.inr (.inr (.inr (va_up (fun k => (u.2 a k).map ad) x.toNatClampNeg (v.map ad))))))) = wl cy L ad (sR u a (ix x) v) := wl_set hw.2.1 hi (by rw [en_12 ha.2, ← sR_row]; rfl) (fun d h => sR_ne h)
  have hok : Ok L (sR u a (ix x) v) := Ok_sR (t := 5) hw.2.2.2 (cst_arr ha.2 (by decide)) (by rw [ha.2]; rfl) hv
  cases v with
  | none =>
    refine va_astqN hx hb hK hw.1 hw.2.1 hw.2.2.1 i 3 ((arr_at hw ha hi).2.2.2 rfl) rfl (bI_in hi1) hdg (fun H1 locs1 hP hD hS => ?_)
    have hP : va_P D vwCl ((wl cy L ad u).set i (ad a, .inl (cy 3, ln a, .inr (.inr (.inr (.inr (va_up (fun k => (u.2 a k).map ad) x.toNatClampNeg ((none : Option Nat).map ad)))))))) H1 := hP
    have hD : va_D A ((wl cy L ad u).set i (ad a, .inl (cy 3, ln a, .inr (.inr (.inr (.inr (va_up (fun k => (u.2 a k).map ad) x.toNatClampNeg ((none : Option Nat).map ad)))))))) := hD
    rw [e1] at hP hD
    exact kk _ H1 locs1 ⟨hP, hD, hS, hok⟩ h
  | some v =>
    have hvv := hv v rfl
    obtain ⟨j, hj⟩ := List.getElem?_of_mem hvv.1
    have he : (wl cy L ad u)[j]? = some (ad v, .inr (5, fso ad u 5 v)) := by rw [wl_of hj, en_o hvv.2 (by decide)]
    refine va_astq hx hb hK hw.1 hw.2.1 hw.2.2.1 i 3 j 5 (r := (RX5, TX5, 11)) ((arr_at hw ha hi).2.2.2 rfl) rfl he rfl (bI_in hi1) hdg (fun H1 locs1 hP hD hS => ?_)
    have hP : va_P D vwCl ((wl cy L ad u).set i (ad a, .inl (cy 3, ln a, .inr (.inr (.inr (.inr (va_up (fun k => (u.2 a k).map ad) x.toNatClampNeg ((some v : Option Nat).map ad)))))))) H1 := hP
    have hD : va_D A ((wl cy L ad u).set i (ad a, .inl (cy 3, ln a, .inr (.inr (.inr (.inr (va_up (fun k => (u.2 a k).map ad) x.toNatClampNeg ((some v : Option Nat).map ad)))))))) := hD
    rw [e1] at hP hD
    exact kk _ H1 locs1 ⟨hP, hD, hS, hok⟩ h
/-! references on the stack and in locals -/
theorem r_aloadn (hx : p.tables.exec = Jvm.exec) (hb : c.code = cc) {k : Fin 4} {i : Nat} {v : Option Nat} (hdg : decode cc pc = .ok (.aload_n k, 1)) (hi : (k : Nat) = i) (hl : ls[i]? = some (.val (va_re ad v))) (kk : W p l e R s m args below meth c H locs cells slots Q (F0 m (pc + 1) ls (va_re ad v :: rest))) : W p l e R s m args below meth c H locs cells slots Q (F0 m pc ls rest) := by
  cases v with
  | none => exact lv_aload_nN hx hb hdg hi hl kk
  | some v => exact lv_aload_n hx hb hdg hi hl kk
theorem r_aload (hx : p.tables.exec = Jvm.exec) (hb : c.code = cc) {i : Nat} {v : Option Nat} (hdg : decode cc pc = .ok (.aload i, 2)) (hl : ls[i]? = some (.val (va_re ad v))) (kk : W p l e R s m args below meth c H locs cells slots Q (F0 m (pc + 2) ls (va_re ad v :: rest))) : W p l e R s m args below meth c H locs cells slots Q (F0 m pc ls rest) := by
  cases v with
  | none => exact lv_aloadN hx hb hdg hl kk
  | some v => exact lv_aload hx hb hdg hl kk
theorem r_astoren (hx : p.tables.exec = Jvm.exec) (hb : c.code = cc) {k : Fin 4} {i nL : Nat} {v : Option Nat} {lv lv' : List (Nat × Value)} (hdg : decode cc pc = .ok (.astore_n k, 1)) (hi : (k : Nat) = i) (hl : lv_has ls nL lv) (hn : i < nL) (he : (i, va_re ad v) :: lv.filter (fun q => !(q.1 == i) && !(q.1 + 1 == i && q.2.category == 2)) = lv') (kk : ∀ ls' : Array Slot, lv_has ls' nL lv' → W p l e R s m args below meth c H locs cells slots Q (F0 m (pc + 1) ls' rest)) : W p l e R s m args below meth c H locs cells slots Q (F0 m pc ls (va_re ad v :: rest)) := by
  cases v with
  | none => exact lv_astore_nN hx hb hdg hi hl hn he kk
  | some v => exact lv_astore_n hx hb hdg hi hl hn he kk
theorem r_astore (hx : p.tables.exec = Jvm.exec) (hb : c.code = cc) {i nL : Nat} {v : Option Nat} {lv lv' : List (Nat × Value)} (hdg : decode cc pc = .ok (.astore i, 2)) (hl : lv_has ls nL lv) (hn : i < nL) (he : (i, va_re ad v) :: lv.filter (fun q => !(q.1 == i) && !(q.1 + 1 == i && q.2.category == 2)) = lv') (kk : ∀ ls' : Array Slot, lv_has ls' nL lv' → W p l e R s m args below meth c H locs cells slots Q (F0 m (pc + 2) ls' rest)) : W p l e R s m args below meth c H locs cells slots Q (F0 m pc ls (va_re ad v :: rest)) := by
  cases v with
  | none => exact lv_astoreN hx hb hdg hl hn he kk
  | some v => exact lv_astore hx hb hdg hl hn he kk
/-- null or not: the printed function parts there too -/
theorem r_ifnull (hx : p.tables.exec = Jvm.exec) (hb : c.code = cc) {off : Int} {tgt t : Nat} {v : Option Nat} (hv : vr L t v) (hdg : decode cc pc = .ok (.ifnull off, 3)) (ht : (pc : Int) + off = (tgt : Int)) {X : Option O} {Y : Nat → Option O} (h : nl v X Y = some out) (k0 : v = none → X = some out → W p l e R s m args below meth c H locs cells slots Q (F0 m tgt ls rest)) (k1 : ∀ a, v = some a → vn L t a → Y a = some out → W p l e R s m args below meth c H locs cells slots Q (F0 m (pc + 3) ls rest)) : W p l e R s m args below meth c H locs cells slots Q (F0 m pc ls (va_re ad v :: rest)) := by
  cases v with
  | none => exact lv_ifnullN hx hb hdg ht (k0 rfl h)
  | some v => exact lv_ifnull hx hb hdg (k1 v rfl (hv v rfl) h)
theorem r_ifnonnull (hx : p.tables.exec = Jvm.exec) (hb : c.code = cc) {off : Int} {tgt t : Nat} {v : Option Nat} (hv : vr L t v) (hdg : decode cc pc = .ok (.ifnonnull off, 3)) (ht : (pc : Int) + off = (tgt : Int)) {X : Option O} {Y : Nat → Option O} (h : nl v X Y = some out) (k0 : v = none → X = some out → W p l e R s m args below meth c H locs cells slots Q (F0 m (pc + 3) ls rest)) (k1 : ∀ a, v = some a → vn L t a → Y a = some out → W p l e R s m args below meth c H locs cells slots Q (F0 m tgt ls rest)) : W p l e R s m args below meth c H locs cells slots Q (F0 m pc ls (va_re ad v :: rest)) := by
  cases v with
  | none => exact lv_ifnonnullN hx hb hdg (k0 rfl h)
  | some v => exact lv_ifnonnull hx hb hdg ht (k1 v rfl (hv v rfl) h)
/-- a reference is used that the printed function takes as not null -/
theorem r_nn {t : Nat} {v : Option Nat} (hv : vr L t v) {Y : Nat → Option O} (h : nl v none Y = some out) {P : Prop} (kk : ∀ a, v = some a → vn L t a → Y a = some out → P) : P := by
  cases v with
  | none => cases h
  | some v => exact kk v rfl (hv v rfl) h
/-- two references are compared -/
theorem r_acmpne (hx : p.tables.exec = Jvm.exec) (hb : c.code = cc) {off : Int} {tgt t : Nat} {v w : Option Nat} (hw : Wd D cy L ad A H0 u H locs) (hv : vr L t v) (hv2 : vr L t w) (hdg : decode cc pc = .ok (.if_acmp .ne off, 3)) (ht : (pc : Int) + off = (tgt : Int)) (kt : ¬ v = w → W p l e R s m args below meth c H locs cells slots Q (F0 m tgt ls rest)) (kf : v = w → W p l e R s m args below meth c H locs cells slots Q (F0 m (pc + 3) ls rest)) : W p l e R s m args below meth c H locs cells slots Q (F0 m pc ls (va_re ad w :: va_re ad v :: rest)) := by
  have e1 : v.map ad = w.map ad ↔ v = w := by
    constructor
    · intro h
      cases v with
      | none => cases w with
        | none => rfl
        | some w => cases h
      | some v => cases w with
        | none => cases h
        | some w => rw [wl_inj hw.2.1 (hv v rfl).1 (hv2 w rfl).1 (Option.some.inj h)]
    · intro h
      rw [h]
  exact lv_acmp_ne hx hb (rx := v.map ad) (ry := w.map ad) hdg ht (fun q => kt (fun z => q (e1.mpr z))) (fun q => kf (e1.mp q))
end MRW
end
section
/-! contracts of methods that make nothing: what the printed function says -/
abbrev PcM (D : va_G) (cy : Nat → ClassId) (L : List Nat) (ad : Nat → Nat) (u : Mm) (sz : Nat) (av : List Value) : Array Value → State → Prop := va_Pc av (fun U => U.heap.size = sz ∧ Hs D cy L ad u (fun _ => True) U)
abbrev QcI (D : va_G) (cy : Nat → ClassId) (L : List Nat) (ad : Nat → Nat) (A : Nat → Prop) (o : Int32 × Mm) : Array Value → State → Outcome → State → Prop := va_Qi (fun (r : Int32) (v : Mm) => (r, v) = o) (fun v t => Hs D cy L ad v A t) A
abbrev QcV (D : va_G) (cy : Nat → ClassId) (L : List Nat) (ad : Nat → Nat) (A : Nat → Prop) (o : Mm) : Array Value → State → Outcome → State → Prop := va_Qv (fun (v : Mm) => v = o) (fun v t => Hs D cy L ad v A t) A
abbrev QcQ (D : va_G) (cy : Nat → ClassId) (L : List Nat) (ad : Nat → Nat) (A : Nat → Prop) (t : Nat) (o : Option Nat × Mm) : Array Value → State → Outcome → State → Prop := va_Qq (fun (r : Option Nat) (v : Mm) => ∃ r0 : Option Nat, r = r0.map ad ∧ (r0, v) = o ∧ vr L t r0) (fun v t => Hs D cy L ad v A t) A
def MtI (l : Launch) (y : MethodName) (ws : List Cond) (rm : Room) (D : va_G) (cy : Nat → ClassId) (L : List Nat) (ad : Nat → Nat) (av : List Value) (u : Mm) (o : Int32 × Mm) : Prop := ∀ sz : Nat, Met l y ws rm (PcM D cy L ad u sz av) (QcI D cy L ad (va_A (wl cy L ad u) sz) o) 0 0 (va_A (wl cy L ad u) sz)
def MtV (l : Launch) (y : MethodName) (ws : List Cond) (rm : Room) (D : va_G) (cy : Nat → ClassId) (L : List Nat) (ad : Nat → Nat) (av : List Value) (u : Mm) (o : Mm) : Prop := ∀ sz : Nat, Met l y ws rm (PcM D cy L ad u sz av) (QcV D cy L ad (va_A (wl cy L ad u) sz) o) 0 0 (va_A (wl cy L ad u) sz)
def MtQ (l : Launch) (y : MethodName) (ws : List Cond) (rm : Room) (D : va_G) (cy : Nat → ClassId) (L : List Nat) (ad : Nat → Nat) (t : Nat) (av : List Value) (u : Mm) (o : Option Nat × Mm) : Prop := ∀ sz : Nat, Met l y ws rm (PcM D cy L ad u sz av) (QcQ D cy L ad (va_A (wl cy L ad u) sz) t o) 0 0 (va_A (wl cy L ad u) sz)
/-- what stays through a method's walk -/
def Cx (p : Program) (m : MethodId) (meth : Method) (c : Code) (cc : ByteArray) (ret : Option FieldType) (nL : Nat) (s : State) (args : Array Value) (Ts : List Cond) (own : String) (D : va_G) (cy : Nat → ClassId) : Prop :=
  p.tables.exec = Jvm.exec ∧ c.code = cc ∧ meth.sig.returnType = ret ∧ c.maxLocals = nL ∧ s.vm.findClass own = some m.cls ∧ (∀ w ∈ Ts, w.before args s = true) ∧ meth.locks = false ∧ va_K D vwCl (tyv cy) s
section CLL
variable {p : Program} {l : Launch} {e : Env} {R : Room} {s : State} {m : MethodId} {args : Array Value} {below : List Frame} {meth : Method} {c : Code} {H : Heap} {locs : List Loc} {cells slots : Nat} {Q : State → Prop}
variable {cc bytes : ByteArray} {pc : Nat} {ls : Array Slot} {rest st0 : List Value} {D : va_G} {cy : Nat → ClassId} {L : List Nat} {ad : Nat → Nat} {A : Nat → Prop} {H0 : Heap} {u : Mm} {O : Type} {out : O}
variable {Ts ws : List Cond} {own C : String} {index maxL nL n : Nat} {y : MethodName} {ret : Option FieldType} {rm : Room} {As : List Value}
theorem pcm_blind {sz : Nat} {av : List Value} : FrameBlind (PcM D cy L ad u sz av) := fun a U g mk q => by
  obtain ⟨q0, q1, qP, qK, qD, qO⟩ := q
  exact ⟨q0, q1, qP, va_K.moved (u := U) (U := U.calling g mk a) (Vm.Alike.refl U.vm) qK, qD, qO⟩
theorem wd_free (hw : Wd D cy L ad A H0 u H locs) (hA : ∀ q, H0.size ≤ q → A q) : ∀ q, va_A (wl cy L ad u) H.size q → A q := by
  intro q h
  rcases h with ⟨k, e, h⟩ | h
  · exact hw.2.1.2 k _ h
  · exact hA q (Nat.le_trans hw.2.2.1.1 h)
theorem wd_start (hP : va_P D vwCl (wl cy L ad u) H) (hD : va_D (fun _ => True) (wl cy L ad u)) (hO : Ok L u) : Wd D cy L ad (va_A (wl cy L ad u) H.size) H u H [] := ⟨hP, hD.self, va_S.rf, hO⟩
theorem pcm_of (hw : Wd D cy L ad A H0 u H locs) (hK : va_K D vwCl (tyv cy) s) {av : List Value} {U : State} (hU : U.heap = H) (hW : s.WarmedH U.vm) : PcM D cy L ad u H.size av av.toArray U :=
  ⟨rfl, by rw [hU], by rw [hU]; exact hw.1, va_K.moved hW.alike hK, hw.2.1.weaken (fun _ _ _ _ => trivial), hw.2.2.2⟩
theorem rv_of (hw : Wd D cy L ad A H0 u H locs) (hK : va_K D vwCl (tyv cy) s) {t a N : Nat} {T : u_T} (ha : vn L t a) (ht : t < 9) (hcl : vwCl[t]? = some (C, T, N)) : ∃ cell : Cell, H[ad a]? = some cell ∧ cell.vm.isStatics = false ∧ s.vm.findClass C = some cell.cls := by
  obtain ⟨i, hi⟩ := List.getElem?_of_mem ha.1
  have he : (wl cy L ad u)[i]? = some (ad a, .inr (t, fso ad u t a)) := by rw [wl_of hi, en_o ha.2 ht]
  exact va_recv hK hw.1 hcl he
theorem r_bI {f : Option (Int32 × Mm)} {F : Int32 → Mm → Option O} {a : Array Value} (hr : ∀ o, f = some o → va_Run p l e R s m args below meth c H locs cells slots 0 0 (F0 m pc ls st0) rest (QcI D cy L ad (va_A (wl cy L ad u) H.size) o a) (va_A (wl cy L ad u) H.size)) (hw : Wd D cy L ad A H0 u H locs) (hA : ∀ q, H0.size ≤ q → A q) (h : bd f F = some out) (kk : ∀ (x : Int32) (u : Mm) (H : Heap) (locs : List Loc), Wd D cy L ad A H0 u H locs → F x u = some out → W p l e R s m args below meth c H locs cells slots Q (F0 m (pc + 3) ls (.int x :: rest))) : W p l e R s m args below meth c H locs cells slots Q (F0 m pc ls st0) := by
  obtain ⟨r, u1, hf, h⟩ := bd_e h
  refine va_calli (hr _ hf) hw.2.2.1 (fun q _ h => wd_free hw hA q h) (wd_free hw hA) (fun x w t H1 locs1 ht hvm hq hB _ _ hS => ?_)
  cases hq
  exact kk _ _ H1 locs1 ⟨ht ▸ hB.1, wl_D hw.2.1, hS, hB.2.2.2⟩ h
theorem r_bV {f : Option Mm} {F : Mm → Option O} {a : Array Value} (hr : ∀ o, f = some o → va_Run p l e R s m args below meth c H locs cells slots 0 0 (F0 m pc ls st0) rest (QcV D cy L ad (va_A (wl cy L ad u) H.size) o a) (va_A (wl cy L ad u) H.size)) (hw : Wd D cy L ad A H0 u H locs) (hA : ∀ q, H0.size ≤ q → A q) (h : bv f F = some out) (kk : ∀ (u : Mm) (H : Heap) (locs : List Loc), Wd D cy L ad A H0 u H locs → F u = some out → W p l e R s m args below meth c H locs cells slots Q (F0 m (pc + 3) ls rest)) : W p l e R s m args below meth c H locs cells slots Q (F0 m pc ls st0) := by
  obtain ⟨u1, hf, h⟩ := bv_e h
  refine va_callv (hr _ hf) hw.2.2.1 (fun q _ h => wd_free hw hA q h) (wd_free hw hA) (fun w t H1 locs1 ht hvm hq hB _ _ hS => ?_)
  cases hq
  exact kk _ H1 locs1 ⟨ht ▸ hB.1, wl_D hw.2.1, hS, hB.2.2.2⟩ h
theorem r_bQ {f : Option (Option Nat × Mm)} {F : Option Nat → Mm → Option O} {a : Array Value} {tt : Nat} (hr : ∀ o, f = some o → va_Run p l e R s m args below meth c H locs cells slots 0 0 (F0 m pc ls st0) rest (QcQ D cy L ad (va_A (wl cy L ad u) H.size) tt o a) (va_A (wl cy L ad u) H.size)) (hw : Wd D cy L ad A H0 u H locs) (hA : ∀ q, H0.size ≤ q → A q) (h : bd f F = some out) (kk : ∀ (x : Option Nat) (u : Mm) (H : Heap) (locs : List Loc), Wd D cy L ad A H0 u H locs → vr L tt x → F x u = some out → W p l e R s m args below meth c H locs cells slots Q (F0 m (pc + 3) ls (va_re ad x :: rest))) : W p l e R s m args below meth c H locs cells slots Q (F0 m pc ls st0) := by
  obtain ⟨r, u1, hf, h⟩ := bd_e h
  refine va_callq (hr _ hf) hw.2.2.1 (fun q _ h => wd_free hw hA q h) (wd_free hw hA) (fun x w t H1 locs1 ht hvm hq hB _ _ hS => ?_)
  obtain ⟨r0, rfl, hq, hv⟩ := hq
  cases hq
  exact kk _ _ H1 locs1 ⟨ht ▸ hB.1, wl_D hw.2.1, hS, hB.2.2.2⟩ hv h
/-- a call of a virtual method: what runs -/
theorem r_vI {o : Int32 × Mm} (S : CallFix p m c cc nL s args Ts own) {t a N : Nat} {T : u_T} (hM : MtI l y ws rm D cy L ad (.ref (ad a) :: As) u o) (cw : CallW R s args own C index y bytes maxL ret ws rm 0 0 n) (hw : Wd D cy L ad A H0 u H locs) (hK : va_K D vwCl (tyv cy) s) (ha : vn L t a) (ht : t < 9) (hcl : vwCl[t]? = some (C, T, N)) (hn : As.length = n) (hsize : ls.size = nL) (hstack : st0 = As.reverse ++ .ref (ad a) :: rest) (hW : (rest.map fun v => v.category).sum ≤ 8) (hdg : decode cc pc = .ok (.invokevirtual index, 3)) (hf : cells + 0 ≤ R.cells ∧ slots + 0 ≤ R.slots) :
    va_Run p l e R s m args below meth c H locs cells slots 0 0 (F0 m pc ls st0) rest (QcI D cy L ad (va_A (wl cy L ad u) H.size) o (Value.ref (ad a) :: As).toArray) (va_A (wl cy L ad u) H.size) :=
  va_runV (As := As) (rest := rest) S (hM H.size) cw ⟨pcm_blind, rv_of hw hK ha ht hcl, fun U hU hW => pcm_of hw hK hU hW⟩ rfl hn hsize hstack (lv_room hW) hdg hf
theorem r_vV {o : Mm} (S : CallFix p m c cc nL s args Ts own) {t a N : Nat} {T : u_T} (hM : MtV l y ws rm D cy L ad (.ref (ad a) :: As) u o) (cw : CallW R s args own C index y bytes maxL ret ws rm 0 0 n) (hw : Wd D cy L ad A H0 u H locs) (hK : va_K D vwCl (tyv cy) s) (ha : vn L t a) (ht : t < 9) (hcl : vwCl[t]? = some (C, T, N)) (hn : As.length = n) (hsize : ls.size = nL) (hstack : st0 = As.reverse ++ .ref (ad a) :: rest) (hW : (rest.map fun v => v.category).sum ≤ 8) (hdg : decode cc pc = .ok (.invokevirtual index, 3)) (hf : cells + 0 ≤ R.cells ∧ slots + 0 ≤ R.slots) :
    va_Run p l e R s m args below meth c H locs cells slots 0 0 (F0 m pc ls st0) rest (QcV D cy L ad (va_A (wl cy L ad u) H.size) o (Value.ref (ad a) :: As).toArray) (va_A (wl cy L ad u) H.size) :=
  va_runV (As := As) (rest := rest) S (hM H.size) cw ⟨pcm_blind, rv_of hw hK ha ht hcl, fun U hU hW => pcm_of hw hK hU hW⟩ rfl hn hsize hstack (lv_room hW) hdg hf
theorem r_vQ {tt : Nat} {o : Option Nat × Mm} (S : CallFix p m c cc nL s args Ts own) {t a N : Nat} {T : u_T} (hM : MtQ l y ws rm D cy L ad tt (.ref (ad a) :: As) u o) (cw : CallW R s args own C index y bytes maxL ret ws rm 0 0 n) (hw : Wd D cy L ad A H0 u H locs) (hK : va_K D vwCl (tyv cy) s) (ha : vn L t a) (ht : t < 9) (hcl : vwCl[t]? = some (C, T, N)) (hn : As.length = n) (hsize : ls.size = nL) (hstack : st0 = As.reverse ++ .ref (ad a) :: rest) (hW : (rest.map fun v => v.category).sum ≤ 8) (hdg : decode cc pc = .ok (.invokevirtual index, 3)) (hf : cells + 0 ≤ R.cells ∧ slots + 0 ≤ R.slots) :
    va_Run p l e R s m args below meth c H locs cells slots 0 0 (F0 m pc ls st0) rest (QcQ D cy L ad (va_A (wl cy L ad u) H.size) tt o (Value.ref (ad a) :: As).toArray) (va_A (wl cy L ad u) H.size) :=
  va_runV (As := As) (rest := rest) S (hM H.size) cw ⟨pcm_blind, rv_of hw hK ha ht hcl, fun U hU hW => pcm_of hw hK hU hW⟩ rfl hn hsize hstack (lv_room hW) hdg hf
theorem r_sI {o : Int32 × Mm} (S : CallFix p m c cc nL s args Ts own) (hM : MtI l y ws rm D cy L ad As u o) (cw : CallB R s args own index y bytes maxL ret ws rm 0 0 n ∧ (Cond.static y).before args s = true) (hw : Wd D cy L ad A H0 u H locs) (hK : va_K D vwCl (tyv cy) s) (hn : As.length = n) (hsize : ls.size = nL) (hstack : st0 = As.reverse ++ rest) (hW : (rest.map fun v => v.category).sum ≤ 8) (hdg : decode cc pc = .ok (.invokestatic index, 3)) (hf : cells + 0 ≤ R.cells ∧ slots + 0 ≤ R.slots) :
    va_Run p l e R s m args below meth c H locs cells slots 0 0 (F0 m pc ls st0) rest (QcI D cy L ad (va_A (wl cy L ad u) H.size) o As.toArray) (va_A (wl cy L ad u) H.size) :=
  va_runS (As := As) (rest := rest) S (hM H.size) cw ⟨pcm_blind, fun U hU hW => pcm_of hw hK hU hW⟩ rfl hn hsize hstack (lv_room hW) hdg hf
/-! the ends -/
theorem r_iret {o : Int32 × Mm} {v : Int32} (hx : p.tables.exec = Jvm.exec) (hb : c.code = cc) (hr : meth.sig.returnType = some .int) (hlocks : meth.locks = false) (hK : va_K D vwCl (tyv cy) s) (hw : Wd D cy L ad A s.heap u H locs) (h : some (v, u) = some o) (hdg : decode cc pc = .ok (.ireturn, 1)) : W p l e R s m args below meth c H locs cells slots (MQ below (QcI D cy L ad A o) args s cells slots A) (F0 m pc ls [.int v]) :=
  W.iret (v := v) hx hb hr (fun t ht hW => ⟨⟨v, u, rfl, Option.some.inj h, by rw [ht]; exact hw.1, va_K.moved hW.alike hK, hw.2.1, hw.2.2.2⟩, hw.2.2.1.F ht⟩) hw.2.2.1.2.2 hdg hlocks
theorem r_zret {o : Int32 × Mm} {v : Int32} (hx : p.tables.exec = Jvm.exec) (hb : c.code = cc) (hr : meth.sig.returnType = some .boolean) (hlocks : meth.locks = false) (hK : va_K D vwCl (tyv cy) s) (hw : Wd D cy L ad A s.heap u H locs) (hn : narrow .boolean (.int v) = .int v) (h : some (v, u) = some o) (hdg : decode cc pc = .ok (.ireturn, 1)) : W p l e R s m args below meth c H locs cells slots (MQ below (QcI D cy L ad A o) args s cells slots A) (F0 m pc ls [.int v]) :=
  W.zret (v := v) hx hb hr hn (fun t ht hW => ⟨⟨v, u, rfl, Option.some.inj h, by rw [ht]; exact hw.1, va_K.moved hW.alike hK, hw.2.1, hw.2.2.2⟩, hw.2.2.1.F ht⟩) hw.2.2.1.2.2 hdg hlocks
theorem r_vret {o : Mm} (hx : p.tables.exec = Jvm.exec) (hb : c.code = cc) (hr : meth.sig.returnType = none) (hlocks : meth.locks = false) (hK : va_K D vwCl (tyv cy) s) (hw : Wd D cy L ad A s.heap u H locs) (h : some u = some o) (hdg : decode cc pc = .ok (.return_, 1)) : W p l e R s m args below meth c H locs cells slots (MQ below (QcV D cy L ad A o) args s cells slots A) (F0 m pc ls []) :=
  W.vret hx hb hr (fun t ht hW => ⟨⟨u, rfl, Option.some.inj h, by rw [ht]; exact hw.1, va_K.moved hW.alike hK, hw.2.1, hw.2.2.2⟩, hw.2.2.1.F ht⟩) hw.2.2.1.2.2 hdg hlocks
theorem r_qret {o : Option Nat × Mm} {v : Option Nat} {tt : Nat} {nm : String} (hx : p.tables.exec = Jvm.exec) (hb : c.code = cc) (hr : meth.sig.returnType = some (.object nm)) (hlocks : meth.locks = false) (hK : va_K D vwCl (tyv cy) s) (hw : Wd D cy L ad A s.heap u H locs) (hv : vr L tt v) (h : some (v, u) = some o) (hdg : decode cc pc = .ok (.areturn, 1)) : W p l e R s m args below meth c H locs cells slots (MQ below (QcQ D cy L ad A tt o) args s cells slots A) (F0 m pc ls [va_re ad v]) :=
  W.aret (v := va_re ad v) hx hb hr (Or.inl ⟨nm, rfl⟩) (va_rf_or _) (fun t ht hW => ⟨⟨v.map ad, u, rfl, ⟨v, rfl, Option.some.inj h, hv⟩, by rw [ht]; exact hw.1, va_K.moved hW.alike hK, hw.2.1, hw.2.2.2⟩, hw.2.2.1.F ht⟩) hw.2.2.1.2.2 hdg hlocks
end CLL
end
section
set_option maxRecDepth 20000 in
theorem ggX0_init_X3_init : GoodIn wsX0_init wsX3_init := goodIn_r _ [12, 13, 2, 3, 14, 15, 16, 17] (by decide +kernel) (by decide +kernel)
set_option maxRecDepth 20000 in
theorem gX0_init_X3_init_n11 : GoodIn wsX0_init (wsX3_init) := ggX0_init_X3_init
theorem dX0_init_0 : decode cX0_init 0 = .ok (.aload_n 0, 1) := by decide +kernel
theorem dX0_init_1 : decode cX0_init 1 = .ok (.invokespecial 3, 3) := by decide +kernel
theorem dX0_init_4 : decode cX0_init 4 = .ok (.aload_n 0, 1) := by decide +kernel
theorem dX0_init_5 : decode cX0_init 5 = .ok (.new 9, 3) := by decide +kernel
theorem dX0_init_8 : decode cX0_init 8 = .ok (.dup, 1) := by decide +kernel
theorem dX0_init_9 : decode cX0_init 9 = .ok (.invokespecial 11, 3) := by decide +kernel
theorem dX0_init_12 : decode cX0_init 12 = .ok (.putfield 12, 3) := by decide +kernel
theorem dX0_init_15 : decode cX0_init 15 = .ok (.aload_n 0, 1) := by decide +kernel
theorem dX0_init_16 : decode cX0_init 16 = .ok (.new 9, 3) := by decide +kernel
theorem dX0_init_19 : decode cX0_init 19 = .ok (.dup, 1) := by decide +kernel
theorem dX0_init_20 : decode cX0_init 20 = .ok (.invokespecial 11, 3) := by decide +kernel
theorem dX0_init_23 : decode cX0_init 23 = .ok (.putfield 18, 3) := by decide +kernel
theorem dX0_init_26 : decode cX0_init 26 = .ok (.aload_n 0, 1) := by decide +kernel
theorem dX0_init_27 : decode cX0_init 27 = .ok (.aload_n 1, 1) := by decide +kernel
theorem dX0_init_28 : decode cX0_init 28 = .ok (.putfield 21, 3) := by decide +kernel
theorem dX0_init_31 : decode cX0_init 31 = .ok (.aload_n 0, 1) := by decide +kernel
theorem dX0_init_32 : decode cX0_init 32 = .ok (.aload_n 2, 1) := by decide +kernel
theorem dX0_init_33 : decode cX0_init 33 = .ok (.putfield 25, 3) := by decide +kernel
theorem dX0_init_36 : decode cX0_init 36 = .ok (.return_, 1) := by decide +kernel
set_option maxRecDepth 20000 in
theorem ggX0_run_X0_markListed : GoodIn wsX0_run wsX0_markListed := goodIn_r _ [8, 9, 10, 11, 12, 13, 1, 14, 15, 16, 17, 18, 19, 20, 21, 22, 23, 24, 25, 26, 27, 28, 29, 30, 31, 32, 33, 34, 35, 36, 37, 38, 39, 40, 41, 42, 43, 44, 45, 46, 7, 47, 48, 49, 50, 51, 52, 53, 54, 55, 56, 57, 58, 59, 60, 61, 62, 63, 64, 65, 66, 67, 68, 69, 169, 170, 171, 172, 173, 174, 175, 182, 183, 184, 185, 186, 187, 188, 189, 190, 191, 192, 193, 194, 195, 196, 197, 198, 176, 177, 178, 179, 180, 181, 199, 200, 201, 202, 203, 204] (by decide +kernel) (by decide +kernel)
set_option maxRecDepth 20000 in
theorem gX0_run_X0_markListed : GoodIn wsX0_run (wsV RX0 38 RX0 yX0_markListed wsX0_markListed) := goodIn_app (goodIn_of _ (by decide +kernel)) ggX0_run_X0_markListed
set_option maxRecDepth 20000 in
theorem ggX0_run_X0_scanListed : GoodIn wsX0_run wsX0_scanListed := goodIn_r _ [73, 9, 10, 11, 13, 15, 16, 17, 18, 19, 20, 21, 74, 75, 76, 7, 77, 48, 49, 51, 52, 53, 54, 78, 79, 80, 81, 14, 50, 82, 83, 84, 85, 86, 87, 88, 89, 90, 91, 66, 67, 68, 69, 60, 61, 62, 63, 64, 65, 169, 170, 171, 172, 173, 174, 175, 182, 183, 184, 185, 186, 187, 188, 189, 190, 191, 192, 193, 194, 195, 196, 197, 198] (by decide +kernel) (by decide +kernel)
set_option maxRecDepth 20000 in
theorem gX0_run_X0_scanListed : GoodIn wsX0_run (wsV RX0 41 RX0 yX0_scanListed wsX0_scanListed) := goodIn_app (goodIn_of _ (by decide +kernel)) ggX0_run_X0_scanListed
set_option maxRecDepth 20000 in
theorem ggX0_run_X0_tellWishes : GoodIn wsX0_run wsX0_tellWishes := goodIn_r _ [95, 1, 96, 14, 97, 9, 98, 99, 100, 37, 101, 39, 102, 103, 104, 105, 42, 106, 107, 108, 109, 110, 111, 112, 113, 114, 67, 68, 18, 69, 20, 21, 82, 83, 84, 7, 85, 86, 11, 49, 50, 51, 52, 53, 54, 87, 88, 89, 90, 91, 66, 15, 16, 17, 19, 60, 61, 62, 63, 64, 65, 169, 170, 171, 172, 173, 174, 175, 176, 177, 178, 179, 180, 181, 188, 189, 190, 191, 192, 193, 194, 195, 196, 197, 198, 203, 204, 182, 183, 184, 185, 186, 187] (by decide +kernel) (by decide +kernel)
set_option maxRecDepth 20000 in
theorem gX0_run_X0_tellWishes : GoodIn wsX0_run (wsV RX0 44 RX0 yX0_tellWishes wsX0_tellWishes) := goodIn_app (goodIn_of _ (by decide +kernel)) ggX0_run_X0_tellWishes
set_option maxRecDepth 20000 in
theorem ggX0_run_X0_emptyList : GoodIn wsX0_run wsX0_emptyList := goodIn_r _ [118, 9, 10, 11, 13, 15, 16, 17, 18, 19, 20, 21, 51, 52, 53, 54, 169, 170, 171, 172, 173, 174, 175, 182, 183, 184, 185, 186, 187, 188, 189, 190, 191, 192, 193, 194, 195, 196, 197, 198] (by decide +kernel) (by decide +kernel)
set_option maxRecDepth 20000 in
theorem gX0_run_X0_emptyList : GoodIn wsX0_run (wsV RX0 47 RX0 yX0_emptyList wsX0_emptyList) := goodIn_app (goodIn_of _ (by decide +kernel)) ggX0_run_X0_emptyList
set_option maxRecDepth 20000 in
theorem ggX0_run_X0_freeWhite : GoodIn wsX0_run wsX0_freeWhite := goodIn_r _ [122, 1, 96, 14, 49, 9, 98, 99, 100, 37, 101, 39, 102, 103, 104, 105, 42, 60, 61, 62, 63, 64, 65, 123, 124, 125, 109, 126, 127, 128, 129, 130, 131, 132, 133, 112, 111, 134, 135, 136, 137, 138, 139, 140, 141, 114, 67, 68, 18, 69, 20, 21, 142, 107, 108, 110, 113, 143, 144, 145, 146, 147, 148, 149, 150, 151, 152, 16, 17, 19, 153, 154, 155, 156, 157, 158, 159, 160, 161, 162, 163, 164, 165, 166, 167, 168, 23, 24, 25, 26, 27, 28, 29, 30, 31, 32, 33, 34, 35, 36, 38, 40, 41, 43, 22, 169, 170, 171, 172, 173, 174, 175, 176, 177, 178, 179, 180, 181, 188, 189, 190, 191, 192, 193, 194, 195, 196, 197, 198, 203, 204, 182, 183, 184, 185, 186, 187, 199, 200, 201, 202] (by decide +kernel) (by decide +kernel)
set_option maxRecDepth 20000 in
theorem gX0_run_X0_freeWhite : GoodIn wsX0_run (wsV RX0 50 RX0 yX0_freeWhite wsX0_freeWhite) := goodIn_app (goodIn_of _ (by decide +kernel)) ggX0_run_X0_freeWhite
theorem dX0_run_0 : decode cX0_run 0 = .ok (.aload_n 0, 1) := by decide +kernel
theorem dX0_run_1 : decode cX0_run 1 = .ok (.getfield 21, 3) := by decide +kernel
theorem dX0_run_4 : decode cX0_run 4 = .ok (.getfield 29, 3) := by decide +kernel
theorem dX0_run_7 : decode cX0_run 7 = .ok (.istore_n 1, 1) := by decide +kernel
theorem dX0_run_8 : decode cX0_run 8 = .ok (.aload_n 0, 1) := by decide +kernel
theorem dX0_run_9 : decode cX0_run 9 = .ok (.dup, 1) := by decide +kernel
theorem dX0_run_10 : decode cX0_run 10 = .ok (.getfield 35, 3) := by decide +kernel
theorem dX0_run_13 : decode cX0_run 13 = .ok (.iconst 1, 1) := by decide +kernel
theorem dX0_run_14 : decode cX0_run 14 = .ok (.iadd, 1) := by decide +kernel
theorem dX0_run_15 : decode cX0_run 15 = .ok (.putfield 35, 3) := by decide +kernel
theorem dX0_run_18 : decode cX0_run 18 = .ok (.aload_n 0, 1) := by decide +kernel
theorem dX0_run_19 : decode cX0_run 19 = .ok (.invokevirtual 38, 3) := by decide +kernel
theorem dX0_run_22 : decode cX0_run 22 = .ok (.aload_n 0, 1) := by decide +kernel
theorem dX0_run_23 : decode cX0_run 23 = .ok (.invokevirtual 41, 3) := by decide +kernel
theorem dX0_run_26 : decode cX0_run 26 = .ok (.aload_n 0, 1) := by decide +kernel
theorem dX0_run_27 : decode cX0_run 27 = .ok (.invokevirtual 44, 3) := by decide +kernel
theorem dX0_run_30 : decode cX0_run 30 = .ok (.aload_n 0, 1) := by decide +kernel
theorem dX0_run_31 : decode cX0_run 31 = .ok (.invokevirtual 47, 3) := by decide +kernel
theorem dX0_run_34 : decode cX0_run 34 = .ok (.aload_n 0, 1) := by decide +kernel
theorem dX0_run_35 : decode cX0_run 35 = .ok (.invokevirtual 50, 3) := by decide +kernel
theorem dX0_run_38 : decode cX0_run 38 = .ok (.aload_n 0, 1) := by decide +kernel
theorem dX0_run_39 : decode cX0_run 39 = .ok (.getfield 21, 3) := by decide +kernel
theorem dX0_run_42 : decode cX0_run 42 = .ok (.getfield 29, 3) := by decide +kernel
theorem dX0_run_45 : decode cX0_run 45 = .ok (.iload_n 1, 1) := by decide +kernel
theorem dX0_run_46 : decode cX0_run 46 = .ok (.isub, 1) := by decide +kernel
theorem dX0_run_47 : decode cX0_run 47 = .ok (.ireturn, 1) := by decide +kernel
set_option maxRecDepth 20000 in
theorem ggX0_markListed_X3_item : GoodIn wsX0_markListed wsX3_item := goodIn_r _ [12, 13, 14, 75, 76] (by decide +kernel) (by decide +kernel)
set_option maxRecDepth 20000 in
theorem gX0_markListed_X3_item : GoodIn wsX0_markListed (wsV RX0 61 RX3 yX3_item wsX3_item) := goodIn_app (goodIn_of _ (by decide +kernel)) ggX0_markListed_X3_item
set_option maxRecDepth 20000 in
theorem ggX0_markListed_X4_free : GoodIn wsX0_markListed wsX4_free := goodIn_r _ [19, 20, 21, 22, 23, 24, 25, 26, 27, 28, 29, 30, 31, 32, 33, 34, 35, 36, 88, 89, 90, 91, 92, 93, 77, 78, 79, 80, 81, 82, 83, 84, 85, 86, 87, 94, 95, 96, 97, 98, 99] (by decide +kernel) (by decide +kernel)
set_option maxRecDepth 20000 in
theorem gX0_markListed_X4_free : GoodIn wsX0_markListed (wsV RX0 74 RX4 yX4_free wsX4_free) := goodIn_app (goodIn_of _ (by decide +kernel)) ggX0_markListed_X4_free
set_option maxRecDepth 20000 in
theorem ggX0_markListed_X0_markFrom : GoodIn wsX0_markListed wsX0_markFrom := goodIn_r _ [41, 42, 3, 43, 44, 45, 46, 47, 11, 48, 13, 49, 50, 51, 40, 52, 7, 53, 54, 55, 56, 57, 58, 59, 60, 61, 62, 63, 14, 8, 9, 10, 12, 64, 65, 66, 67, 68, 69, 70, 75, 76, 77, 78, 79, 80, 81, 82, 83, 84, 85, 86, 87] (by decide +kernel) (by decide +kernel)
set_option maxRecDepth 20000 in
theorem gX0_markListed_X0_markFrom : GoodIn wsX0_markListed (wsV RX0 81 RX0 yX0_markFrom wsX0_markFrom) := goodIn_app (goodIn_of _ (by decide +kernel)) ggX0_markListed_X0_markFrom
theorem dX0_markListed_0 : decode cX0_markListed 0 = .ok (.aload_n 0, 1) := by decide +kernel
theorem dX0_markListed_1 : decode cX0_markListed 1 = .ok (.getfield 25, 3) := by decide +kernel
theorem dX0_markListed_4 : decode cX0_markListed 4 = .ok (.getfield 53, 3) := by decide +kernel
theorem dX0_markListed_7 : decode cX0_markListed 7 = .ok (.astore_n 1, 1) := by decide +kernel
theorem dX0_markListed_8 : decode cX0_markListed 8 = .ok (.iconst 0, 1) := by decide +kernel
theorem dX0_markListed_9 : decode cX0_markListed 9 = .ok (.istore_n 2, 1) := by decide +kernel
theorem dX0_markListed_10 : decode cX0_markListed 10 = .ok (.iload_n 2, 1) := by decide +kernel
theorem dX0_markListed_11 : decode cX0_markListed 11 = .ok (.aload_n 1, 1) := by decide +kernel
theorem dX0_markListed_12 : decode cX0_markListed 12 = .ok (.getfield 58, 3) := by decide +kernel
theorem dX0_markListed_15 : decode cX0_markListed 15 = .ok (.if_icmp .ge 66, 3) := by decide +kernel
theorem dX0_markListed_18 : decode cX0_markListed 18 = .ok (.aload_n 1, 1) := by decide +kernel
theorem dX0_markListed_19 : decode cX0_markListed 19 = .ok (.iload_n 2, 1) := by decide +kernel
theorem dX0_markListed_20 : decode cX0_markListed 20 = .ok (.invokevirtual 61, 3) := by decide +kernel
theorem dX0_markListed_23 : decode cX0_markListed 23 = .ok (.astore_n 3, 1) := by decide +kernel
theorem dX0_markListed_24 : decode cX0_markListed 24 = .ok (.aload_n 3, 1) := by decide +kernel
theorem dX0_markListed_25 : decode cX0_markListed 25 = .ok (.ifnonnull 6, 3) := by decide +kernel
theorem dX0_markListed_28 : decode cX0_markListed 28 = .ok (.goto 47, 3) := by decide +kernel
theorem dX0_markListed_31 : decode cX0_markListed 31 = .ok (.aload_n 3, 1) := by decide +kernel
theorem dX0_markListed_32 : decode cX0_markListed 32 = .ok (.getfield 65, 3) := by decide +kernel
theorem dX0_markListed_35 : decode cX0_markListed 35 = .ok (.ifCond .eq 19, 3) := by decide +kernel
theorem dX0_markListed_38 : decode cX0_markListed 38 = .ok (.aload_n 3, 1) := by decide +kernel
theorem dX0_markListed_39 : decode cX0_markListed 39 = .ok (.iconst 0, 1) := by decide +kernel
theorem dX0_markListed_40 : decode cX0_markListed 40 = .ok (.putfield 71, 3) := by decide +kernel
theorem dX0_markListed_43 : decode cX0_markListed 43 = .ok (.aload_n 0, 1) := by decide +kernel
theorem dX0_markListed_44 : decode cX0_markListed 44 = .ok (.getfield 21, 3) := by decide +kernel
theorem dX0_markListed_47 : decode cX0_markListed 47 = .ok (.aload_n 3, 1) := by decide +kernel
theorem dX0_markListed_48 : decode cX0_markListed 48 = .ok (.invokevirtual 74, 3) := by decide +kernel
theorem dX0_markListed_51 : decode cX0_markListed 51 = .ok (.goto 24, 3) := by decide +kernel
theorem dX0_markListed_54 : decode cX0_markListed 54 = .ok (.aload_n 3, 1) := by decide +kernel
theorem dX0_markListed_55 : decode cX0_markListed 55 = .ok (.getfield 78, 3) := by decide +kernel
theorem dX0_markListed_58 : decode cX0_markListed 58 = .ok (.iconst 1, 1) := by decide +kernel
theorem dX0_markListed_59 : decode cX0_markListed 59 = .ok (.if_icmp .ne 11, 3) := by decide +kernel
theorem dX0_markListed_62 : decode cX0_markListed 62 = .ok (.aload_n 3, 1) := by decide +kernel
theorem dX0_markListed_63 : decode cX0_markListed 63 = .ok (.iconst 0, 1) := by decide +kernel
theorem dX0_markListed_64 : decode cX0_markListed 64 = .ok (.putfield 71, 3) := by decide +kernel
theorem dX0_markListed_67 : decode cX0_markListed 67 = .ok (.goto 8, 3) := by decide +kernel
theorem dX0_markListed_70 : decode cX0_markListed 70 = .ok (.aload_n 0, 1) := by decide +kernel
theorem dX0_markListed_71 : decode cX0_markListed 71 = .ok (.aload_n 3, 1) := by decide +kernel
theorem dX0_markListed_72 : decode cX0_markListed 72 = .ok (.invokevirtual 81, 3) := by decide +kernel
theorem dX0_markListed_75 : decode cX0_markListed 75 = .ok (.iinc 2 1, 3) := by decide +kernel
theorem dX0_markListed_78 : decode cX0_markListed 78 = .ok (.goto (-68), 3) := by decide +kernel
theorem dX0_markListed_81 : decode cX0_markListed 81 = .ok (.return_, 1) := by decide +kernel
set_option maxRecDepth 20000 in
theorem ggX0_markFrom_X3_clear : GoodIn wsX0_markFrom wsX3_clear := goodIn_r _ [9, 10, 40, 41] (by decide +kernel) (by decide +kernel)
set_option maxRecDepth 20000 in
theorem gX0_markFrom_X3_clear : GoodIn wsX0_markFrom (wsV RX0 84 RX3 yX3_clear wsX3_clear) := goodIn_app (goodIn_of _ (by decide +kernel)) ggX0_markFrom_X3_clear
set_option maxRecDepth 20000 in
theorem ggX0_markFrom_X0_turnGray : GoodIn wsX0_markFrom wsX0_turnGray := goodIn_r _ [15, 16, 17, 1, 18, 19, 20, 21, 22, 23, 24, 25, 26, 8, 27, 10, 28, 42, 43, 44, 45, 46, 47, 48, 49, 50, 51, 52, 33, 34, 35, 36, 37, 38, 39, 40, 41] (by decide +kernel) (by decide +kernel)
set_option maxRecDepth 20000 in
theorem gX0_markFrom_X0_turnGray : GoodIn wsX0_markFrom (wsV RX0 87 RX0 yX0_turnGray wsX0_turnGray) := goodIn_app (goodIn_of _ (by decide +kernel)) ggX0_markFrom_X0_turnGray
set_option maxRecDepth 20000 in
theorem ggX0_markFrom_X3_item : GoodIn wsX0_markFrom wsX3_item := goodIn_r _ [32, 10, 28, 40, 41] (by decide +kernel) (by decide +kernel)
set_option maxRecDepth 20000 in
theorem gX0_markFrom_X3_item : GoodIn wsX0_markFrom (wsV RX0 61 RX3 yX3_item wsX3_item) := goodIn_app (goodIn_of _ (by decide +kernel)) ggX0_markFrom_X3_item
set_option maxRecDepth 20000 in
theorem ggX0_markFrom_X5_isGreen : GoodIn wsX0_markFrom wsX5_isGreen := goodIn_r _ [22, 23, 42, 43, 44, 45, 46, 47, 48, 49, 50, 51, 52] (by decide +kernel) (by decide +kernel)
set_option maxRecDepth 20000 in
theorem gX0_markFrom_X5_isGreen : GoodIn wsX0_markFrom (wsV RX0 94 RX5 yX5_isGreen wsX5_isGreen) := goodIn_app (goodIn_of _ (by decide +kernel)) ggX0_markFrom_X5_isGreen
theorem dX0_markFrom_0 : decode cX0_markFrom 0 = .ok (.aload_n 0, 1) := by decide +kernel
theorem dX0_markFrom_1 : decode cX0_markFrom 1 = .ok (.getfield 12, 3) := by decide +kernel
theorem dX0_markFrom_4 : decode cX0_markFrom 4 = .ok (.invokevirtual 84, 3) := by decide +kernel
theorem dX0_markFrom_7 : decode cX0_markFrom 7 = .ok (.aload_n 0, 1) := by decide +kernel
theorem dX0_markFrom_8 : decode cX0_markFrom 8 = .ok (.aload_n 1, 1) := by decide +kernel
theorem dX0_markFrom_9 : decode cX0_markFrom 9 = .ok (.invokevirtual 87, 3) := by decide +kernel
theorem dX0_markFrom_12 : decode cX0_markFrom 12 = .ok (.iconst 0, 1) := by decide +kernel
theorem dX0_markFrom_13 : decode cX0_markFrom 13 = .ok (.istore_n 2, 1) := by decide +kernel
theorem dX0_markFrom_14 : decode cX0_markFrom 14 = .ok (.iload_n 2, 1) := by decide +kernel
theorem dX0_markFrom_15 : decode cX0_markFrom 15 = .ok (.bipush 80, 2) := by decide +kernel
theorem dX0_markFrom_17 : decode cX0_markFrom 17 = .ok (.if_icmp .ge 100, 3) := by decide +kernel
theorem dX0_markFrom_20 : decode cX0_markFrom 20 = .ok (.iload_n 2, 1) := by decide +kernel
theorem dX0_markFrom_21 : decode cX0_markFrom 21 = .ok (.aload_n 0, 1) := by decide +kernel
theorem dX0_markFrom_22 : decode cX0_markFrom 22 = .ok (.getfield 12, 3) := by decide +kernel
theorem dX0_markFrom_25 : decode cX0_markFrom 25 = .ok (.getfield 58, 3) := by decide +kernel
theorem dX0_markFrom_28 : decode cX0_markFrom 28 = .ok (.if_icmp .ge 89, 3) := by decide +kernel
theorem dX0_markFrom_31 : decode cX0_markFrom 31 = .ok (.aload_n 0, 1) := by decide +kernel
theorem dX0_markFrom_32 : decode cX0_markFrom 32 = .ok (.getfield 12, 3) := by decide +kernel
theorem dX0_markFrom_35 : decode cX0_markFrom 35 = .ok (.iload_n 2, 1) := by decide +kernel
theorem dX0_markFrom_36 : decode cX0_markFrom 36 = .ok (.invokevirtual 61, 3) := by decide +kernel
theorem dX0_markFrom_39 : decode cX0_markFrom 39 = .ok (.astore_n 3, 1) := by decide +kernel
theorem dX0_markFrom_40 : decode cX0_markFrom 40 = .ok (.aload_n 3, 1) := by decide +kernel
theorem dX0_markFrom_41 : decode cX0_markFrom 41 = .ok (.ifnonnull 6, 3) := by decide +kernel
theorem dX0_markFrom_44 : decode cX0_markFrom 44 = .ok (.goto 67, 3) := by decide +kernel
theorem dX0_markFrom_47 : decode cX0_markFrom 47 = .ok (.aload_n 3, 1) := by decide +kernel
theorem dX0_markFrom_48 : decode cX0_markFrom 48 = .ok (.getfield 90, 3) := by decide +kernel
theorem dX0_markFrom_51 : decode cX0_markFrom 51 = .ok (.astore 4, 2) := by decide +kernel
theorem dX0_markFrom_53 : decode cX0_markFrom 53 = .ok (.aload 4, 2) := by decide +kernel
theorem dX0_markFrom_55 : decode cX0_markFrom 55 = .ok (.arraylength, 1) := by decide +kernel
theorem dX0_markFrom_56 : decode cX0_markFrom 56 = .ok (.istore 5, 2) := by decide +kernel
theorem dX0_markFrom_58 : decode cX0_markFrom 58 = .ok (.iconst 0, 1) := by decide +kernel
theorem dX0_markFrom_59 : decode cX0_markFrom 59 = .ok (.istore 6, 2) := by decide +kernel
theorem dX0_markFrom_61 : decode cX0_markFrom 61 = .ok (.iload 6, 2) := by decide +kernel
theorem dX0_markFrom_63 : decode cX0_markFrom 63 = .ok (.iload 5, 2) := by decide +kernel
theorem dX0_markFrom_65 : decode cX0_markFrom 65 = .ok (.if_icmp .ge 46, 3) := by decide +kernel
theorem dX0_markFrom_68 : decode cX0_markFrom 68 = .ok (.aload 4, 2) := by decide +kernel
theorem dX0_markFrom_70 : decode cX0_markFrom 70 = .ok (.iload 6, 2) := by decide +kernel
theorem dX0_markFrom_72 : decode cX0_markFrom 72 = .ok (.aaload, 1) := by decide +kernel
theorem dX0_markFrom_73 : decode cX0_markFrom 73 = .ok (.astore 7, 2) := by decide +kernel
theorem dX0_markFrom_75 : decode cX0_markFrom 75 = .ok (.aload 7, 2) := by decide +kernel
theorem dX0_markFrom_77 : decode cX0_markFrom 77 = .ok (.ifnull 28, 3) := by decide +kernel
theorem dX0_markFrom_80 : decode cX0_markFrom 80 = .ok (.aload 7, 2) := by decide +kernel
theorem dX0_markFrom_82 : decode cX0_markFrom 82 = .ok (.invokevirtual 94, 3) := by decide +kernel
theorem dX0_markFrom_85 : decode cX0_markFrom 85 = .ok (.ifCond .ne 20, 3) := by decide +kernel
theorem dX0_markFrom_88 : decode cX0_markFrom 88 = .ok (.aload 7, 2) := by decide +kernel
theorem dX0_markFrom_90 : decode cX0_markFrom 90 = .ok (.dup, 1) := by decide +kernel
theorem dX0_markFrom_91 : decode cX0_markFrom 91 = .ok (.getfield 98, 3) := by decide +kernel
theorem dX0_markFrom_94 : decode cX0_markFrom 94 = .ok (.iconst 1, 1) := by decide +kernel
theorem dX0_markFrom_95 : decode cX0_markFrom 95 = .ok (.isub, 1) := by decide +kernel
theorem dX0_markFrom_96 : decode cX0_markFrom 96 = .ok (.putfield 98, 3) := by decide +kernel
theorem dX0_markFrom_99 : decode cX0_markFrom 99 = .ok (.aload_n 0, 1) := by decide +kernel
theorem dX0_markFrom_100 : decode cX0_markFrom 100 = .ok (.aload 7, 2) := by decide +kernel
theorem dX0_markFrom_102 : decode cX0_markFrom 102 = .ok (.invokevirtual 87, 3) := by decide +kernel
theorem dX0_markFrom_105 : decode cX0_markFrom 105 = .ok (.iinc 6 1, 3) := by decide +kernel
theorem dX0_markFrom_108 : decode cX0_markFrom 108 = .ok (.goto (-47), 3) := by decide +kernel
theorem dX0_markFrom_111 : decode cX0_markFrom 111 = .ok (.iinc 2 1, 3) := by decide +kernel
theorem dX0_markFrom_114 : decode cX0_markFrom 114 = .ok (.goto (-100), 3) := by decide +kernel
theorem dX0_markFrom_117 : decode cX0_markFrom 117 = .ok (.return_, 1) := by decide +kernel
set_option maxRecDepth 20000 in
theorem ggX0_turnGray_X5_isGreen : GoodIn wsX0_turnGray wsX5_isGreen := goodIn_r _ [8, 9, 17, 18, 19, 20, 21, 22, 23, 24, 25, 26, 27] (by decide +kernel) (by decide +kernel)
set_option maxRecDepth 20000 in
theorem gX0_turnGray_X5_isGreen : GoodIn wsX0_turnGray (wsV RX0 94 RX5 yX5_isGreen wsX5_isGreen) := goodIn_app (goodIn_of _ (by decide +kernel)) ggX0_turnGray_X5_isGreen
set_option maxRecDepth 20000 in
theorem ggX0_turnGray_X3_append : GoodIn wsX0_turnGray wsX3_append := goodIn_r _ [14, 15, 16, 35, 36] (by decide +kernel) (by decide +kernel)
set_option maxRecDepth 20000 in
theorem gX0_turnGray_X3_append : GoodIn wsX0_turnGray (wsV RX0 104 RX3 yX3_append wsX3_append) := goodIn_app (goodIn_of _ (by decide +kernel)) ggX0_turnGray_X3_append
theorem dX0_turnGray_0 : decode cX0_turnGray 0 = .ok (.aload_n 1, 1) := by decide +kernel
theorem dX0_turnGray_1 : decode cX0_turnGray 1 = .ok (.getfield 78, 3) := by decide +kernel
theorem dX0_turnGray_4 : decode cX0_turnGray 4 = .ok (.iconst 1, 1) := by decide +kernel
theorem dX0_turnGray_5 : decode cX0_turnGray 5 = .ok (.if_icmp .eq 33, 3) := by decide +kernel
theorem dX0_turnGray_8 : decode cX0_turnGray 8 = .ok (.aload_n 1, 1) := by decide +kernel
theorem dX0_turnGray_9 : decode cX0_turnGray 9 = .ok (.invokevirtual 94, 3) := by decide +kernel
theorem dX0_turnGray_12 : decode cX0_turnGray 12 = .ok (.ifCond .ne 26, 3) := by decide +kernel
theorem dX0_turnGray_15 : decode cX0_turnGray 15 = .ok (.aload_n 1, 1) := by decide +kernel
theorem dX0_turnGray_16 : decode cX0_turnGray 16 = .ok (.iconst 1, 1) := by decide +kernel
theorem dX0_turnGray_17 : decode cX0_turnGray 17 = .ok (.putfield 78, 3) := by decide +kernel
theorem dX0_turnGray_20 : decode cX0_turnGray 20 = .ok (.aload_n 0, 1) := by decide +kernel
theorem dX0_turnGray_21 : decode cX0_turnGray 21 = .ok (.dup, 1) := by decide +kernel
theorem dX0_turnGray_22 : decode cX0_turnGray 22 = .ok (.getfield 101, 3) := by decide +kernel
theorem dX0_turnGray_25 : decode cX0_turnGray 25 = .ok (.iconst 1, 1) := by decide +kernel
theorem dX0_turnGray_26 : decode cX0_turnGray 26 = .ok (.iadd, 1) := by decide +kernel
theorem dX0_turnGray_27 : decode cX0_turnGray 27 = .ok (.putfield 101, 3) := by decide +kernel
theorem dX0_turnGray_30 : decode cX0_turnGray 30 = .ok (.aload_n 0, 1) := by decide +kernel
theorem dX0_turnGray_31 : decode cX0_turnGray 31 = .ok (.getfield 12, 3) := by decide +kernel
theorem dX0_turnGray_34 : decode cX0_turnGray 34 = .ok (.aload_n 1, 1) := by decide +kernel
theorem dX0_turnGray_35 : decode cX0_turnGray 35 = .ok (.invokevirtual 104, 3) := by decide +kernel
theorem dX0_turnGray_38 : decode cX0_turnGray 38 = .ok (.return_, 1) := by decide +kernel
set_option maxRecDepth 20000 in
theorem ggX0_scanListed_X3_item : GoodIn wsX0_scanListed wsX3_item := goodIn_r _ [9, 10, 11, 60, 61] (by decide +kernel) (by decide +kernel)
set_option maxRecDepth 20000 in
theorem gX0_scanListed_X3_item : GoodIn wsX0_scanListed (wsV RX0 61 RX3 yX3_item wsX3_item) := goodIn_app (goodIn_of _ (by decide +kernel)) ggX0_scanListed_X3_item
set_option maxRecDepth 20000 in
theorem ggX0_scanListed_X0_scanFrom : GoodIn wsX0_scanListed wsX0_scanFrom := goodIn_r _ [16, 17, 3, 18, 19, 20, 21, 8, 22, 10, 23, 24, 25, 15, 26, 27, 28, 29, 30, 31, 32, 33, 34, 35, 36, 37, 38, 39, 40, 41, 42, 11, 5, 6, 7, 9, 43, 44, 45, 46, 47, 48, 49, 50, 51, 52, 53, 54, 55, 60, 61, 62, 63, 64, 65, 66, 67, 68, 69, 70, 71, 72] (by decide +kernel) (by decide +kernel)
set_option maxRecDepth 20000 in
theorem gX0_scanListed_X0_scanFrom : GoodIn wsX0_scanListed (wsV RX0 107 RX0 yX0_scanFrom wsX0_scanFrom) := goodIn_app (goodIn_of _ (by decide +kernel)) ggX0_scanListed_X0_scanFrom
theorem dX0_scanListed_0 : decode cX0_scanListed 0 = .ok (.aload_n 0, 1) := by decide +kernel
theorem dX0_scanListed_1 : decode cX0_scanListed 1 = .ok (.getfield 25, 3) := by decide +kernel
theorem dX0_scanListed_4 : decode cX0_scanListed 4 = .ok (.getfield 53, 3) := by decide +kernel
theorem dX0_scanListed_7 : decode cX0_scanListed 7 = .ok (.astore_n 1, 1) := by decide +kernel
theorem dX0_scanListed_8 : decode cX0_scanListed 8 = .ok (.iconst 0, 1) := by decide +kernel
theorem dX0_scanListed_9 : decode cX0_scanListed 9 = .ok (.istore_n 2, 1) := by decide +kernel
theorem dX0_scanListed_10 : decode cX0_scanListed 10 = .ok (.iload_n 2, 1) := by decide +kernel
theorem dX0_scanListed_11 : decode cX0_scanListed 11 = .ok (.aload_n 1, 1) := by decide +kernel
theorem dX0_scanListed_12 : decode cX0_scanListed 12 = .ok (.getfield 58, 3) := by decide +kernel
theorem dX0_scanListed_15 : decode cX0_scanListed 15 = .ok (.if_icmp .ge 31, 3) := by decide +kernel
theorem dX0_scanListed_18 : decode cX0_scanListed 18 = .ok (.aload_n 1, 1) := by decide +kernel
theorem dX0_scanListed_19 : decode cX0_scanListed 19 = .ok (.iload_n 2, 1) := by decide +kernel
theorem dX0_scanListed_20 : decode cX0_scanListed 20 = .ok (.invokevirtual 61, 3) := by decide +kernel
theorem dX0_scanListed_23 : decode cX0_scanListed 23 = .ok (.astore_n 3, 1) := by decide +kernel
theorem dX0_scanListed_24 : decode cX0_scanListed 24 = .ok (.aload_n 3, 1) := by decide +kernel
theorem dX0_scanListed_25 : decode cX0_scanListed 25 = .ok (.ifnull 15, 3) := by decide +kernel
theorem dX0_scanListed_28 : decode cX0_scanListed 28 = .ok (.aload_n 3, 1) := by decide +kernel
theorem dX0_scanListed_29 : decode cX0_scanListed 29 = .ok (.getfield 71, 3) := by decide +kernel
theorem dX0_scanListed_32 : decode cX0_scanListed 32 = .ok (.ifCond .eq 8, 3) := by decide +kernel
theorem dX0_scanListed_35 : decode cX0_scanListed 35 = .ok (.aload_n 0, 1) := by decide +kernel
theorem dX0_scanListed_36 : decode cX0_scanListed 36 = .ok (.aload_n 3, 1) := by decide +kernel
theorem dX0_scanListed_37 : decode cX0_scanListed 37 = .ok (.invokevirtual 107, 3) := by decide +kernel
theorem dX0_scanListed_40 : decode cX0_scanListed 40 = .ok (.iinc 2 1, 3) := by decide +kernel
theorem dX0_scanListed_43 : decode cX0_scanListed 43 = .ok (.goto (-33), 3) := by decide +kernel
theorem dX0_scanListed_46 : decode cX0_scanListed 46 = .ok (.return_, 1) := by decide +kernel
set_option maxRecDepth 20000 in
theorem ggX0_scanFrom_X3_clear : GoodIn wsX0_scanFrom wsX3_clear := goodIn_r _ [8, 9, 49, 50] (by decide +kernel) (by decide +kernel)
set_option maxRecDepth 20000 in
theorem gX0_scanFrom_X3_clear : GoodIn wsX0_scanFrom (wsV RX0 84 RX3 yX3_clear wsX3_clear) := goodIn_app (goodIn_of _ (by decide +kernel)) ggX0_scanFrom_X3_clear
set_option maxRecDepth 20000 in
theorem ggX0_scanFrom_X0_judge : GoodIn wsX0_scanFrom wsX0_judge := goodIn_r _ [14, 15, 16, 1, 17, 18, 19, 13, 20, 21, 2, 3, 4, 5, 6, 7, 8, 9, 22, 23, 24, 25, 26, 27, 28, 29, 30, 31, 32, 33, 34, 35, 36, 37, 38, 39, 40, 41, 51, 52, 53, 54, 55, 56, 57, 58, 59, 60, 61, 42, 43, 44, 45, 46, 47, 48, 49, 50] (by decide +kernel) (by decide +kernel)
set_option maxRecDepth 20000 in
theorem gX0_scanFrom_X0_judge : GoodIn wsX0_scanFrom (wsV RX0 110 RX0 yX0_judge wsX0_judge) := goodIn_app (goodIn_of _ (by decide +kernel)) ggX0_scanFrom_X0_judge
set_option maxRecDepth 20000 in
theorem ggX0_scanFrom_X3_item : GoodIn wsX0_scanFrom wsX3_item := goodIn_r _ [35, 9, 31, 49, 50] (by decide +kernel) (by decide +kernel)
set_option maxRecDepth 20000 in
theorem gX0_scanFrom_X3_item : GoodIn wsX0_scanFrom (wsV RX0 61 RX3 yX3_item wsX3_item) := goodIn_app (goodIn_of _ (by decide +kernel)) ggX0_scanFrom_X3_item
theorem dX0_scanFrom_0 : decode cX0_scanFrom 0 = .ok (.aload_n 0, 1) := by decide +kernel
theorem dX0_scanFrom_1 : decode cX0_scanFrom 1 = .ok (.getfield 12, 3) := by decide +kernel
theorem dX0_scanFrom_4 : decode cX0_scanFrom 4 = .ok (.invokevirtual 84, 3) := by decide +kernel
theorem dX0_scanFrom_7 : decode cX0_scanFrom 7 = .ok (.aload_n 0, 1) := by decide +kernel
theorem dX0_scanFrom_8 : decode cX0_scanFrom 8 = .ok (.aload_n 1, 1) := by decide +kernel
theorem dX0_scanFrom_9 : decode cX0_scanFrom 9 = .ok (.invokevirtual 110, 3) := by decide +kernel
theorem dX0_scanFrom_12 : decode cX0_scanFrom 12 = .ok (.iconst 0, 1) := by decide +kernel
theorem dX0_scanFrom_13 : decode cX0_scanFrom 13 = .ok (.istore_n 2, 1) := by decide +kernel
theorem dX0_scanFrom_14 : decode cX0_scanFrom 14 = .ok (.iload_n 2, 1) := by decide +kernel
theorem dX0_scanFrom_15 : decode cX0_scanFrom 15 = .ok (.bipush 80, 2) := by decide +kernel
theorem dX0_scanFrom_17 : decode cX0_scanFrom 17 = .ok (.if_icmp .ge 81, 3) := by decide +kernel
theorem dX0_scanFrom_20 : decode cX0_scanFrom 20 = .ok (.iload_n 2, 1) := by decide +kernel
theorem dX0_scanFrom_21 : decode cX0_scanFrom 21 = .ok (.aload_n 0, 1) := by decide +kernel
theorem dX0_scanFrom_22 : decode cX0_scanFrom 22 = .ok (.getfield 12, 3) := by decide +kernel
theorem dX0_scanFrom_25 : decode cX0_scanFrom 25 = .ok (.getfield 58, 3) := by decide +kernel
theorem dX0_scanFrom_28 : decode cX0_scanFrom 28 = .ok (.if_icmp .ge 70, 3) := by decide +kernel
theorem dX0_scanFrom_31 : decode cX0_scanFrom 31 = .ok (.aload_n 0, 1) := by decide +kernel
theorem dX0_scanFrom_32 : decode cX0_scanFrom 32 = .ok (.getfield 12, 3) := by decide +kernel
theorem dX0_scanFrom_35 : decode cX0_scanFrom 35 = .ok (.iload_n 2, 1) := by decide +kernel
theorem dX0_scanFrom_36 : decode cX0_scanFrom 36 = .ok (.invokevirtual 61, 3) := by decide +kernel
theorem dX0_scanFrom_39 : decode cX0_scanFrom 39 = .ok (.astore_n 3, 1) := by decide +kernel
theorem dX0_scanFrom_40 : decode cX0_scanFrom 40 = .ok (.aload_n 3, 1) := by decide +kernel
theorem dX0_scanFrom_41 : decode cX0_scanFrom 41 = .ok (.ifnonnull 6, 3) := by decide +kernel
theorem dX0_scanFrom_44 : decode cX0_scanFrom 44 = .ok (.goto 48, 3) := by decide +kernel
theorem dX0_scanFrom_47 : decode cX0_scanFrom 47 = .ok (.aload_n 3, 1) := by decide +kernel
theorem dX0_scanFrom_48 : decode cX0_scanFrom 48 = .ok (.getfield 90, 3) := by decide +kernel
theorem dX0_scanFrom_51 : decode cX0_scanFrom 51 = .ok (.astore 4, 2) := by decide +kernel
theorem dX0_scanFrom_53 : decode cX0_scanFrom 53 = .ok (.aload 4, 2) := by decide +kernel
theorem dX0_scanFrom_55 : decode cX0_scanFrom 55 = .ok (.arraylength, 1) := by decide +kernel
theorem dX0_scanFrom_56 : decode cX0_scanFrom 56 = .ok (.istore 5, 2) := by decide +kernel
theorem dX0_scanFrom_58 : decode cX0_scanFrom 58 = .ok (.iconst 0, 1) := by decide +kernel
theorem dX0_scanFrom_59 : decode cX0_scanFrom 59 = .ok (.istore 6, 2) := by decide +kernel
theorem dX0_scanFrom_61 : decode cX0_scanFrom 61 = .ok (.iload 6, 2) := by decide +kernel
theorem dX0_scanFrom_63 : decode cX0_scanFrom 63 = .ok (.iload 5, 2) := by decide +kernel
theorem dX0_scanFrom_65 : decode cX0_scanFrom 65 = .ok (.if_icmp .ge 27, 3) := by decide +kernel
theorem dX0_scanFrom_68 : decode cX0_scanFrom 68 = .ok (.aload 4, 2) := by decide +kernel
theorem dX0_scanFrom_70 : decode cX0_scanFrom 70 = .ok (.iload 6, 2) := by decide +kernel
theorem dX0_scanFrom_72 : decode cX0_scanFrom 72 = .ok (.aaload, 1) := by decide +kernel
theorem dX0_scanFrom_73 : decode cX0_scanFrom 73 = .ok (.astore 7, 2) := by decide +kernel
theorem dX0_scanFrom_75 : decode cX0_scanFrom 75 = .ok (.aload 7, 2) := by decide +kernel
theorem dX0_scanFrom_77 : decode cX0_scanFrom 77 = .ok (.ifnull 9, 3) := by decide +kernel
theorem dX0_scanFrom_80 : decode cX0_scanFrom 80 = .ok (.aload_n 0, 1) := by decide +kernel
theorem dX0_scanFrom_81 : decode cX0_scanFrom 81 = .ok (.aload 7, 2) := by decide +kernel
theorem dX0_scanFrom_83 : decode cX0_scanFrom 83 = .ok (.invokevirtual 110, 3) := by decide +kernel
theorem dX0_scanFrom_86 : decode cX0_scanFrom 86 = .ok (.iinc 6 1, 3) := by decide +kernel
theorem dX0_scanFrom_89 : decode cX0_scanFrom 89 = .ok (.goto (-28), 3) := by decide +kernel
theorem dX0_scanFrom_92 : decode cX0_scanFrom 92 = .ok (.iinc 2 1, 3) := by decide +kernel
theorem dX0_scanFrom_95 : decode cX0_scanFrom 95 = .ok (.goto (-81), 3) := by decide +kernel
theorem dX0_scanFrom_98 : decode cX0_scanFrom 98 = .ok (.return_, 1) := by decide +kernel
set_option maxRecDepth 20000 in
theorem ggX0_judge_X0_blackenFrom : GoodIn wsX0_judge wsX0_blackenFrom := goodIn_r _ [8, 9, 10, 11, 2, 12, 13, 14, 15, 16, 17, 18, 19, 20, 7, 21, 1, 22, 23, 24, 25, 26, 27, 28, 29, 30, 31, 32, 33, 34, 35, 36, 37, 49, 50, 51, 52, 53, 54, 55, 56, 57, 38, 39, 40, 41, 42, 43, 44, 45, 46, 47, 48] (by decide +kernel) (by decide +kernel)
set_option maxRecDepth 20000 in
theorem gX0_judge_X0_blackenFrom : GoodIn wsX0_judge (wsV RX0 113 RX0 yX0_blackenFrom wsX0_blackenFrom) := goodIn_app (goodIn_of _ (by decide +kernel)) ggX0_judge_X0_blackenFrom
set_option maxRecDepth 20000 in
theorem ggX0_judge_X3_append : GoodIn wsX0_judge wsX3_append := goodIn_r _ [26, 17, 27, 56, 57] (by decide +kernel) (by decide +kernel)
set_option maxRecDepth 20000 in
theorem gX0_judge_X3_append : GoodIn wsX0_judge (wsV RX0 104 RX3 yX3_append wsX3_append) := goodIn_app (goodIn_of _ (by decide +kernel)) ggX0_judge_X3_append
theorem dX0_judge_0 : decode cX0_judge 0 = .ok (.aload_n 1, 1) := by decide +kernel
theorem dX0_judge_1 : decode cX0_judge 1 = .ok (.getfield 78, 3) := by decide +kernel
theorem dX0_judge_4 : decode cX0_judge 4 = .ok (.iconst 1, 1) := by decide +kernel
theorem dX0_judge_5 : decode cX0_judge 5 = .ok (.if_icmp .eq 4, 3) := by decide +kernel
theorem dX0_judge_8 : decode cX0_judge 8 = .ok (.return_, 1) := by decide +kernel
theorem dX0_judge_9 : decode cX0_judge 9 = .ok (.aload_n 1, 1) := by decide +kernel
theorem dX0_judge_10 : decode cX0_judge 10 = .ok (.getfield 98, 3) := by decide +kernel
theorem dX0_judge_13 : decode cX0_judge 13 = .ok (.ifCond .le 11, 3) := by decide +kernel
theorem dX0_judge_16 : decode cX0_judge 16 = .ok (.aload_n 0, 1) := by decide +kernel
theorem dX0_judge_17 : decode cX0_judge 17 = .ok (.aload_n 1, 1) := by decide +kernel
theorem dX0_judge_18 : decode cX0_judge 18 = .ok (.invokevirtual 113, 3) := by decide +kernel
theorem dX0_judge_21 : decode cX0_judge 21 = .ok (.goto 16, 3) := by decide +kernel
theorem dX0_judge_24 : decode cX0_judge 24 = .ok (.aload_n 1, 1) := by decide +kernel
theorem dX0_judge_25 : decode cX0_judge 25 = .ok (.iconst 2, 1) := by decide +kernel
theorem dX0_judge_26 : decode cX0_judge 26 = .ok (.putfield 78, 3) := by decide +kernel
theorem dX0_judge_29 : decode cX0_judge 29 = .ok (.aload_n 0, 1) := by decide +kernel
theorem dX0_judge_30 : decode cX0_judge 30 = .ok (.getfield 12, 3) := by decide +kernel
theorem dX0_judge_33 : decode cX0_judge 33 = .ok (.aload_n 1, 1) := by decide +kernel
theorem dX0_judge_34 : decode cX0_judge 34 = .ok (.invokevirtual 104, 3) := by decide +kernel
theorem dX0_judge_37 : decode cX0_judge 37 = .ok (.return_, 1) := by decide +kernel
set_option maxRecDepth 20000 in
theorem ggX0_blackenFrom_X3_clear : GoodIn wsX0_blackenFrom wsX3_clear := goodIn_r _ [9, 10, 40, 41] (by decide +kernel) (by decide +kernel)
set_option maxRecDepth 20000 in
theorem gX0_blackenFrom_X3_clear : GoodIn wsX0_blackenFrom (wsV RX0 84 RX3 yX3_clear wsX3_clear) := goodIn_app (goodIn_of _ (by decide +kernel)) ggX0_blackenFrom_X3_clear
set_option maxRecDepth 20000 in
theorem ggX0_blackenFrom_X0_turnBlack : GoodIn wsX0_blackenFrom wsX0_turnBlack := goodIn_r _ [15, 16, 17, 1, 18, 19, 20, 8, 21, 10, 22, 42, 43, 44, 45, 46, 47, 48, 49, 50, 51, 52, 33, 34, 35, 36, 37, 38, 39, 40, 41] (by decide +kernel) (by decide +kernel)
set_option maxRecDepth 20000 in
theorem gX0_blackenFrom_X0_turnBlack : GoodIn wsX0_blackenFrom (wsV RX0 116 RX0 yX0_turnBlack wsX0_turnBlack) := goodIn_app (goodIn_of _ (by decide +kernel)) ggX0_blackenFrom_X0_turnBlack
set_option maxRecDepth 20000 in
theorem ggX0_blackenFrom_X3_item : GoodIn wsX0_blackenFrom wsX3_item := goodIn_r _ [26, 10, 22, 40, 41] (by decide +kernel) (by decide +kernel)
set_option maxRecDepth 20000 in
theorem gX0_blackenFrom_X3_item : GoodIn wsX0_blackenFrom (wsV RX0 61 RX3 yX3_item wsX3_item) := goodIn_app (goodIn_of _ (by decide +kernel)) ggX0_blackenFrom_X3_item
set_option maxRecDepth 20000 in
theorem ggX0_blackenFrom_X5_isGreen : GoodIn wsX0_blackenFrom wsX5_isGreen := goodIn_r _ [31, 32, 42, 43, 44, 45, 46, 47, 48, 49, 50, 51, 52] (by decide +kernel) (by decide +kernel)
set_option maxRecDepth 20000 in
theorem gX0_blackenFrom_X5_isGreen : GoodIn wsX0_blackenFrom (wsV RX0 94 RX5 yX5_isGreen wsX5_isGreen) := goodIn_app (goodIn_of _ (by decide +kernel)) ggX0_blackenFrom_X5_isGreen
theorem dX0_blackenFrom_0 : decode cX0_blackenFrom 0 = .ok (.aload_n 0, 1) := by decide +kernel
theorem dX0_blackenFrom_1 : decode cX0_blackenFrom 1 = .ok (.getfield 18, 3) := by decide +kernel
theorem dX0_blackenFrom_4 : decode cX0_blackenFrom 4 = .ok (.invokevirtual 84, 3) := by decide +kernel
theorem dX0_blackenFrom_7 : decode cX0_blackenFrom 7 = .ok (.aload_n 0, 1) := by decide +kernel
theorem dX0_blackenFrom_8 : decode cX0_blackenFrom 8 = .ok (.aload_n 1, 1) := by decide +kernel
theorem dX0_blackenFrom_9 : decode cX0_blackenFrom 9 = .ok (.invokevirtual 116, 3) := by decide +kernel
theorem dX0_blackenFrom_12 : decode cX0_blackenFrom 12 = .ok (.iconst 0, 1) := by decide +kernel
theorem dX0_blackenFrom_13 : decode cX0_blackenFrom 13 = .ok (.istore_n 2, 1) := by decide +kernel
theorem dX0_blackenFrom_14 : decode cX0_blackenFrom 14 = .ok (.iload_n 2, 1) := by decide +kernel
theorem dX0_blackenFrom_15 : decode cX0_blackenFrom 15 = .ok (.bipush 80, 2) := by decide +kernel
theorem dX0_blackenFrom_17 : decode cX0_blackenFrom 17 = .ok (.if_icmp .ge 100, 3) := by decide +kernel
theorem dX0_blackenFrom_20 : decode cX0_blackenFrom 20 = .ok (.iload_n 2, 1) := by decide +kernel
theorem dX0_blackenFrom_21 : decode cX0_blackenFrom 21 = .ok (.aload_n 0, 1) := by decide +kernel
theorem dX0_blackenFrom_22 : decode cX0_blackenFrom 22 = .ok (.getfield 18, 3) := by decide +kernel
theorem dX0_blackenFrom_25 : decode cX0_blackenFrom 25 = .ok (.getfield 58, 3) := by decide +kernel
theorem dX0_blackenFrom_28 : decode cX0_blackenFrom 28 = .ok (.if_icmp .ge 89, 3) := by decide +kernel
theorem dX0_blackenFrom_31 : decode cX0_blackenFrom 31 = .ok (.aload_n 0, 1) := by decide +kernel
theorem dX0_blackenFrom_32 : decode cX0_blackenFrom 32 = .ok (.getfield 18, 3) := by decide +kernel
theorem dX0_blackenFrom_35 : decode cX0_blackenFrom 35 = .ok (.iload_n 2, 1) := by decide +kernel
theorem dX0_blackenFrom_36 : decode cX0_blackenFrom 36 = .ok (.invokevirtual 61, 3) := by decide +kernel
theorem dX0_blackenFrom_39 : decode cX0_blackenFrom 39 = .ok (.astore_n 3, 1) := by decide +kernel
theorem dX0_blackenFrom_40 : decode cX0_blackenFrom 40 = .ok (.aload_n 3, 1) := by decide +kernel
theorem dX0_blackenFrom_41 : decode cX0_blackenFrom 41 = .ok (.ifnonnull 6, 3) := by decide +kernel
theorem dX0_blackenFrom_44 : decode cX0_blackenFrom 44 = .ok (.goto 67, 3) := by decide +kernel
theorem dX0_blackenFrom_47 : decode cX0_blackenFrom 47 = .ok (.aload_n 3, 1) := by decide +kernel
theorem dX0_blackenFrom_48 : decode cX0_blackenFrom 48 = .ok (.getfield 90, 3) := by decide +kernel
theorem dX0_blackenFrom_51 : decode cX0_blackenFrom 51 = .ok (.astore 4, 2) := by decide +kernel
theorem dX0_blackenFrom_53 : decode cX0_blackenFrom 53 = .ok (.aload 4, 2) := by decide +kernel
theorem dX0_blackenFrom_55 : decode cX0_blackenFrom 55 = .ok (.arraylength, 1) := by decide +kernel
theorem dX0_blackenFrom_56 : decode cX0_blackenFrom 56 = .ok (.istore 5, 2) := by decide +kernel
theorem dX0_blackenFrom_58 : decode cX0_blackenFrom 58 = .ok (.iconst 0, 1) := by decide +kernel
theorem dX0_blackenFrom_59 : decode cX0_blackenFrom 59 = .ok (.istore 6, 2) := by decide +kernel
theorem dX0_blackenFrom_61 : decode cX0_blackenFrom 61 = .ok (.iload 6, 2) := by decide +kernel
theorem dX0_blackenFrom_63 : decode cX0_blackenFrom 63 = .ok (.iload 5, 2) := by decide +kernel
theorem dX0_blackenFrom_65 : decode cX0_blackenFrom 65 = .ok (.if_icmp .ge 46, 3) := by decide +kernel
theorem dX0_blackenFrom_68 : decode cX0_blackenFrom 68 = .ok (.aload 4, 2) := by decide +kernel
theorem dX0_blackenFrom_70 : decode cX0_blackenFrom 70 = .ok (.iload 6, 2) := by decide +kernel
theorem dX0_blackenFrom_72 : decode cX0_blackenFrom 72 = .ok (.aaload, 1) := by decide +kernel
theorem dX0_blackenFrom_73 : decode cX0_blackenFrom 73 = .ok (.astore 7, 2) := by decide +kernel
theorem dX0_blackenFrom_75 : decode cX0_blackenFrom 75 = .ok (.aload 7, 2) := by decide +kernel
theorem dX0_blackenFrom_77 : decode cX0_blackenFrom 77 = .ok (.ifnull 28, 3) := by decide +kernel
theorem dX0_blackenFrom_80 : decode cX0_blackenFrom 80 = .ok (.aload 7, 2) := by decide +kernel
theorem dX0_blackenFrom_82 : decode cX0_blackenFrom 82 = .ok (.invokevirtual 94, 3) := by decide +kernel
theorem dX0_blackenFrom_85 : decode cX0_blackenFrom 85 = .ok (.ifCond .ne 20, 3) := by decide +kernel
theorem dX0_blackenFrom_88 : decode cX0_blackenFrom 88 = .ok (.aload 7, 2) := by decide +kernel
theorem dX0_blackenFrom_90 : decode cX0_blackenFrom 90 = .ok (.dup, 1) := by decide +kernel
theorem dX0_blackenFrom_91 : decode cX0_blackenFrom 91 = .ok (.getfield 98, 3) := by decide +kernel
theorem dX0_blackenFrom_94 : decode cX0_blackenFrom 94 = .ok (.iconst 1, 1) := by decide +kernel
theorem dX0_blackenFrom_95 : decode cX0_blackenFrom 95 = .ok (.iadd, 1) := by decide +kernel
theorem dX0_blackenFrom_96 : decode cX0_blackenFrom 96 = .ok (.putfield 98, 3) := by decide +kernel
theorem dX0_blackenFrom_99 : decode cX0_blackenFrom 99 = .ok (.aload_n 0, 1) := by decide +kernel
theorem dX0_blackenFrom_100 : decode cX0_blackenFrom 100 = .ok (.aload 7, 2) := by decide +kernel
theorem dX0_blackenFrom_102 : decode cX0_blackenFrom 102 = .ok (.invokevirtual 116, 3) := by decide +kernel
theorem dX0_blackenFrom_105 : decode cX0_blackenFrom 105 = .ok (.iinc 6 1, 3) := by decide +kernel
theorem dX0_blackenFrom_108 : decode cX0_blackenFrom 108 = .ok (.goto (-47), 3) := by decide +kernel
theorem dX0_blackenFrom_111 : decode cX0_blackenFrom 111 = .ok (.iinc 2 1, 3) := by decide +kernel
theorem dX0_blackenFrom_114 : decode cX0_blackenFrom 114 = .ok (.goto (-100), 3) := by decide +kernel
theorem dX0_blackenFrom_117 : decode cX0_blackenFrom 117 = .ok (.return_, 1) := by decide +kernel
set_option maxRecDepth 20000 in
theorem ggX0_turnBlack_X3_append : GoodIn wsX0_turnBlack wsX3_append := goodIn_r _ [8, 9, 10, 29, 30] (by decide +kernel) (by decide +kernel)
set_option maxRecDepth 20000 in
theorem gX0_turnBlack_X3_append : GoodIn wsX0_turnBlack (wsV RX0 104 RX3 yX3_append wsX3_append) := goodIn_app (goodIn_of _ (by decide +kernel)) ggX0_turnBlack_X3_append
theorem dX0_turnBlack_0 : decode cX0_turnBlack 0 = .ok (.aload_n 1, 1) := by decide +kernel
theorem dX0_turnBlack_1 : decode cX0_turnBlack 1 = .ok (.getfield 78, 3) := by decide +kernel
theorem dX0_turnBlack_4 : decode cX0_turnBlack 4 = .ok (.ifCond .eq 26, 3) := by decide +kernel
theorem dX0_turnBlack_7 : decode cX0_turnBlack 7 = .ok (.aload_n 1, 1) := by decide +kernel
theorem dX0_turnBlack_8 : decode cX0_turnBlack 8 = .ok (.iconst 0, 1) := by decide +kernel
theorem dX0_turnBlack_9 : decode cX0_turnBlack 9 = .ok (.putfield 78, 3) := by decide +kernel
theorem dX0_turnBlack_12 : decode cX0_turnBlack 12 = .ok (.aload_n 0, 1) := by decide +kernel
theorem dX0_turnBlack_13 : decode cX0_turnBlack 13 = .ok (.dup, 1) := by decide +kernel
theorem dX0_turnBlack_14 : decode cX0_turnBlack 14 = .ok (.getfield 119, 3) := by decide +kernel
theorem dX0_turnBlack_17 : decode cX0_turnBlack 17 = .ok (.iconst 1, 1) := by decide +kernel
theorem dX0_turnBlack_18 : decode cX0_turnBlack 18 = .ok (.iadd, 1) := by decide +kernel
theorem dX0_turnBlack_19 : decode cX0_turnBlack 19 = .ok (.putfield 119, 3) := by decide +kernel
theorem dX0_turnBlack_22 : decode cX0_turnBlack 22 = .ok (.aload_n 0, 1) := by decide +kernel
theorem dX0_turnBlack_23 : decode cX0_turnBlack 23 = .ok (.getfield 18, 3) := by decide +kernel
theorem dX0_turnBlack_26 : decode cX0_turnBlack 26 = .ok (.aload_n 1, 1) := by decide +kernel
theorem dX0_turnBlack_27 : decode cX0_turnBlack 27 = .ok (.invokevirtual 104, 3) := by decide +kernel
theorem dX0_turnBlack_30 : decode cX0_turnBlack 30 = .ok (.return_, 1) := by decide +kernel
set_option maxRecDepth 20000 in
theorem ggX0_tellWishes_X6_ownerFrom : GoodIn wsX0_tellWishes wsX6_ownerFrom := goodIn_r _ [10, 11, 12, 13, 14, 9, 15, 16, 74, 75, 76, 77, 78, 79, 80, 81, 82, 83, 84, 85, 86] (by decide +kernel) (by decide +kernel)
set_option maxRecDepth 20000 in
theorem gX0_tellWishes_X6_ownerFrom : GoodIn wsX0_tellWishes (wsV RX0 126 RX6 yX6_ownerFrom wsX6_ownerFrom) := goodIn_app (goodIn_of _ (by decide +kernel)) ggX0_tellWishes_X6_ownerFrom
set_option maxRecDepth 20000 in
theorem ggX0_tellWishes_X1_tellWish : GoodIn wsX0_tellWishes wsX1_tellWish := goodIn_r _ [21, 22, 23, 24, 25, 26, 27, 28, 29, 30, 31, 74, 75, 76, 77, 78, 79, 80, 81, 82, 83, 84, 87, 88, 89, 90, 91, 92] (by decide +kernel) (by decide +kernel)
set_option maxRecDepth 20000 in
theorem gX0_tellWishes_X1_tellWish : GoodIn wsX0_tellWishes (wsV RX0 134 RX1 yX1_tellWish wsX1_tellWish) := goodIn_app (goodIn_of _ (by decide +kernel)) ggX0_tellWishes_X1_tellWish
set_option maxRecDepth 20000 in
theorem ggX0_tellWishes_X0_blackenFrom : GoodIn wsX0_tellWishes wsX0_blackenFrom := goodIn_r _ [36, 37, 38, 39, 40, 41, 42, 43, 28, 44, 30, 45, 46, 47, 35, 48, 3, 49, 50, 26, 27, 29, 31, 51, 52, 53, 54, 55, 56, 57, 58, 59, 60, 61, 62, 63, 64, 65, 66, 67, 91, 92, 74, 75, 76, 77, 78, 79, 80, 81, 82, 83, 84] (by decide +kernel) (by decide +kernel)
set_option maxRecDepth 20000 in
theorem gX0_tellWishes_X0_blackenFrom : GoodIn wsX0_tellWishes (wsV RX0 113 RX0 yX0_blackenFrom wsX0_blackenFrom) := goodIn_app (goodIn_of _ (by decide +kernel)) ggX0_tellWishes_X0_blackenFrom
theorem dX0_tellWishes_0 : decode cX0_tellWishes 0 = .ok (.iconst 0, 1) := by decide +kernel
theorem dX0_tellWishes_1 : decode cX0_tellWishes 1 = .ok (.istore_n 1, 1) := by decide +kernel
theorem dX0_tellWishes_2 : decode cX0_tellWishes 2 = .ok (.iload_n 1, 1) := by decide +kernel
theorem dX0_tellWishes_3 : decode cX0_tellWishes 3 = .ok (.sipush 400, 3) := by decide +kernel
theorem dX0_tellWishes_6 : decode cX0_tellWishes 6 = .ok (.if_icmp .ge 53, 3) := by decide +kernel
theorem dX0_tellWishes_9 : decode cX0_tellWishes 9 = .ok (.aload_n 0, 1) := by decide +kernel
theorem dX0_tellWishes_10 : decode cX0_tellWishes 10 = .ok (.getfield 21, 3) := by decide +kernel
theorem dX0_tellWishes_13 : decode cX0_tellWishes 13 = .ok (.getfield 122, 3) := by decide +kernel
theorem dX0_tellWishes_16 : decode cX0_tellWishes 16 = .ok (.iload_n 1, 1) := by decide +kernel
theorem dX0_tellWishes_17 : decode cX0_tellWishes 17 = .ok (.invokevirtual 126, 3) := by decide +kernel
theorem dX0_tellWishes_20 : decode cX0_tellWishes 20 = .ok (.astore_n 2, 1) := by decide +kernel
theorem dX0_tellWishes_21 : decode cX0_tellWishes 21 = .ok (.aload_n 2, 1) := by decide +kernel
theorem dX0_tellWishes_22 : decode cX0_tellWishes 22 = .ok (.ifnull 31, 3) := by decide +kernel
theorem dX0_tellWishes_25 : decode cX0_tellWishes 25 = .ok (.aload_n 2, 1) := by decide +kernel
theorem dX0_tellWishes_26 : decode cX0_tellWishes 26 = .ok (.getfield 78, 3) := by decide +kernel
theorem dX0_tellWishes_29 : decode cX0_tellWishes 29 = .ok (.iconst 2, 1) := by decide +kernel
theorem dX0_tellWishes_30 : decode cX0_tellWishes 30 = .ok (.if_icmp .ne 23, 3) := by decide +kernel
theorem dX0_tellWishes_33 : decode cX0_tellWishes 33 = .ok (.aload_n 2, 1) := by decide +kernel
theorem dX0_tellWishes_34 : decode cX0_tellWishes 34 = .ok (.getfield 131, 3) := by decide +kernel
theorem dX0_tellWishes_37 : decode cX0_tellWishes 37 = .ok (.ifCond .eq 16, 3) := by decide +kernel
theorem dX0_tellWishes_40 : decode cX0_tellWishes 40 = .ok (.aload_n 0, 1) := by decide +kernel
theorem dX0_tellWishes_41 : decode cX0_tellWishes 41 = .ok (.getfield 25, 3) := by decide +kernel
theorem dX0_tellWishes_44 : decode cX0_tellWishes 44 = .ok (.aload_n 2, 1) := by decide +kernel
theorem dX0_tellWishes_45 : decode cX0_tellWishes 45 = .ok (.invokevirtual 134, 3) := by decide +kernel
theorem dX0_tellWishes_48 : decode cX0_tellWishes 48 = .ok (.aload_n 0, 1) := by decide +kernel
theorem dX0_tellWishes_49 : decode cX0_tellWishes 49 = .ok (.aload_n 2, 1) := by decide +kernel
theorem dX0_tellWishes_50 : decode cX0_tellWishes 50 = .ok (.invokevirtual 113, 3) := by decide +kernel
theorem dX0_tellWishes_53 : decode cX0_tellWishes 53 = .ok (.iinc 1 1, 3) := by decide +kernel
theorem dX0_tellWishes_56 : decode cX0_tellWishes 56 = .ok (.goto (-54), 3) := by decide +kernel
theorem dX0_tellWishes_59 : decode cX0_tellWishes 59 = .ok (.return_, 1) := by decide +kernel
set_option maxRecDepth 20000 in
theorem ggX0_emptyList_X3_item : GoodIn wsX0_emptyList wsX3_item := goodIn_r _ [9, 10, 11, 27, 28] (by decide +kernel) (by decide +kernel)
set_option maxRecDepth 20000 in
theorem gX0_emptyList_X3_item : GoodIn wsX0_emptyList (wsV RX0 61 RX3 yX3_item wsX3_item) := goodIn_app (goodIn_of _ (by decide +kernel)) ggX0_emptyList_X3_item
set_option maxRecDepth 20000 in
theorem ggX0_emptyList_X3_clear : GoodIn wsX0_emptyList wsX3_clear := goodIn_r _ [15, 10, 27, 28] (by decide +kernel) (by decide +kernel)
set_option maxRecDepth 20000 in
theorem gX0_emptyList_X3_clear : GoodIn wsX0_emptyList (wsV RX0 84 RX3 yX3_clear wsX3_clear) := goodIn_app (goodIn_of _ (by decide +kernel)) ggX0_emptyList_X3_clear
theorem dX0_emptyList_0 : decode cX0_emptyList 0 = .ok (.aload_n 0, 1) := by decide +kernel
theorem dX0_emptyList_1 : decode cX0_emptyList 1 = .ok (.getfield 25, 3) := by decide +kernel
theorem dX0_emptyList_4 : decode cX0_emptyList 4 = .ok (.getfield 53, 3) := by decide +kernel
theorem dX0_emptyList_7 : decode cX0_emptyList 7 = .ok (.astore_n 1, 1) := by decide +kernel
theorem dX0_emptyList_8 : decode cX0_emptyList 8 = .ok (.iconst 0, 1) := by decide +kernel
theorem dX0_emptyList_9 : decode cX0_emptyList 9 = .ok (.istore_n 2, 1) := by decide +kernel
theorem dX0_emptyList_10 : decode cX0_emptyList 10 = .ok (.iload_n 2, 1) := by decide +kernel
theorem dX0_emptyList_11 : decode cX0_emptyList 11 = .ok (.aload_n 1, 1) := by decide +kernel
theorem dX0_emptyList_12 : decode cX0_emptyList 12 = .ok (.getfield 58, 3) := by decide +kernel
theorem dX0_emptyList_15 : decode cX0_emptyList 15 = .ok (.if_icmp .ge 24, 3) := by decide +kernel
theorem dX0_emptyList_18 : decode cX0_emptyList 18 = .ok (.aload_n 1, 1) := by decide +kernel
theorem dX0_emptyList_19 : decode cX0_emptyList 19 = .ok (.iload_n 2, 1) := by decide +kernel
theorem dX0_emptyList_20 : decode cX0_emptyList 20 = .ok (.invokevirtual 61, 3) := by decide +kernel
theorem dX0_emptyList_23 : decode cX0_emptyList 23 = .ok (.astore_n 3, 1) := by decide +kernel
theorem dX0_emptyList_24 : decode cX0_emptyList 24 = .ok (.aload_n 3, 1) := by decide +kernel
theorem dX0_emptyList_25 : decode cX0_emptyList 25 = .ok (.ifnull 8, 3) := by decide +kernel
theorem dX0_emptyList_28 : decode cX0_emptyList 28 = .ok (.aload_n 3, 1) := by decide +kernel
theorem dX0_emptyList_29 : decode cX0_emptyList 29 = .ok (.iconst 0, 1) := by decide +kernel
theorem dX0_emptyList_30 : decode cX0_emptyList 30 = .ok (.putfield 71, 3) := by decide +kernel
theorem dX0_emptyList_33 : decode cX0_emptyList 33 = .ok (.iinc 2 1, 3) := by decide +kernel
theorem dX0_emptyList_36 : decode cX0_emptyList 36 = .ok (.goto (-26), 3) := by decide +kernel
theorem dX0_emptyList_39 : decode cX0_emptyList 39 = .ok (.aload_n 1, 1) := by decide +kernel
theorem dX0_emptyList_40 : decode cX0_emptyList 40 = .ok (.invokevirtual 84, 3) := by decide +kernel
theorem dX0_emptyList_43 : decode cX0_emptyList 43 = .ok (.return_, 1) := by decide +kernel
set_option maxRecDepth 20000 in
theorem ggX0_freeWhite_X6_ownerFrom : GoodIn wsX0_freeWhite wsX6_ownerFrom := goodIn_r _ [10, 11, 12, 13, 14, 9, 15, 16, 118, 119, 120, 121, 122, 123, 124, 125, 126, 127, 128, 129, 130] (by decide +kernel) (by decide +kernel)
set_option maxRecDepth 20000 in
theorem gX0_freeWhite_X6_ownerFrom : GoodIn wsX0_freeWhite (wsV RX0 126 RX6 yX6_ownerFrom wsX6_ownerFrom) := goodIn_app (goodIn_of _ (by decide +kernel)) ggX0_freeWhite_X6_ownerFrom
set_option maxRecDepth 20000 in
theorem ggX0_freeWhite_X5_isGreen : GoodIn wsX0_freeWhite wsX5_isGreen := goodIn_r _ [21, 22, 118, 119, 120, 121, 122, 123, 124, 125, 126, 127, 128] (by decide +kernel) (by decide +kernel)
set_option maxRecDepth 20000 in
theorem gX0_freeWhite_X5_isGreen : GoodIn wsX0_freeWhite (wsV RX0 94 RX5 yX5_isGreen wsX5_isGreen) := goodIn_app (goodIn_of _ (by decide +kernel)) ggX0_freeWhite_X5_isGreen
set_option maxRecDepth 20000 in
theorem ggX0_freeWhite_X1_less : GoodIn wsX0_freeWhite wsX1_less := goodIn_r _ [27, 28, 29, 30, 31, 32, 33, 26, 34, 35, 36, 37, 38, 39, 40, 41, 42, 43, 44, 18, 19, 20, 21, 22, 45, 46, 47, 48, 49, 50, 51, 52, 53, 54, 55, 56, 57, 58, 59, 60, 61, 62, 63, 64, 65, 66, 67, 68, 69, 70, 71, 72, 73, 74, 75, 76, 77, 78, 79, 80, 81, 82, 83, 84, 85, 86, 87, 88, 89, 90, 91, 92, 93, 94, 95, 96, 97, 98, 99, 9, 100, 11, 101, 102, 16, 103, 131, 132, 133, 134, 112, 113, 114, 115, 116, 117, 118, 119, 120, 121, 122, 123, 124, 125, 126, 127, 128, 135, 136, 137, 138, 139, 140, 129, 130] (by decide +kernel) (by decide +kernel)
set_option maxRecDepth 20000 in
theorem gX0_freeWhite_X1_less : GoodIn wsX0_freeWhite (wsV RX0 137 RX1 yX1_less wsX1_less) := goodIn_app (goodIn_of _ (by decide +kernel)) ggX0_freeWhite_X1_less
set_option maxRecDepth 20000 in
theorem ggX0_freeWhite_X4_free : GoodIn wsX0_freeWhite wsX4_free := goodIn_r _ [89, 90, 91, 92, 93, 94, 95, 96, 97, 98, 99, 9, 100, 11, 101, 102, 16, 103, 112, 113, 114, 115, 116, 117, 118, 119, 120, 121, 122, 123, 124, 125, 126, 127, 128, 137, 138, 139, 140, 129, 130] (by decide +kernel) (by decide +kernel)
set_option maxRecDepth 20000 in
theorem gX0_freeWhite_X4_free : GoodIn wsX0_freeWhite (wsV RX0 74 RX4 yX4_free wsX4_free) := goodIn_app (goodIn_of _ (by decide +kernel)) ggX0_freeWhite_X4_free
theorem dX0_freeWhite_0 : decode cX0_freeWhite 0 = .ok (.iconst 0, 1) := by decide +kernel
theorem dX0_freeWhite_1 : decode cX0_freeWhite 1 = .ok (.istore_n 1, 1) := by decide +kernel
theorem dX0_freeWhite_2 : decode cX0_freeWhite 2 = .ok (.iload_n 1, 1) := by decide +kernel
theorem dX0_freeWhite_3 : decode cX0_freeWhite 3 = .ok (.sipush 400, 3) := by decide +kernel
theorem dX0_freeWhite_6 : decode cX0_freeWhite 6 = .ok (.if_icmp .ge 98, 3) := by decide +kernel
theorem dX0_freeWhite_9 : decode cX0_freeWhite 9 = .ok (.aload_n 0, 1) := by decide +kernel
theorem dX0_freeWhite_10 : decode cX0_freeWhite 10 = .ok (.getfield 21, 3) := by decide +kernel
theorem dX0_freeWhite_13 : decode cX0_freeWhite 13 = .ok (.getfield 122, 3) := by decide +kernel
theorem dX0_freeWhite_16 : decode cX0_freeWhite 16 = .ok (.iload_n 1, 1) := by decide +kernel
theorem dX0_freeWhite_17 : decode cX0_freeWhite 17 = .ok (.invokevirtual 126, 3) := by decide +kernel
theorem dX0_freeWhite_20 : decode cX0_freeWhite 20 = .ok (.astore_n 2, 1) := by decide +kernel
theorem dX0_freeWhite_21 : decode cX0_freeWhite 21 = .ok (.aload_n 2, 1) := by decide +kernel
theorem dX0_freeWhite_22 : decode cX0_freeWhite 22 = .ok (.ifnull 76, 3) := by decide +kernel
theorem dX0_freeWhite_25 : decode cX0_freeWhite 25 = .ok (.aload_n 2, 1) := by decide +kernel
theorem dX0_freeWhite_26 : decode cX0_freeWhite 26 = .ok (.getfield 78, 3) := by decide +kernel
theorem dX0_freeWhite_29 : decode cX0_freeWhite 29 = .ok (.iconst 2, 1) := by decide +kernel
theorem dX0_freeWhite_30 : decode cX0_freeWhite 30 = .ok (.if_icmp .eq 6, 3) := by decide +kernel
theorem dX0_freeWhite_33 : decode cX0_freeWhite 33 = .ok (.goto 65, 3) := by decide +kernel
theorem dX0_freeWhite_36 : decode cX0_freeWhite 36 = .ok (.aload_n 2, 1) := by decide +kernel
theorem dX0_freeWhite_37 : decode cX0_freeWhite 37 = .ok (.getfield 90, 3) := by decide +kernel
theorem dX0_freeWhite_40 : decode cX0_freeWhite 40 = .ok (.astore_n 3, 1) := by decide +kernel
theorem dX0_freeWhite_41 : decode cX0_freeWhite 41 = .ok (.aload_n 3, 1) := by decide +kernel
theorem dX0_freeWhite_42 : decode cX0_freeWhite 42 = .ok (.arraylength, 1) := by decide +kernel
theorem dX0_freeWhite_43 : decode cX0_freeWhite 43 = .ok (.istore 4, 2) := by decide +kernel
theorem dX0_freeWhite_45 : decode cX0_freeWhite 45 = .ok (.iconst 0, 1) := by decide +kernel
theorem dX0_freeWhite_46 : decode cX0_freeWhite 46 = .ok (.istore 5, 2) := by decide +kernel
theorem dX0_freeWhite_48 : decode cX0_freeWhite 48 = .ok (.iload 5, 2) := by decide +kernel
theorem dX0_freeWhite_50 : decode cX0_freeWhite 50 = .ok (.iload 4, 2) := by decide +kernel
theorem dX0_freeWhite_52 : decode cX0_freeWhite 52 = .ok (.if_icmp .ge 38, 3) := by decide +kernel
theorem dX0_freeWhite_55 : decode cX0_freeWhite 55 = .ok (.aload_n 3, 1) := by decide +kernel
theorem dX0_freeWhite_56 : decode cX0_freeWhite 56 = .ok (.iload 5, 2) := by decide +kernel
theorem dX0_freeWhite_58 : decode cX0_freeWhite 58 = .ok (.aaload, 1) := by decide +kernel
theorem dX0_freeWhite_59 : decode cX0_freeWhite 59 = .ok (.astore 6, 2) := by decide +kernel
theorem dX0_freeWhite_61 : decode cX0_freeWhite 61 = .ok (.aload 6, 2) := by decide +kernel
theorem dX0_freeWhite_63 : decode cX0_freeWhite 63 = .ok (.ifnull 21, 3) := by decide +kernel
theorem dX0_freeWhite_66 : decode cX0_freeWhite 66 = .ok (.aload 6, 2) := by decide +kernel
theorem dX0_freeWhite_68 : decode cX0_freeWhite 68 = .ok (.invokevirtual 94, 3) := by decide +kernel
theorem dX0_freeWhite_71 : decode cX0_freeWhite 71 = .ok (.ifCond .eq 13, 3) := by decide +kernel
theorem dX0_freeWhite_74 : decode cX0_freeWhite 74 = .ok (.aload_n 0, 1) := by decide +kernel
theorem dX0_freeWhite_75 : decode cX0_freeWhite 75 = .ok (.getfield 25, 3) := by decide +kernel
theorem dX0_freeWhite_78 : decode cX0_freeWhite 78 = .ok (.aload 6, 2) := by decide +kernel
theorem dX0_freeWhite_80 : decode cX0_freeWhite 80 = .ok (.invokevirtual 137, 3) := by decide +kernel
theorem dX0_freeWhite_83 : decode cX0_freeWhite 83 = .ok (.pop, 1) := by decide +kernel
theorem dX0_freeWhite_84 : decode cX0_freeWhite 84 = .ok (.iinc 5 1, 3) := by decide +kernel
theorem dX0_freeWhite_87 : decode cX0_freeWhite 87 = .ok (.goto (-39), 3) := by decide +kernel
theorem dX0_freeWhite_90 : decode cX0_freeWhite 90 = .ok (.aload_n 0, 1) := by decide +kernel
theorem dX0_freeWhite_91 : decode cX0_freeWhite 91 = .ok (.getfield 21, 3) := by decide +kernel
theorem dX0_freeWhite_94 : decode cX0_freeWhite 94 = .ok (.aload_n 2, 1) := by decide +kernel
theorem dX0_freeWhite_95 : decode cX0_freeWhite 95 = .ok (.invokevirtual 74, 3) := by decide +kernel
theorem dX0_freeWhite_98 : decode cX0_freeWhite 98 = .ok (.iinc 1 1, 3) := by decide +kernel
theorem dX0_freeWhite_101 : decode cX0_freeWhite 101 = .ok (.goto (-99), 3) := by decide +kernel
theorem dX0_freeWhite_104 : decode cX0_freeWhite 104 = .ok (.return_, 1) := by decide +kernel
end
section
set_option maxRecDepth 20000 in
theorem ggX1_init_X3_init : GoodIn wsX1_init wsX3_init := goodIn_r _ [12, 13, 2, 3, 14, 15, 16, 17] (by decide +kernel) (by decide +kernel)
set_option maxRecDepth 20000 in
theorem gX1_init_X3_init_n11 : GoodIn wsX1_init (wsX3_init) := ggX1_init_X3_init
theorem dX1_init_0 : decode cX1_init 0 = .ok (.aload_n 0, 1) := by decide +kernel
theorem dX1_init_1 : decode cX1_init 1 = .ok (.invokespecial 3, 3) := by decide +kernel
theorem dX1_init_4 : decode cX1_init 4 = .ok (.aload_n 0, 1) := by decide +kernel
theorem dX1_init_5 : decode cX1_init 5 = .ok (.new 9, 3) := by decide +kernel
theorem dX1_init_8 : decode cX1_init 8 = .ok (.dup, 1) := by decide +kernel
theorem dX1_init_9 : decode cX1_init 9 = .ok (.invokespecial 11, 3) := by decide +kernel
theorem dX1_init_12 : decode cX1_init 12 = .ok (.putfield 12, 3) := by decide +kernel
theorem dX1_init_15 : decode cX1_init 15 = .ok (.aload_n 0, 1) := by decide +kernel
theorem dX1_init_16 : decode cX1_init 16 = .ok (.new 9, 3) := by decide +kernel
theorem dX1_init_19 : decode cX1_init 19 = .ok (.dup, 1) := by decide +kernel
theorem dX1_init_20 : decode cX1_init 20 = .ok (.invokespecial 11, 3) := by decide +kernel
theorem dX1_init_23 : decode cX1_init 23 = .ok (.putfield 18, 3) := by decide +kernel
theorem dX1_init_26 : decode cX1_init 26 = .ok (.aload_n 0, 1) := by decide +kernel
theorem dX1_init_27 : decode cX1_init 27 = .ok (.new 9, 3) := by decide +kernel
theorem dX1_init_30 : decode cX1_init 30 = .ok (.dup, 1) := by decide +kernel
theorem dX1_init_31 : decode cX1_init 31 = .ok (.invokespecial 11, 3) := by decide +kernel
theorem dX1_init_34 : decode cX1_init 34 = .ok (.putfield 21, 3) := by decide +kernel
theorem dX1_init_37 : decode cX1_init 37 = .ok (.aload_n 0, 1) := by decide +kernel
theorem dX1_init_38 : decode cX1_init 38 = .ok (.aload_n 1, 1) := by decide +kernel
theorem dX1_init_39 : decode cX1_init 39 = .ok (.putfield 24, 3) := by decide +kernel
theorem dX1_init_42 : decode cX1_init 42 = .ok (.return_, 1) := by decide +kernel
set_option maxRecDepth 20000 in
theorem ggX1_more_X5_blackenUnlessGreen : GoodIn wsX1_more wsX5_blackenUnlessGreen := goodIn_r _ [6, 7, 8, 9, 10, 5, 11, 12, 13, 14, 15, 16, 17, 18, 19, 20, 21, 22] (by decide +kernel) (by decide +kernel)
set_option maxRecDepth 20000 in
theorem gX1_more_X5_blackenUnlessGreen : GoodIn wsX1_more (wsV RX1 34 RX5 yX5_blackenUnlessGreen wsX5_blackenUnlessGreen) := goodIn_app (goodIn_of _ (by decide +kernel)) ggX1_more_X5_blackenUnlessGreen
theorem dX1_more_0 : decode cX1_more 0 = .ok (.aload_n 1, 1) := by decide +kernel
theorem dX1_more_1 : decode cX1_more 1 = .ok (.dup, 1) := by decide +kernel
theorem dX1_more_2 : decode cX1_more 2 = .ok (.getfield 28, 3) := by decide +kernel
theorem dX1_more_5 : decode cX1_more 5 = .ok (.iconst 1, 1) := by decide +kernel
theorem dX1_more_6 : decode cX1_more 6 = .ok (.iadd, 1) := by decide +kernel
theorem dX1_more_7 : decode cX1_more 7 = .ok (.putfield 28, 3) := by decide +kernel
theorem dX1_more_10 : decode cX1_more 10 = .ok (.aload_n 1, 1) := by decide +kernel
theorem dX1_more_11 : decode cX1_more 11 = .ok (.invokevirtual 34, 3) := by decide +kernel
theorem dX1_more_14 : decode cX1_more 14 = .ok (.return_, 1) := by decide +kernel
set_option maxRecDepth 20000 in
theorem ggX1_less_X1_lower : GoodIn wsX1_less wsX1_lower := goodIn_r _ [8, 9, 10, 3, 11, 12, 13, 7, 14, 15, 16, 17, 18, 19, 20, 21, 22, 23, 24, 25, 26, 27, 28, 29, 30, 31, 32, 33, 34, 35, 36, 37, 38, 39, 40, 96, 97, 98, 99, 100, 101, 102, 103, 104, 105, 106, 86, 87, 88, 89, 107, 108] (by decide +kernel) (by decide +kernel)
set_option maxRecDepth 20000 in
theorem gX1_less_X1_lower : GoodIn wsX1_less (wsV RX1 42 RX1 yX1_lower wsX1_lower) := goodIn_app (goodIn_of _ (by decide +kernel)) ggX1_less_X1_lower
set_option maxRecDepth 20000 in
theorem ggX1_less_X3_last : GoodIn wsX1_less wsX3_last := goodIn_r _ [44, 29, 45, 46, 47, 27, 48, 30, 107, 108] (by decide +kernel) (by decide +kernel)
set_option maxRecDepth 20000 in
theorem gX1_less_X3_last : GoodIn wsX1_less (wsV RX1 46 RX3 yX3_last wsX3_last) := goodIn_app (goodIn_of _ (by decide +kernel)) ggX1_less_X3_last
set_option maxRecDepth 20000 in
theorem ggX1_less_X5_giveUpNext : GoodIn wsX1_less wsX5_giveUpNext := goodIn_r _ [52, 53, 54, 96, 97, 98, 99, 100, 101, 102, 103, 104, 105, 106] (by decide +kernel) (by decide +kernel)
set_option maxRecDepth 20000 in
theorem gX1_less_X5_giveUpNext : GoodIn wsX1_less (wsV RX1 50 RX5 yX5_giveUpNext wsX5_giveUpNext) := goodIn_app (goodIn_of _ (by decide +kernel)) ggX1_less_X5_giveUpNext
set_option maxRecDepth 20000 in
theorem ggX1_less_X1_finish : GoodIn wsX1_less wsX1_finish := goodIn_r _ [58, 3, 16, 59, 1, 60, 61, 62, 27, 63, 29, 36, 37, 38, 21, 39, 23, 40, 19, 20, 22, 64, 65, 66, 67, 68, 69, 70, 71, 72, 73, 74, 75, 76, 77, 78, 79, 80, 81, 82, 83, 84, 85, 86, 87, 88, 89, 96, 97, 98, 99, 100, 101, 102, 103, 104, 105, 106, 107, 108, 90, 91, 92, 93, 94, 95, 109, 110, 111, 112, 113, 114] (by decide +kernel) (by decide +kernel)
set_option maxRecDepth 20000 in
theorem gX1_less_X1_finish : GoodIn wsX1_less (wsV RX1 53 RX1 yX1_finish wsX1_finish) := goodIn_app (goodIn_of _ (by decide +kernel)) ggX1_less_X1_finish
theorem dX1_less_0 : decode cX1_less 0 = .ok (.aload_n 0, 1) := by decide +kernel
theorem dX1_less_1 : decode cX1_less 1 = .ok (.getfield 24, 3) := by decide +kernel
theorem dX1_less_4 : decode cX1_less 4 = .ok (.getfield 37, 3) := by decide +kernel
theorem dX1_less_7 : decode cX1_less 7 = .ok (.istore_n 2, 1) := by decide +kernel
theorem dX1_less_8 : decode cX1_less 8 = .ok (.aload_n 0, 1) := by decide +kernel
theorem dX1_less_9 : decode cX1_less 9 = .ok (.aload_n 1, 1) := by decide +kernel
theorem dX1_less_10 : decode cX1_less 10 = .ok (.invokevirtual 42, 3) := by decide +kernel
theorem dX1_less_13 : decode cX1_less 13 = .ok (.aload_n 0, 1) := by decide +kernel
theorem dX1_less_14 : decode cX1_less 14 = .ok (.getfield 12, 3) := by decide +kernel
theorem dX1_less_17 : decode cX1_less 17 = .ok (.invokevirtual 46, 3) := by decide +kernel
theorem dX1_less_20 : decode cX1_less 20 = .ok (.astore_n 3, 1) := by decide +kernel
theorem dX1_less_21 : decode cX1_less 21 = .ok (.iconst 0, 1) := by decide +kernel
theorem dX1_less_22 : decode cX1_less 22 = .ok (.istore 4, 2) := by decide +kernel
theorem dX1_less_24 : decode cX1_less 24 = .ok (.iload 4, 2) := by decide +kernel
theorem dX1_less_26 : decode cX1_less 26 = .ok (.sipush 560, 3) := by decide +kernel
theorem dX1_less_29 : decode cX1_less 29 = .ok (.if_icmp .ge 46, 3) := by decide +kernel
theorem dX1_less_32 : decode cX1_less 32 = .ok (.aload_n 3, 1) := by decide +kernel
theorem dX1_less_33 : decode cX1_less 33 = .ok (.ifnull 42, 3) := by decide +kernel
theorem dX1_less_36 : decode cX1_less 36 = .ok (.aload_n 3, 1) := by decide +kernel
theorem dX1_less_37 : decode cX1_less 37 = .ok (.invokevirtual 50, 3) := by decide +kernel
theorem dX1_less_40 : decode cX1_less 40 = .ok (.astore 5, 2) := by decide +kernel
theorem dX1_less_42 : decode cX1_less 42 = .ok (.aload 5, 2) := by decide +kernel
theorem dX1_less_44 : decode cX1_less 44 = .ok (.ifnull 12, 3) := by decide +kernel
theorem dX1_less_47 : decode cX1_less 47 = .ok (.aload_n 0, 1) := by decide +kernel
theorem dX1_less_48 : decode cX1_less 48 = .ok (.aload 5, 2) := by decide +kernel
theorem dX1_less_50 : decode cX1_less 50 = .ok (.invokevirtual 42, 3) := by decide +kernel
theorem dX1_less_53 : decode cX1_less 53 = .ok (.goto 8, 3) := by decide +kernel
theorem dX1_less_56 : decode cX1_less 56 = .ok (.aload_n 0, 1) := by decide +kernel
theorem dX1_less_57 : decode cX1_less 57 = .ok (.aload_n 3, 1) := by decide +kernel
theorem dX1_less_58 : decode cX1_less 58 = .ok (.invokevirtual 53, 3) := by decide +kernel
theorem dX1_less_61 : decode cX1_less 61 = .ok (.aload_n 0, 1) := by decide +kernel
theorem dX1_less_62 : decode cX1_less 62 = .ok (.getfield 12, 3) := by decide +kernel
theorem dX1_less_65 : decode cX1_less 65 = .ok (.invokevirtual 46, 3) := by decide +kernel
theorem dX1_less_68 : decode cX1_less 68 = .ok (.astore_n 3, 1) := by decide +kernel
theorem dX1_less_69 : decode cX1_less 69 = .ok (.iinc 4 1, 3) := by decide +kernel
theorem dX1_less_72 : decode cX1_less 72 = .ok (.goto (-48), 3) := by decide +kernel
theorem dX1_less_75 : decode cX1_less 75 = .ok (.aload_n 0, 1) := by decide +kernel
theorem dX1_less_76 : decode cX1_less 76 = .ok (.getfield 24, 3) := by decide +kernel
theorem dX1_less_79 : decode cX1_less 79 = .ok (.getfield 37, 3) := by decide +kernel
theorem dX1_less_82 : decode cX1_less 82 = .ok (.iload_n 2, 1) := by decide +kernel
theorem dX1_less_83 : decode cX1_less 83 = .ok (.isub, 1) := by decide +kernel
theorem dX1_less_84 : decode cX1_less 84 = .ok (.ireturn, 1) := by decide +kernel
set_option maxRecDepth 20000 in
theorem ggX1_tellWish_X3_append : GoodIn wsX1_tellWish wsX3_append := goodIn_r _ [8, 9, 10, 26, 27] (by decide +kernel) (by decide +kernel)
set_option maxRecDepth 20000 in
theorem gX1_tellWish_X3_append : GoodIn wsX1_tellWish (wsV RX1 60 RX3 yX3_append wsX3_append) := goodIn_app (goodIn_of _ (by decide +kernel)) ggX1_tellWish_X3_append
theorem dX1_tellWish_0 : decode cX1_tellWish 0 = .ok (.aload_n 1, 1) := by decide +kernel
theorem dX1_tellWish_1 : decode cX1_tellWish 1 = .ok (.iconst 0, 1) := by decide +kernel
theorem dX1_tellWish_2 : decode cX1_tellWish 2 = .ok (.putfield 56, 3) := by decide +kernel
theorem dX1_tellWish_5 : decode cX1_tellWish 5 = .ok (.aload_n 1, 1) := by decide +kernel
theorem dX1_tellWish_6 : decode cX1_tellWish 6 = .ok (.dup, 1) := by decide +kernel
theorem dX1_tellWish_7 : decode cX1_tellWish 7 = .ok (.getfield 28, 3) := by decide +kernel
theorem dX1_tellWish_10 : decode cX1_tellWish 10 = .ok (.iconst 1, 1) := by decide +kernel
theorem dX1_tellWish_11 : decode cX1_tellWish 11 = .ok (.iadd, 1) := by decide +kernel
theorem dX1_tellWish_12 : decode cX1_tellWish 12 = .ok (.putfield 28, 3) := by decide +kernel
theorem dX1_tellWish_15 : decode cX1_tellWish 15 = .ok (.aload_n 0, 1) := by decide +kernel
theorem dX1_tellWish_16 : decode cX1_tellWish 16 = .ok (.getfield 21, 3) := by decide +kernel
theorem dX1_tellWish_19 : decode cX1_tellWish 19 = .ok (.aload_n 1, 1) := by decide +kernel
theorem dX1_tellWish_20 : decode cX1_tellWish 20 = .ok (.invokevirtual 60, 3) := by decide +kernel
theorem dX1_tellWish_23 : decode cX1_tellWish 23 = .ok (.return_, 1) := by decide +kernel
set_option maxRecDepth 20000 in
theorem ggX1_lower_X1_suspect : GoodIn wsX1_lower wsX1_suspect := goodIn_r _ [8, 9, 10, 11, 12, 13, 14, 15, 16, 17, 18, 19, 20, 21, 22, 23, 24, 35, 36, 37, 38, 39, 40, 41, 42, 43, 44, 45, 46, 47, 48, 49, 50, 51] (by decide +kernel) (by decide +kernel)
set_option maxRecDepth 20000 in
theorem gX1_lower_X1_suspect : GoodIn wsX1_lower (wsV RX1 63 RX1 yX1_suspect wsX1_suspect) := goodIn_app (goodIn_of _ (by decide +kernel)) ggX1_lower_X1_suspect
set_option maxRecDepth 20000 in
theorem ggX1_lower_X1_tellWish : GoodIn wsX1_lower wsX1_tellWish := goodIn_r _ [28, 2, 1, 29, 18, 19, 20, 21, 22, 23, 24, 35, 36, 37, 38, 39, 40, 41, 42, 43, 44, 45, 46, 47, 48, 49, 50, 51] (by decide +kernel) (by decide +kernel)
set_option maxRecDepth 20000 in
theorem gX1_lower_X1_tellWish : GoodIn wsX1_lower (wsV RX1 66 RX1 yX1_tellWish wsX1_tellWish) := goodIn_app (goodIn_of _ (by decide +kernel)) ggX1_lower_X1_tellWish
set_option maxRecDepth 20000 in
theorem ggX1_lower_X5_blackenUnlessGreen : GoodIn wsX1_lower wsX5_blackenUnlessGreen := goodIn_r _ [33, 17, 34, 13, 14, 15, 16, 35, 36, 37, 38, 39, 40, 41, 42, 43, 44, 45] (by decide +kernel) (by decide +kernel)
set_option maxRecDepth 20000 in
theorem gX1_lower_X5_blackenUnlessGreen : GoodIn wsX1_lower (wsV RX1 34 RX5 yX5_blackenUnlessGreen wsX5_blackenUnlessGreen) := goodIn_app (goodIn_of _ (by decide +kernel)) ggX1_lower_X5_blackenUnlessGreen
set_option maxRecDepth 20000 in
theorem ggX1_lower_X3_append : GoodIn wsX1_lower wsX3_append := goodIn_r _ [22, 23, 24, 50, 51] (by decide +kernel) (by decide +kernel)
set_option maxRecDepth 20000 in
theorem gX1_lower_X3_append : GoodIn wsX1_lower (wsV RX1 60 RX3 yX3_append wsX3_append) := goodIn_app (goodIn_of _ (by decide +kernel)) ggX1_lower_X3_append
theorem dX1_lower_0 : decode cX1_lower 0 = .ok (.aload_n 1, 1) := by decide +kernel
theorem dX1_lower_1 : decode cX1_lower 1 = .ok (.dup, 1) := by decide +kernel
theorem dX1_lower_2 : decode cX1_lower 2 = .ok (.getfield 28, 3) := by decide +kernel
theorem dX1_lower_5 : decode cX1_lower 5 = .ok (.iconst 1, 1) := by decide +kernel
theorem dX1_lower_6 : decode cX1_lower 6 = .ok (.isub, 1) := by decide +kernel
theorem dX1_lower_7 : decode cX1_lower 7 = .ok (.putfield 28, 3) := by decide +kernel
theorem dX1_lower_10 : decode cX1_lower 10 = .ok (.aload_n 1, 1) := by decide +kernel
theorem dX1_lower_11 : decode cX1_lower 11 = .ok (.getfield 28, 3) := by decide +kernel
theorem dX1_lower_14 : decode cX1_lower 14 = .ok (.ifCond .le 11, 3) := by decide +kernel
theorem dX1_lower_17 : decode cX1_lower 17 = .ok (.aload_n 0, 1) := by decide +kernel
theorem dX1_lower_18 : decode cX1_lower 18 = .ok (.aload_n 1, 1) := by decide +kernel
theorem dX1_lower_19 : decode cX1_lower 19 = .ok (.invokevirtual 63, 3) := by decide +kernel
theorem dX1_lower_22 : decode cX1_lower 22 = .ok (.goto 30, 3) := by decide +kernel
theorem dX1_lower_25 : decode cX1_lower 25 = .ok (.aload_n 1, 1) := by decide +kernel
theorem dX1_lower_26 : decode cX1_lower 26 = .ok (.getfield 56, 3) := by decide +kernel
theorem dX1_lower_29 : decode cX1_lower 29 = .ok (.ifCond .eq 15, 3) := by decide +kernel
theorem dX1_lower_32 : decode cX1_lower 32 = .ok (.aload_n 0, 1) := by decide +kernel
theorem dX1_lower_33 : decode cX1_lower 33 = .ok (.aload_n 1, 1) := by decide +kernel
theorem dX1_lower_34 : decode cX1_lower 34 = .ok (.invokevirtual 66, 3) := by decide +kernel
theorem dX1_lower_37 : decode cX1_lower 37 = .ok (.aload_n 1, 1) := by decide +kernel
theorem dX1_lower_38 : decode cX1_lower 38 = .ok (.invokevirtual 34, 3) := by decide +kernel
theorem dX1_lower_41 : decode cX1_lower 41 = .ok (.goto 11, 3) := by decide +kernel
theorem dX1_lower_44 : decode cX1_lower 44 = .ok (.aload_n 0, 1) := by decide +kernel
theorem dX1_lower_45 : decode cX1_lower 45 = .ok (.getfield 12, 3) := by decide +kernel
theorem dX1_lower_48 : decode cX1_lower 48 = .ok (.aload_n 1, 1) := by decide +kernel
theorem dX1_lower_49 : decode cX1_lower 49 = .ok (.invokevirtual 60, 3) := by decide +kernel
theorem dX1_lower_52 : decode cX1_lower 52 = .ok (.return_, 1) := by decide +kernel
set_option maxRecDepth 20000 in
theorem ggX1_suspect_X5_isGreen : GoodIn wsX1_suspect wsX5_isGreen := goodIn_r _ [8, 9, 17, 18, 19, 20, 21, 22, 23, 24, 25, 26, 27] (by decide +kernel) (by decide +kernel)
set_option maxRecDepth 20000 in
theorem gX1_suspect_X5_isGreen : GoodIn wsX1_suspect (wsV RX1 69 RX5 yX5_isGreen wsX5_isGreen) := goodIn_app (goodIn_of _ (by decide +kernel)) ggX1_suspect_X5_isGreen
set_option maxRecDepth 20000 in
theorem ggX1_suspect_X3_append : GoodIn wsX1_suspect wsX3_append := goodIn_r _ [14, 15, 16, 32, 33] (by decide +kernel) (by decide +kernel)
set_option maxRecDepth 20000 in
theorem gX1_suspect_X3_append : GoodIn wsX1_suspect (wsV RX1 60 RX3 yX3_append wsX3_append) := goodIn_app (goodIn_of _ (by decide +kernel)) ggX1_suspect_X3_append
theorem dX1_suspect_0 : decode cX1_suspect 0 = .ok (.aload_n 1, 1) := by decide +kernel
theorem dX1_suspect_1 : decode cX1_suspect 1 = .ok (.invokevirtual 69, 3) := by decide +kernel
theorem dX1_suspect_4 : decode cX1_suspect 4 = .ok (.ifCond .eq 4, 3) := by decide +kernel
theorem dX1_suspect_7 : decode cX1_suspect 7 = .ok (.return_, 1) := by decide +kernel
theorem dX1_suspect_8 : decode cX1_suspect 8 = .ok (.aload_n 1, 1) := by decide +kernel
theorem dX1_suspect_9 : decode cX1_suspect 9 = .ok (.iconst 3, 1) := by decide +kernel
theorem dX1_suspect_10 : decode cX1_suspect 10 = .ok (.putfield 73, 3) := by decide +kernel
theorem dX1_suspect_13 : decode cX1_suspect 13 = .ok (.aload_n 1, 1) := by decide +kernel
theorem dX1_suspect_14 : decode cX1_suspect 14 = .ok (.getfield 76, 3) := by decide +kernel
theorem dX1_suspect_17 : decode cX1_suspect 17 = .ok (.ifCond .ne 16, 3) := by decide +kernel
theorem dX1_suspect_20 : decode cX1_suspect 20 = .ok (.aload_n 1, 1) := by decide +kernel
theorem dX1_suspect_21 : decode cX1_suspect 21 = .ok (.iconst 1, 1) := by decide +kernel
theorem dX1_suspect_22 : decode cX1_suspect 22 = .ok (.putfield 76, 3) := by decide +kernel
theorem dX1_suspect_25 : decode cX1_suspect 25 = .ok (.aload_n 0, 1) := by decide +kernel
theorem dX1_suspect_26 : decode cX1_suspect 26 = .ok (.getfield 18, 3) := by decide +kernel
theorem dX1_suspect_29 : decode cX1_suspect 29 = .ok (.aload_n 1, 1) := by decide +kernel
theorem dX1_suspect_30 : decode cX1_suspect 30 = .ok (.invokevirtual 60, 3) := by decide +kernel
theorem dX1_suspect_33 : decode cX1_suspect 33 = .ok (.return_, 1) := by decide +kernel
set_option maxRecDepth 20000 in
theorem ggX1_finish_X3_removeLast : GoodIn wsX1_finish wsX3_removeLast := goodIn_r _ [9, 10, 58, 59] (by decide +kernel) (by decide +kernel)
set_option maxRecDepth 20000 in
theorem gX1_finish_X3_removeLast : GoodIn wsX1_finish (wsV RX1 79 RX3 yX3_removeLast wsX3_removeLast) := goodIn_app (goodIn_of _ (by decide +kernel)) ggX1_finish_X3_removeLast
set_option maxRecDepth 20000 in
theorem ggX1_finish_X5_blackenUnlessGreen : GoodIn wsX1_finish wsX5_blackenUnlessGreen := goodIn_r _ [15, 16, 17, 18, 19, 14, 20, 47, 48, 49, 50, 51, 52, 53, 54, 55, 56, 57] (by decide +kernel) (by decide +kernel)
set_option maxRecDepth 20000 in
theorem gX1_finish_X5_blackenUnlessGreen : GoodIn wsX1_finish (wsV RX1 34 RX5 yX5_blackenUnlessGreen wsX5_blackenUnlessGreen) := goodIn_app (goodIn_of _ (by decide +kernel)) ggX1_finish_X5_blackenUnlessGreen
set_option maxRecDepth 20000 in
theorem ggX1_finish_X4_free : GoodIn wsX1_finish wsX4_free := goodIn_r _ [25, 26, 27, 28, 29, 30, 31, 32, 33, 34, 35, 36, 37, 38, 39, 40, 41, 42, 60, 61, 62, 63, 64, 65, 47, 48, 49, 50, 51, 52, 53, 54, 55, 56, 57, 66, 67, 68, 69, 70, 71] (by decide +kernel) (by decide +kernel)
set_option maxRecDepth 20000 in
theorem gX1_finish_X4_free : GoodIn wsX1_finish (wsV RX1 85 RX4 yX4_free wsX4_free) := goodIn_app (goodIn_of _ (by decide +kernel)) ggX1_finish_X4_free
theorem dX1_finish_0 : decode cX1_finish 0 = .ok (.aload_n 0, 1) := by decide +kernel
theorem dX1_finish_1 : decode cX1_finish 1 = .ok (.getfield 12, 3) := by decide +kernel
theorem dX1_finish_4 : decode cX1_finish 4 = .ok (.invokevirtual 79, 3) := by decide +kernel
theorem dX1_finish_7 : decode cX1_finish 7 = .ok (.aload_n 1, 1) := by decide +kernel
theorem dX1_finish_8 : decode cX1_finish 8 = .ok (.invokevirtual 34, 3) := by decide +kernel
theorem dX1_finish_11 : decode cX1_finish 11 = .ok (.aload_n 1, 1) := by decide +kernel
theorem dX1_finish_12 : decode cX1_finish 12 = .ok (.getfield 76, 3) := by decide +kernel
theorem dX1_finish_15 : decode cX1_finish 15 = .ok (.ifCond .eq 11, 3) := by decide +kernel
theorem dX1_finish_18 : decode cX1_finish 18 = .ok (.aload_n 1, 1) := by decide +kernel
theorem dX1_finish_19 : decode cX1_finish 19 = .ok (.iconst 1, 1) := by decide +kernel
theorem dX1_finish_20 : decode cX1_finish 20 = .ok (.putfield 82, 3) := by decide +kernel
theorem dX1_finish_23 : decode cX1_finish 23 = .ok (.goto 11, 3) := by decide +kernel
theorem dX1_finish_26 : decode cX1_finish 26 = .ok (.aload_n 0, 1) := by decide +kernel
theorem dX1_finish_27 : decode cX1_finish 27 = .ok (.getfield 24, 3) := by decide +kernel
theorem dX1_finish_30 : decode cX1_finish 30 = .ok (.aload_n 1, 1) := by decide +kernel
theorem dX1_finish_31 : decode cX1_finish 31 = .ok (.invokevirtual 85, 3) := by decide +kernel
theorem dX1_finish_34 : decode cX1_finish 34 = .ok (.return_, 1) := by decide +kernel
theorem dX2_init_0 : decode cX2_init 0 = .ok (.aload_n 0, 1) := by decide +kernel
theorem dX2_init_1 : decode cX2_init 1 = .ok (.invokespecial 1, 3) := by decide +kernel
theorem dX2_init_4 : decode cX2_init 4 = .ok (.aload_n 0, 1) := by decide +kernel
theorem dX2_init_5 : decode cX2_init 5 = .ok (.iload_n 1, 1) := by decide +kernel
theorem dX2_init_6 : decode cX2_init 6 = .ok (.putfield 7, 3) := by decide +kernel
theorem dX2_init_9 : decode cX2_init 9 = .ok (.aload_n 0, 1) := by decide +kernel
theorem dX2_init_10 : decode cX2_init 10 = .ok (.iload_n 2, 1) := by decide +kernel
theorem dX2_init_11 : decode cX2_init 11 = .ok (.putfield 13, 3) := by decide +kernel
theorem dX2_init_14 : decode cX2_init 14 = .ok (.aload_n 0, 1) := by decide +kernel
theorem dX2_init_15 : decode cX2_init 15 = .ok (.iload_n 3, 1) := by decide +kernel
theorem dX2_init_16 : decode cX2_init 16 = .ok (.putfield 16, 3) := by decide +kernel
theorem dX2_init_19 : decode cX2_init 19 = .ok (.aload_n 0, 1) := by decide +kernel
theorem dX2_init_20 : decode cX2_init 20 = .ok (.iload 4, 2) := by decide +kernel
theorem dX2_init_22 : decode cX2_init 22 = .ok (.putfield 19, 3) := by decide +kernel
theorem dX2_init_25 : decode cX2_init 25 = .ok (.return_, 1) := by decide +kernel
theorem dX3_init_0 : decode cX3_init 0 = .ok (.aload_n 0, 1) := by decide +kernel
theorem dX3_init_1 : decode cX3_init 1 = .ok (.invokespecial 3, 3) := by decide +kernel
theorem dX3_init_4 : decode cX3_init 4 = .ok (.aload_n 0, 1) := by decide +kernel
theorem dX3_init_5 : decode cX3_init 5 = .ok (.bipush 80, 2) := by decide +kernel
theorem dX3_init_7 : decode cX3_init 7 = .ok (.anewarray 9, 3) := by decide +kernel
theorem dX3_init_10 : decode cX3_init 10 = .ok (.putfield 11, 3) := by decide +kernel
theorem dX3_init_13 : decode cX3_init 13 = .ok (.return_, 1) := by decide +kernel
theorem dX3_append_0 : decode cX3_append 0 = .ok (.aload_n 0, 1) := by decide +kernel
theorem dX3_append_1 : decode cX3_append 1 = .ok (.getfield 17, 3) := by decide +kernel
theorem dX3_append_4 : decode cX3_append 4 = .ok (.aload_n 0, 1) := by decide +kernel
theorem dX3_append_5 : decode cX3_append 5 = .ok (.getfield 11, 3) := by decide +kernel
theorem dX3_append_8 : decode cX3_append 8 = .ok (.arraylength, 1) := by decide +kernel
theorem dX3_append_9 : decode cX3_append 9 = .ok (.if_icmp .ge 23, 3) := by decide +kernel
theorem dX3_append_12 : decode cX3_append 12 = .ok (.aload_n 0, 1) := by decide +kernel
theorem dX3_append_13 : decode cX3_append 13 = .ok (.getfield 11, 3) := by decide +kernel
theorem dX3_append_16 : decode cX3_append 16 = .ok (.aload_n 0, 1) := by decide +kernel
theorem dX3_append_17 : decode cX3_append 17 = .ok (.getfield 17, 3) := by decide +kernel
theorem dX3_append_20 : decode cX3_append 20 = .ok (.aload_n 1, 1) := by decide +kernel
theorem dX3_append_21 : decode cX3_append 21 = .ok (.aastore, 1) := by decide +kernel
theorem dX3_append_22 : decode cX3_append 22 = .ok (.aload_n 0, 1) := by decide +kernel
theorem dX3_append_23 : decode cX3_append 23 = .ok (.dup, 1) := by decide +kernel
theorem dX3_append_24 : decode cX3_append 24 = .ok (.getfield 17, 3) := by decide +kernel
theorem dX3_append_27 : decode cX3_append 27 = .ok (.iconst 1, 1) := by decide +kernel
theorem dX3_append_28 : decode cX3_append 28 = .ok (.iadd, 1) := by decide +kernel
theorem dX3_append_29 : decode cX3_append 29 = .ok (.putfield 17, 3) := by decide +kernel
theorem dX3_append_32 : decode cX3_append 32 = .ok (.return_, 1) := by decide +kernel
theorem dX3_item_0 : decode cX3_item 0 = .ok (.iload_n 1, 1) := by decide +kernel
theorem dX3_item_1 : decode cX3_item 1 = .ok (.ifCond .lt 29, 3) := by decide +kernel
theorem dX3_item_4 : decode cX3_item 4 = .ok (.iload_n 1, 1) := by decide +kernel
theorem dX3_item_5 : decode cX3_item 5 = .ok (.aload_n 0, 1) := by decide +kernel
theorem dX3_item_6 : decode cX3_item 6 = .ok (.getfield 17, 3) := by decide +kernel
theorem dX3_item_9 : decode cX3_item 9 = .ok (.if_icmp .ge 21, 3) := by decide +kernel
theorem dX3_item_12 : decode cX3_item 12 = .ok (.iload_n 1, 1) := by decide +kernel
theorem dX3_item_13 : decode cX3_item 13 = .ok (.aload_n 0, 1) := by decide +kernel
theorem dX3_item_14 : decode cX3_item 14 = .ok (.getfield 11, 3) := by decide +kernel
theorem dX3_item_17 : decode cX3_item 17 = .ok (.arraylength, 1) := by decide +kernel
theorem dX3_item_18 : decode cX3_item 18 = .ok (.if_icmp .ge 12, 3) := by decide +kernel
theorem dX3_item_21 : decode cX3_item 21 = .ok (.aload_n 0, 1) := by decide +kernel
theorem dX3_item_22 : decode cX3_item 22 = .ok (.getfield 11, 3) := by decide +kernel
theorem dX3_item_25 : decode cX3_item 25 = .ok (.iload_n 1, 1) := by decide +kernel
theorem dX3_item_26 : decode cX3_item 26 = .ok (.aaload, 1) := by decide +kernel
theorem dX3_item_27 : decode cX3_item 27 = .ok (.goto 4, 3) := by decide +kernel
theorem dX3_item_30 : decode cX3_item 30 = .ok (.aconst_null, 1) := by decide +kernel
theorem dX3_item_31 : decode cX3_item 31 = .ok (.areturn, 1) := by decide +kernel
set_option maxRecDepth 20000 in
theorem ggX3_last_X3_item : GoodIn wsX3_last wsX3_item := goodIn_r _ [6, 1, 7, 8, 9] (by decide +kernel) (by decide +kernel)
set_option maxRecDepth 20000 in
theorem gX3_last_X3_item : GoodIn wsX3_last (wsV RX3 21 RX3 yX3_item wsX3_item) := goodIn_app (goodIn_of _ (by decide +kernel)) ggX3_last_X3_item
theorem dX3_last_0 : decode cX3_last 0 = .ok (.aload_n 0, 1) := by decide +kernel
theorem dX3_last_1 : decode cX3_last 1 = .ok (.aload_n 0, 1) := by decide +kernel
theorem dX3_last_2 : decode cX3_last 2 = .ok (.getfield 17, 3) := by decide +kernel
theorem dX3_last_5 : decode cX3_last 5 = .ok (.iconst 1, 1) := by decide +kernel
theorem dX3_last_6 : decode cX3_last 6 = .ok (.isub, 1) := by decide +kernel
theorem dX3_last_7 : decode cX3_last 7 = .ok (.invokevirtual 21, 3) := by decide +kernel
theorem dX3_last_10 : decode cX3_last 10 = .ok (.areturn, 1) := by decide +kernel
theorem dX3_removeLast_0 : decode cX3_removeLast 0 = .ok (.aload_n 0, 1) := by decide +kernel
theorem dX3_removeLast_1 : decode cX3_removeLast 1 = .ok (.getfield 17, 3) := by decide +kernel
theorem dX3_removeLast_4 : decode cX3_removeLast 4 = .ok (.ifCond .le 13, 3) := by decide +kernel
theorem dX3_removeLast_7 : decode cX3_removeLast 7 = .ok (.aload_n 0, 1) := by decide +kernel
theorem dX3_removeLast_8 : decode cX3_removeLast 8 = .ok (.dup, 1) := by decide +kernel
theorem dX3_removeLast_9 : decode cX3_removeLast 9 = .ok (.getfield 17, 3) := by decide +kernel
theorem dX3_removeLast_12 : decode cX3_removeLast 12 = .ok (.iconst 1, 1) := by decide +kernel
theorem dX3_removeLast_13 : decode cX3_removeLast 13 = .ok (.isub, 1) := by decide +kernel
theorem dX3_removeLast_14 : decode cX3_removeLast 14 = .ok (.putfield 17, 3) := by decide +kernel
theorem dX3_removeLast_17 : decode cX3_removeLast 17 = .ok (.return_, 1) := by decide +kernel
set_option maxRecDepth 20000 in
theorem ggX3_takeFirst_X3_item : GoodIn wsX3_takeFirst wsX3_item := goodIn_r _ [7, 1, 2, 8, 9] (by decide +kernel) (by decide +kernel)
set_option maxRecDepth 20000 in
theorem gX3_takeFirst_X3_item : GoodIn wsX3_takeFirst (wsV RX3 21 RX3 yX3_item wsX3_item) := goodIn_app (goodIn_of _ (by decide +kernel)) ggX3_takeFirst_X3_item
theorem dX3_takeFirst_0 : decode cX3_takeFirst 0 = .ok (.aload_n 0, 1) := by decide +kernel
theorem dX3_takeFirst_1 : decode cX3_takeFirst 1 = .ok (.iconst 0, 1) := by decide +kernel
theorem dX3_takeFirst_2 : decode cX3_takeFirst 2 = .ok (.invokevirtual 21, 3) := by decide +kernel
theorem dX3_takeFirst_5 : decode cX3_takeFirst 5 = .ok (.astore_n 1, 1) := by decide +kernel
theorem dX3_takeFirst_6 : decode cX3_takeFirst 6 = .ok (.aload_n 1, 1) := by decide +kernel
theorem dX3_takeFirst_7 : decode cX3_takeFirst 7 = .ok (.ifnull 54, 3) := by decide +kernel
theorem dX3_takeFirst_10 : decode cX3_takeFirst 10 = .ok (.aload_n 0, 1) := by decide +kernel
theorem dX3_takeFirst_11 : decode cX3_takeFirst 11 = .ok (.dup, 1) := by decide +kernel
theorem dX3_takeFirst_12 : decode cX3_takeFirst 12 = .ok (.getfield 17, 3) := by decide +kernel
theorem dX3_takeFirst_15 : decode cX3_takeFirst 15 = .ok (.iconst 1, 1) := by decide +kernel
theorem dX3_takeFirst_16 : decode cX3_takeFirst 16 = .ok (.isub, 1) := by decide +kernel
theorem dX3_takeFirst_17 : decode cX3_takeFirst 17 = .ok (.putfield 17, 3) := by decide +kernel
theorem dX3_takeFirst_20 : decode cX3_takeFirst 20 = .ok (.iconst 0, 1) := by decide +kernel
theorem dX3_takeFirst_21 : decode cX3_takeFirst 21 = .ok (.istore_n 2, 1) := by decide +kernel
theorem dX3_takeFirst_22 : decode cX3_takeFirst 22 = .ok (.iload_n 2, 1) := by decide +kernel
theorem dX3_takeFirst_23 : decode cX3_takeFirst 23 = .ok (.aload_n 0, 1) := by decide +kernel
theorem dX3_takeFirst_24 : decode cX3_takeFirst 24 = .ok (.getfield 17, 3) := by decide +kernel
theorem dX3_takeFirst_27 : decode cX3_takeFirst 27 = .ok (.if_icmp .ge 34, 3) := by decide +kernel
theorem dX3_takeFirst_30 : decode cX3_takeFirst 30 = .ok (.iload_n 2, 1) := by decide +kernel
theorem dX3_takeFirst_31 : decode cX3_takeFirst 31 = .ok (.iconst 1, 1) := by decide +kernel
theorem dX3_takeFirst_32 : decode cX3_takeFirst 32 = .ok (.iadd, 1) := by decide +kernel
theorem dX3_takeFirst_33 : decode cX3_takeFirst 33 = .ok (.aload_n 0, 1) := by decide +kernel
theorem dX3_takeFirst_34 : decode cX3_takeFirst 34 = .ok (.getfield 11, 3) := by decide +kernel
theorem dX3_takeFirst_37 : decode cX3_takeFirst 37 = .ok (.arraylength, 1) := by decide +kernel
theorem dX3_takeFirst_38 : decode cX3_takeFirst 38 = .ok (.if_icmp .ge 23, 3) := by decide +kernel
theorem dX3_takeFirst_41 : decode cX3_takeFirst 41 = .ok (.aload_n 0, 1) := by decide +kernel
theorem dX3_takeFirst_42 : decode cX3_takeFirst 42 = .ok (.getfield 11, 3) := by decide +kernel
theorem dX3_takeFirst_45 : decode cX3_takeFirst 45 = .ok (.iload_n 2, 1) := by decide +kernel
theorem dX3_takeFirst_46 : decode cX3_takeFirst 46 = .ok (.aload_n 0, 1) := by decide +kernel
theorem dX3_takeFirst_47 : decode cX3_takeFirst 47 = .ok (.getfield 11, 3) := by decide +kernel
theorem dX3_takeFirst_50 : decode cX3_takeFirst 50 = .ok (.iload_n 2, 1) := by decide +kernel
theorem dX3_takeFirst_51 : decode cX3_takeFirst 51 = .ok (.iconst 1, 1) := by decide +kernel
theorem dX3_takeFirst_52 : decode cX3_takeFirst 52 = .ok (.iadd, 1) := by decide +kernel
theorem dX3_takeFirst_53 : decode cX3_takeFirst 53 = .ok (.aaload, 1) := by decide +kernel
theorem dX3_takeFirst_54 : decode cX3_takeFirst 54 = .ok (.aastore, 1) := by decide +kernel
theorem dX3_takeFirst_55 : decode cX3_takeFirst 55 = .ok (.iinc 2 1, 3) := by decide +kernel
theorem dX3_takeFirst_58 : decode cX3_takeFirst 58 = .ok (.goto (-36), 3) := by decide +kernel
theorem dX3_takeFirst_61 : decode cX3_takeFirst 61 = .ok (.aload_n 1, 1) := by decide +kernel
theorem dX3_takeFirst_62 : decode cX3_takeFirst 62 = .ok (.areturn, 1) := by decide +kernel
theorem dX3_clear_0 : decode cX3_clear 0 = .ok (.aload_n 0, 1) := by decide +kernel
theorem dX3_clear_1 : decode cX3_clear 1 = .ok (.iconst 0, 1) := by decide +kernel
theorem dX3_clear_2 : decode cX3_clear 2 = .ok (.putfield 17, 3) := by decide +kernel
theorem dX3_clear_5 : decode cX3_clear 5 = .ok (.return_, 1) := by decide +kernel
set_option maxRecDepth 20000 in
theorem ggX4_init_X6_init : GoodIn wsX4_init wsX6_init := goodIn_r _ [14, 15, 2, 3, 16, 17, 18, 25, 26] (by decide +kernel) (by decide +kernel)
set_option maxRecDepth 20000 in
theorem gX4_init_X6_init_n26 : GoodIn wsX4_init (wsX6_init) := ggX4_init_X6_init
theorem dX4_init_0 : decode cX4_init 0 = .ok (.aload_n 0, 1) := by decide +kernel
theorem dX4_init_1 : decode cX4_init 1 = .ok (.invokespecial 3, 3) := by decide +kernel
theorem dX4_init_4 : decode cX4_init 4 = .ok (.aload_n 0, 1) := by decide +kernel
theorem dX4_init_5 : decode cX4_init 5 = .ok (.bipush 80, 2) := by decide +kernel
theorem dX4_init_7 : decode cX4_init 7 = .ok (.anewarray 9, 3) := by decide +kernel
theorem dX4_init_10 : decode cX4_init 10 = .ok (.putfield 11, 3) := by decide +kernel
theorem dX4_init_13 : decode cX4_init 13 = .ok (.aload_n 0, 1) := by decide +kernel
theorem dX4_init_14 : decode cX4_init 14 = .ok (.bipush 100, 2) := by decide +kernel
theorem dX4_init_16 : decode cX4_init 16 = .ok (.newarray .int, 2) := by decide +kernel
theorem dX4_init_18 : decode cX4_init 18 = .ok (.putfield 17, 3) := by decide +kernel
theorem dX4_init_21 : decode cX4_init 21 = .ok (.aload_n 0, 1) := by decide +kernel
theorem dX4_init_22 : decode cX4_init 22 = .ok (.bipush 20, 2) := by decide +kernel
theorem dX4_init_24 : decode cX4_init 24 = .ok (.anewarray 9, 3) := by decide +kernel
theorem dX4_init_27 : decode cX4_init 27 = .ok (.putfield 21, 3) := by decide +kernel
theorem dX4_init_30 : decode cX4_init 30 = .ok (.aload_n 0, 1) := by decide +kernel
theorem dX4_init_31 : decode cX4_init 31 = .ok (.new 24, 3) := by decide +kernel
theorem dX4_init_34 : decode cX4_init 34 = .ok (.dup, 1) := by decide +kernel
theorem dX4_init_35 : decode cX4_init 35 = .ok (.invokespecial 26, 3) := by decide +kernel
theorem dX4_init_38 : decode cX4_init 38 = .ok (.putfield 27, 3) := by decide +kernel
theorem dX4_init_41 : decode cX4_init 41 = .ok (.return_, 1) := by decide +kernel
theorem dX4_thing_0 : decode cX4_thing 0 = .ok (.iload_n 1, 1) := by decide +kernel
theorem dX4_thing_1 : decode cX4_thing 1 = .ok (.ifCond .lt 18, 3) := by decide +kernel
theorem dX4_thing_4 : decode cX4_thing 4 = .ok (.iload_n 1, 1) := by decide +kernel
theorem dX4_thing_5 : decode cX4_thing 5 = .ok (.bipush 80, 2) := by decide +kernel
theorem dX4_thing_7 : decode cX4_thing 7 = .ok (.if_icmp .ge 12, 3) := by decide +kernel
theorem dX4_thing_10 : decode cX4_thing 10 = .ok (.aload_n 0, 1) := by decide +kernel
theorem dX4_thing_11 : decode cX4_thing 11 = .ok (.getfield 11, 3) := by decide +kernel
theorem dX4_thing_14 : decode cX4_thing 14 = .ok (.iload_n 1, 1) := by decide +kernel
theorem dX4_thing_15 : decode cX4_thing 15 = .ok (.aaload, 1) := by decide +kernel
theorem dX4_thing_16 : decode cX4_thing 16 = .ok (.goto 4, 3) := by decide +kernel
theorem dX4_thing_19 : decode cX4_thing 19 = .ok (.aconst_null, 1) := by decide +kernel
theorem dX4_thing_20 : decode cX4_thing 20 = .ok (.areturn, 1) := by decide +kernel
set_option maxRecDepth 20000 in
theorem ggX4_living_X4_thing : GoodIn wsX4_living wsX4_thing := goodIn_r _ [6, 7, 19, 20, 21, 22, 23, 24] (by decide +kernel) (by decide +kernel)
set_option maxRecDepth 20000 in
theorem gX4_living_X4_thing : GoodIn wsX4_living (wsV RX4 31 RX4 yX4_thing wsX4_thing) := goodIn_app (goodIn_of _ (by decide +kernel)) ggX4_living_X4_thing
theorem dX4_living_0 : decode cX4_living 0 = .ok (.aload_n 0, 1) := by decide +kernel
theorem dX4_living_1 : decode cX4_living 1 = .ok (.iload_n 1, 1) := by decide +kernel
theorem dX4_living_2 : decode cX4_living 2 = .ok (.invokevirtual 31, 3) := by decide +kernel
theorem dX4_living_5 : decode cX4_living 5 = .ok (.astore_n 2, 1) := by decide +kernel
theorem dX4_living_6 : decode cX4_living 6 = .ok (.aload_n 2, 1) := by decide +kernel
theorem dX4_living_7 : decode cX4_living 7 = .ok (.ifnull 10, 3) := by decide +kernel
theorem dX4_living_10 : decode cX4_living 10 = .ok (.aload_n 2, 1) := by decide +kernel
theorem dX4_living_11 : decode cX4_living 11 = .ok (.getfield 35, 3) := by decide +kernel
theorem dX4_living_14 : decode cX4_living 14 = .ok (.ifCond .eq 7, 3) := by decide +kernel
theorem dX4_living_17 : decode cX4_living 17 = .ok (.aconst_null, 1) := by decide +kernel
theorem dX4_living_18 : decode cX4_living 18 = .ok (.goto 4, 3) := by decide +kernel
theorem dX4_living_21 : decode cX4_living 21 = .ok (.aload_n 2, 1) := by decide +kernel
theorem dX4_living_22 : decode cX4_living 22 = .ok (.areturn, 1) := by decide +kernel
theorem dX4_leastFreeNumber_0 : decode cX4_leastFreeNumber 0 = .ok (.iconst 0, 1) := by decide +kernel
theorem dX4_leastFreeNumber_1 : decode cX4_leastFreeNumber 1 = .ok (.istore_n 1, 1) := by decide +kernel
theorem dX4_leastFreeNumber_2 : decode cX4_leastFreeNumber 2 = .ok (.iload_n 1, 1) := by decide +kernel
theorem dX4_leastFreeNumber_3 : decode cX4_leastFreeNumber 3 = .ok (.bipush 80, 2) := by decide +kernel
theorem dX4_leastFreeNumber_5 : decode cX4_leastFreeNumber 5 = .ok (.if_icmp .ge 20, 3) := by decide +kernel
theorem dX4_leastFreeNumber_8 : decode cX4_leastFreeNumber 8 = .ok (.aload_n 0, 1) := by decide +kernel
theorem dX4_leastFreeNumber_9 : decode cX4_leastFreeNumber 9 = .ok (.getfield 11, 3) := by decide +kernel
theorem dX4_leastFreeNumber_12 : decode cX4_leastFreeNumber 12 = .ok (.iload_n 1, 1) := by decide +kernel
theorem dX4_leastFreeNumber_13 : decode cX4_leastFreeNumber 13 = .ok (.aaload, 1) := by decide +kernel
theorem dX4_leastFreeNumber_14 : decode cX4_leastFreeNumber 14 = .ok (.ifnonnull 5, 3) := by decide +kernel
theorem dX4_leastFreeNumber_17 : decode cX4_leastFreeNumber 17 = .ok (.iload_n 1, 1) := by decide +kernel
theorem dX4_leastFreeNumber_18 : decode cX4_leastFreeNumber 18 = .ok (.ireturn, 1) := by decide +kernel
theorem dX4_leastFreeNumber_19 : decode cX4_leastFreeNumber 19 = .ok (.iinc 1 1, 3) := by decide +kernel
theorem dX4_leastFreeNumber_22 : decode cX4_leastFreeNumber 22 = .ok (.goto (-20), 3) := by decide +kernel
theorem dX4_leastFreeNumber_25 : decode cX4_leastFreeNumber 25 = .ok (.iconst (-1), 1) := by decide +kernel
theorem dX4_leastFreeNumber_26 : decode cX4_leastFreeNumber 26 = .ok (.ireturn, 1) := by decide +kernel
set_option maxRecDepth 20000 in
theorem ggX4_hasRoomFor_X4_leastFreeNumber : GoodIn wsX4_hasRoomFor wsX4_leastFreeNumber := goodIn_r _ [7, 8, 15, 16, 17, 18, 19, 20] (by decide +kernel) (by decide +kernel)
set_option maxRecDepth 20000 in
theorem gX4_hasRoomFor_X4_leastFreeNumber : GoodIn wsX4_hasRoomFor (wsV RX4 39 RX4 yX4_leastFreeNumber wsX4_leastFreeNumber) := goodIn_app (goodIn_of _ (by decide +kernel)) ggX4_hasRoomFor_X4_leastFreeNumber
set_option maxRecDepth 20000 in
theorem ggX4_hasRoomFor_X6_gapFor : GoodIn wsX4_hasRoomFor wsX6_gapFor := goodIn_r _ [13, 14, 25, 26] (by decide +kernel) (by decide +kernel)
set_option maxRecDepth 20000 in
theorem gX4_hasRoomFor_X6_gapFor : GoodIn wsX4_hasRoomFor (wsV RX4 49 RX6 yX6_gapFor wsX6_gapFor) := goodIn_app (goodIn_of _ (by decide +kernel)) ggX4_hasRoomFor_X6_gapFor
theorem dX4_hasRoomFor_0 : decode cX4_hasRoomFor 0 = .ok (.aload_n 0, 1) := by decide +kernel
theorem dX4_hasRoomFor_1 : decode cX4_hasRoomFor 1 = .ok (.invokevirtual 39, 3) := by decide +kernel
theorem dX4_hasRoomFor_4 : decode cX4_hasRoomFor 4 = .ok (.iconst (-1), 1) := by decide +kernel
theorem dX4_hasRoomFor_5 : decode cX4_hasRoomFor 5 = .ok (.if_icmp .eq 22, 3) := by decide +kernel
theorem dX4_hasRoomFor_8 : decode cX4_hasRoomFor 8 = .ok (.aload_n 0, 1) := by decide +kernel
theorem dX4_hasRoomFor_9 : decode cX4_hasRoomFor 9 = .ok (.getfield 27, 3) := by decide +kernel
theorem dX4_hasRoomFor_12 : decode cX4_hasRoomFor 12 = .ok (.aload_n 1, 1) := by decide +kernel
theorem dX4_hasRoomFor_13 : decode cX4_hasRoomFor 13 = .ok (.getfield 43, 3) := by decide +kernel
theorem dX4_hasRoomFor_16 : decode cX4_hasRoomFor 16 = .ok (.invokevirtual 49, 3) := by decide +kernel
theorem dX4_hasRoomFor_19 : decode cX4_hasRoomFor 19 = .ok (.iconst (-1), 1) := by decide +kernel
theorem dX4_hasRoomFor_20 : decode cX4_hasRoomFor 20 = .ok (.if_icmp .eq 7, 3) := by decide +kernel
theorem dX4_hasRoomFor_23 : decode cX4_hasRoomFor 23 = .ok (.iconst 1, 1) := by decide +kernel
theorem dX4_hasRoomFor_24 : decode cX4_hasRoomFor 24 = .ok (.goto 4, 3) := by decide +kernel
theorem dX4_hasRoomFor_27 : decode cX4_hasRoomFor 27 = .ok (.iconst 0, 1) := by decide +kernel
theorem dX4_hasRoomFor_28 : decode cX4_hasRoomFor 28 = .ok (.ireturn, 1) := by decide +kernel
set_option maxRecDepth 20000 in
theorem ggX4_place_X4_leastFreeNumber : GoodIn wsX4_place wsX4_leastFreeNumber := goodIn_r _ [12, 6, 43, 44, 45, 46, 47, 48] (by decide +kernel) (by decide +kernel)
set_option maxRecDepth 20000 in
theorem gX4_place_X4_leastFreeNumber : GoodIn wsX4_place (wsV RX4 39 RX4 yX4_leastFreeNumber wsX4_leastFreeNumber) := goodIn_app (goodIn_of _ (by decide +kernel)) ggX4_place_X4_leastFreeNumber
set_option maxRecDepth 20000 in
theorem ggX4_place_X6_gapFor : GoodIn wsX4_place wsX6_gapFor := goodIn_r _ [17, 18, 64, 65] (by decide +kernel) (by decide +kernel)
set_option maxRecDepth 20000 in
theorem gX4_place_X6_gapFor : GoodIn wsX4_place (wsV RX4 49 RX6 yX6_gapFor wsX6_gapFor) := goodIn_app (goodIn_of _ (by decide +kernel)) ggX4_place_X6_gapFor
set_option maxRecDepth 20000 in
theorem ggX4_place_X5_init : GoodIn wsX4_place wsX5_init := goodIn_r _ [21, 22, 23, 24, 25, 26, 27, 28, 29, 30, 31, 32, 33, 34, 53, 54, 55, 56, 57, 58, 59, 60, 61, 62, 63, 49, 50, 51, 52] (by decide +kernel) (by decide +kernel)
set_option maxRecDepth 20000 in
theorem gX4_place_X5_init : GoodIn wsX4_place (wsX5_init) := ggX4_place_X5_init
set_option maxRecDepth 20000 in
theorem ggX4_place_X6_give : GoodIn wsX4_place wsX6_give := goodIn_r _ [38, 39, 40, 18, 41, 42, 53, 54, 55, 56, 57, 58, 59, 60, 61, 62, 63, 49, 50, 51, 52, 64, 65] (by decide +kernel) (by decide +kernel)
set_option maxRecDepth 20000 in
theorem gX4_place_X6_give : GoodIn wsX4_place (wsV RX4 56 RX6 yX6_give wsX6_give) := goodIn_app (goodIn_of _ (by decide +kernel)) ggX4_place_X6_give
theorem dX4_place_0 : decode cX4_place 0 = .ok (.aload_n 0, 1) := by decide +kernel
theorem dX4_place_1 : decode cX4_place 1 = .ok (.invokevirtual 39, 3) := by decide +kernel
theorem dX4_place_4 : decode cX4_place 4 = .ok (.istore_n 2, 1) := by decide +kernel
theorem dX4_place_5 : decode cX4_place 5 = .ok (.aload_n 0, 1) := by decide +kernel
theorem dX4_place_6 : decode cX4_place 6 = .ok (.getfield 27, 3) := by decide +kernel
theorem dX4_place_9 : decode cX4_place 9 = .ok (.aload_n 1, 1) := by decide +kernel
theorem dX4_place_10 : decode cX4_place 10 = .ok (.getfield 43, 3) := by decide +kernel
theorem dX4_place_13 : decode cX4_place 13 = .ok (.invokevirtual 49, 3) := by decide +kernel
theorem dX4_place_16 : decode cX4_place 16 = .ok (.istore_n 3, 1) := by decide +kernel
theorem dX4_place_17 : decode cX4_place 17 = .ok (.iload_n 2, 1) := by decide +kernel
theorem dX4_place_18 : decode cX4_place 18 = .ok (.iconst (-1), 1) := by decide +kernel
theorem dX4_place_19 : decode cX4_place 19 = .ok (.if_icmp .eq 8, 3) := by decide +kernel
theorem dX4_place_22 : decode cX4_place 22 = .ok (.iload_n 3, 1) := by decide +kernel
theorem dX4_place_23 : decode cX4_place 23 = .ok (.iconst (-1), 1) := by decide +kernel
theorem dX4_place_24 : decode cX4_place 24 = .ok (.if_icmp .ne 6, 3) := by decide +kernel
theorem dX4_place_27 : decode cX4_place 27 = .ok (.bipush (-2), 2) := by decide +kernel
theorem dX4_place_29 : decode cX4_place 29 = .ok (.ireturn, 1) := by decide +kernel
theorem dX4_place_30 : decode cX4_place 30 = .ok (.new 9, 3) := by decide +kernel
theorem dX4_place_33 : decode cX4_place 33 = .ok (.dup, 1) := by decide +kernel
theorem dX4_place_34 : decode cX4_place 34 = .ok (.iload_n 2, 1) := by decide +kernel
theorem dX4_place_35 : decode cX4_place 35 = .ok (.aload_n 1, 1) := by decide +kernel
theorem dX4_place_36 : decode cX4_place 36 = .ok (.invokespecial 53, 3) := by decide +kernel
theorem dX4_place_39 : decode cX4_place 39 = .ok (.astore 4, 2) := by decide +kernel
theorem dX4_place_41 : decode cX4_place 41 = .ok (.aload_n 0, 1) := by decide +kernel
theorem dX4_place_42 : decode cX4_place 42 = .ok (.getfield 27, 3) := by decide +kernel
theorem dX4_place_45 : decode cX4_place 45 = .ok (.aload 4, 2) := by decide +kernel
theorem dX4_place_47 : decode cX4_place 47 = .ok (.iload_n 3, 1) := by decide +kernel
theorem dX4_place_48 : decode cX4_place 48 = .ok (.invokevirtual 56, 3) := by decide +kernel
theorem dX4_place_51 : decode cX4_place 51 = .ok (.aload_n 0, 1) := by decide +kernel
theorem dX4_place_52 : decode cX4_place 52 = .ok (.getfield 11, 3) := by decide +kernel
theorem dX4_place_55 : decode cX4_place 55 = .ok (.iload_n 2, 1) := by decide +kernel
theorem dX4_place_56 : decode cX4_place 56 = .ok (.aload 4, 2) := by decide +kernel
theorem dX4_place_58 : decode cX4_place 58 = .ok (.aastore, 1) := by decide +kernel
theorem dX4_place_59 : decode cX4_place 59 = .ok (.aload_n 0, 1) := by decide +kernel
theorem dX4_place_60 : decode cX4_place 60 = .ok (.dup, 1) := by decide +kernel
theorem dX4_place_61 : decode cX4_place 61 = .ok (.getfield 60, 3) := by decide +kernel
theorem dX4_place_64 : decode cX4_place 64 = .ok (.iconst 1, 1) := by decide +kernel
theorem dX4_place_65 : decode cX4_place 65 = .ok (.iadd, 1) := by decide +kernel
theorem dX4_place_66 : decode cX4_place 66 = .ok (.putfield 60, 3) := by decide +kernel
theorem dX4_place_69 : decode cX4_place 69 = .ok (.iload_n 2, 1) := by decide +kernel
theorem dX4_place_70 : decode cX4_place 70 = .ok (.ireturn, 1) := by decide +kernel
set_option maxRecDepth 20000 in
theorem ggX4_free_X6_takeBack : GoodIn wsX4_free wsX6_takeBack := goodIn_r _ [12, 13, 14, 15, 16, 17, 24, 25, 26, 27, 28, 29, 30, 31, 32, 33, 34, 35, 36, 37, 38, 39, 40] (by decide +kernel) (by decide +kernel)
set_option maxRecDepth 20000 in
theorem gX4_free_X6_takeBack : GoodIn wsX4_free (wsV RX4 63 RX6 yX6_takeBack wsX6_takeBack) := goodIn_app (goodIn_of _ (by decide +kernel)) ggX4_free_X6_takeBack
theorem dX4_free_0 : decode cX4_free 0 = .ok (.aload_n 0, 1) := by decide +kernel
theorem dX4_free_1 : decode cX4_free 1 = .ok (.getfield 27, 3) := by decide +kernel
theorem dX4_free_4 : decode cX4_free 4 = .ok (.aload_n 1, 1) := by decide +kernel
theorem dX4_free_5 : decode cX4_free 5 = .ok (.invokevirtual 63, 3) := by decide +kernel
theorem dX4_free_8 : decode cX4_free 8 = .ok (.aload_n 0, 1) := by decide +kernel
theorem dX4_free_9 : decode cX4_free 9 = .ok (.getfield 11, 3) := by decide +kernel
theorem dX4_free_12 : decode cX4_free 12 = .ok (.aload_n 1, 1) := by decide +kernel
theorem dX4_free_13 : decode cX4_free 13 = .ok (.getfield 67, 3) := by decide +kernel
theorem dX4_free_16 : decode cX4_free 16 = .ok (.aconst_null, 1) := by decide +kernel
theorem dX4_free_17 : decode cX4_free 17 = .ok (.aastore, 1) := by decide +kernel
theorem dX4_free_18 : decode cX4_free 18 = .ok (.aload_n 0, 1) := by decide +kernel
theorem dX4_free_19 : decode cX4_free 19 = .ok (.dup, 1) := by decide +kernel
theorem dX4_free_20 : decode cX4_free 20 = .ok (.getfield 60, 3) := by decide +kernel
theorem dX4_free_23 : decode cX4_free 23 = .ok (.iconst 1, 1) := by decide +kernel
theorem dX4_free_24 : decode cX4_free 24 = .ok (.isub, 1) := by decide +kernel
theorem dX4_free_25 : decode cX4_free 25 = .ok (.putfield 60, 3) := by decide +kernel
theorem dX4_free_28 : decode cX4_free 28 = .ok (.iconst 0, 1) := by decide +kernel
theorem dX4_free_29 : decode cX4_free 29 = .ok (.istore_n 2, 1) := by decide +kernel
theorem dX4_free_30 : decode cX4_free 30 = .ok (.iload_n 2, 1) := by decide +kernel
theorem dX4_free_31 : decode cX4_free 31 = .ok (.bipush 20, 2) := by decide +kernel
theorem dX4_free_33 : decode cX4_free 33 = .ok (.if_icmp .ge 26, 3) := by decide +kernel
theorem dX4_free_36 : decode cX4_free 36 = .ok (.aload_n 0, 1) := by decide +kernel
theorem dX4_free_37 : decode cX4_free 37 = .ok (.getfield 21, 3) := by decide +kernel
theorem dX4_free_40 : decode cX4_free 40 = .ok (.iload_n 2, 1) := by decide +kernel
theorem dX4_free_41 : decode cX4_free 41 = .ok (.aaload, 1) := by decide +kernel
theorem dX4_free_42 : decode cX4_free 42 = .ok (.aload_n 1, 1) := by decide +kernel
theorem dX4_free_43 : decode cX4_free 43 = .ok (.if_acmp .ne 10, 3) := by decide +kernel
theorem dX4_free_46 : decode cX4_free 46 = .ok (.aload_n 0, 1) := by decide +kernel
theorem dX4_free_47 : decode cX4_free 47 = .ok (.getfield 21, 3) := by decide +kernel
theorem dX4_free_50 : decode cX4_free 50 = .ok (.iload_n 2, 1) := by decide +kernel
theorem dX4_free_51 : decode cX4_free 51 = .ok (.aconst_null, 1) := by decide +kernel
theorem dX4_free_52 : decode cX4_free 52 = .ok (.aastore, 1) := by decide +kernel
theorem dX4_free_53 : decode cX4_free 53 = .ok (.iinc 2 1, 3) := by decide +kernel
theorem dX4_free_56 : decode cX4_free 56 = .ok (.goto (-26), 3) := by decide +kernel
theorem dX4_free_59 : decode cX4_free 59 = .ok (.aload_n 0, 1) := by decide +kernel
theorem dX4_free_60 : decode cX4_free 60 = .ok (.getfield 17, 3) := by decide +kernel
theorem dX4_free_63 : decode cX4_free 63 = .ok (.aload_n 0, 1) := by decide +kernel
theorem dX4_free_64 : decode cX4_free 64 = .ok (.getfield 70, 3) := by decide +kernel
theorem dX4_free_67 : decode cX4_free 67 = .ok (.bipush 100, 2) := by decide +kernel
theorem dX4_free_69 : decode cX4_free 69 = .ok (.irem, 1) := by decide +kernel
theorem dX4_free_70 : decode cX4_free 70 = .ok (.aload_n 1, 1) := by decide +kernel
theorem dX4_free_71 : decode cX4_free 71 = .ok (.getfield 67, 3) := by decide +kernel
theorem dX4_free_74 : decode cX4_free 74 = .ok (.iastore, 1) := by decide +kernel
theorem dX4_free_75 : decode cX4_free 75 = .ok (.aload_n 0, 1) := by decide +kernel
theorem dX4_free_76 : decode cX4_free 76 = .ok (.dup, 1) := by decide +kernel
theorem dX4_free_77 : decode cX4_free 77 = .ok (.getfield 70, 3) := by decide +kernel
theorem dX4_free_80 : decode cX4_free 80 = .ok (.iconst 1, 1) := by decide +kernel
theorem dX4_free_81 : decode cX4_free 81 = .ok (.iadd, 1) := by decide +kernel
theorem dX4_free_82 : decode cX4_free 82 = .ok (.putfield 70, 3) := by decide +kernel
theorem dX4_free_85 : decode cX4_free 85 = .ok (.return_, 1) := by decide +kernel
theorem dX4_freedNumber_0 : decode cX4_freedNumber 0 = .ok (.iload_n 1, 1) := by decide +kernel
theorem dX4_freedNumber_1 : decode cX4_freedNumber 1 = .ok (.ifCond .lt 22, 3) := by decide +kernel
theorem dX4_freedNumber_4 : decode cX4_freedNumber 4 = .ok (.iload_n 1, 1) := by decide +kernel
theorem dX4_freedNumber_5 : decode cX4_freedNumber 5 = .ok (.aload_n 0, 1) := by decide +kernel
theorem dX4_freedNumber_6 : decode cX4_freedNumber 6 = .ok (.getfield 70, 3) := by decide +kernel
theorem dX4_freedNumber_9 : decode cX4_freedNumber 9 = .ok (.if_icmp .ge 14, 3) := by decide +kernel
theorem dX4_freedNumber_12 : decode cX4_freedNumber 12 = .ok (.iload_n 1, 1) := by decide +kernel
theorem dX4_freedNumber_13 : decode cX4_freedNumber 13 = .ok (.aload_n 0, 1) := by decide +kernel
theorem dX4_freedNumber_14 : decode cX4_freedNumber 14 = .ok (.getfield 70, 3) := by decide +kernel
theorem dX4_freedNumber_17 : decode cX4_freedNumber 17 = .ok (.bipush 100, 2) := by decide +kernel
theorem dX4_freedNumber_19 : decode cX4_freedNumber 19 = .ok (.isub, 1) := by decide +kernel
theorem dX4_freedNumber_20 : decode cX4_freedNumber 20 = .ok (.if_icmp .ge 5, 3) := by decide +kernel
theorem dX4_freedNumber_23 : decode cX4_freedNumber 23 = .ok (.iconst (-1), 1) := by decide +kernel
theorem dX4_freedNumber_24 : decode cX4_freedNumber 24 = .ok (.ireturn, 1) := by decide +kernel
theorem dX4_freedNumber_25 : decode cX4_freedNumber 25 = .ok (.aload_n 0, 1) := by decide +kernel
theorem dX4_freedNumber_26 : decode cX4_freedNumber 26 = .ok (.getfield 17, 3) := by decide +kernel
theorem dX4_freedNumber_29 : decode cX4_freedNumber 29 = .ok (.iload_n 1, 1) := by decide +kernel
theorem dX4_freedNumber_30 : decode cX4_freedNumber 30 = .ok (.bipush 100, 2) := by decide +kernel
theorem dX4_freedNumber_32 : decode cX4_freedNumber 32 = .ok (.irem, 1) := by decide +kernel
theorem dX4_freedNumber_33 : decode cX4_freedNumber 33 = .ok (.iaload, 1) := by decide +kernel
theorem dX4_freedNumber_34 : decode cX4_freedNumber 34 = .ok (.ireturn, 1) := by decide +kernel
theorem dX5_init_0 : decode cX5_init 0 = .ok (.aload_n 0, 1) := by decide +kernel
theorem dX5_init_1 : decode cX5_init 1 = .ok (.invokespecial 3, 3) := by decide +kernel
theorem dX5_init_4 : decode cX5_init 4 = .ok (.aload_n 0, 1) := by decide +kernel
theorem dX5_init_5 : decode cX5_init 5 = .ok (.iconst 1, 1) := by decide +kernel
theorem dX5_init_6 : decode cX5_init 6 = .ok (.putfield 9, 3) := by decide +kernel
theorem dX5_init_9 : decode cX5_init 9 = .ok (.aload_n 0, 1) := by decide +kernel
theorem dX5_init_10 : decode cX5_init 10 = .ok (.iconst 1, 1) := by decide +kernel
theorem dX5_init_11 : decode cX5_init 11 = .ok (.putfield 15, 3) := by decide +kernel
theorem dX5_init_14 : decode cX5_init 14 = .ok (.aload_n 0, 1) := by decide +kernel
theorem dX5_init_15 : decode cX5_init 15 = .ok (.iload_n 1, 1) := by decide +kernel
theorem dX5_init_16 : decode cX5_init 16 = .ok (.putfield 18, 3) := by decide +kernel
theorem dX5_init_19 : decode cX5_init 19 = .ok (.aload_n 0, 1) := by decide +kernel
theorem dX5_init_20 : decode cX5_init 20 = .ok (.aload_n 2, 1) := by decide +kernel
theorem dX5_init_21 : decode cX5_init 21 = .ok (.putfield 21, 3) := by decide +kernel
theorem dX5_init_24 : decode cX5_init 24 = .ok (.aload_n 0, 1) := by decide +kernel
theorem dX5_init_25 : decode cX5_init 25 = .ok (.bipush 6, 2) := by decide +kernel
theorem dX5_init_27 : decode cX5_init 27 = .ok (.anewarray 10, 3) := by decide +kernel
theorem dX5_init_30 : decode cX5_init 30 = .ok (.putfield 25, 3) := by decide +kernel
theorem dX5_init_33 : decode cX5_init 33 = .ok (.aload_n 0, 1) := by decide +kernel
theorem dX5_init_34 : decode cX5_init 34 = .ok (.aload_n 2, 1) := by decide +kernel
theorem dX5_init_35 : decode cX5_init 35 = .ok (.getfield 29, 3) := by decide +kernel
theorem dX5_init_38 : decode cX5_init 38 = .ok (.ifCond .ne 7, 3) := by decide +kernel
theorem dX5_init_41 : decode cX5_init 41 = .ok (.iconst 4, 1) := by decide +kernel
theorem dX5_init_42 : decode cX5_init 42 = .ok (.goto 4, 3) := by decide +kernel
theorem dX5_init_45 : decode cX5_init 45 = .ok (.iconst 0, 1) := by decide +kernel
theorem dX5_init_46 : decode cX5_init 46 = .ok (.putfield 34, 3) := by decide +kernel
theorem dX5_init_49 : decode cX5_init 49 = .ok (.aload_n 0, 1) := by decide +kernel
theorem dX5_init_50 : decode cX5_init 50 = .ok (.aload_n 2, 1) := by decide +kernel
theorem dX5_init_51 : decode cX5_init 51 = .ok (.getfield 37, 3) := by decide +kernel
theorem dX5_init_54 : decode cX5_init 54 = .ok (.putfield 41, 3) := by decide +kernel
theorem dX5_init_57 : decode cX5_init 57 = .ok (.return_, 1) := by decide +kernel
theorem dX5_hasField_0 : decode cX5_hasField 0 = .ok (.iload_n 1, 1) := by decide +kernel
theorem dX5_hasField_1 : decode cX5_hasField 1 = .ok (.ifCond .lt 27, 3) := by decide +kernel
theorem dX5_hasField_4 : decode cX5_hasField 4 = .ok (.iload_n 1, 1) := by decide +kernel
theorem dX5_hasField_5 : decode cX5_hasField 5 = .ok (.aload_n 0, 1) := by decide +kernel
theorem dX5_hasField_6 : decode cX5_hasField 6 = .ok (.getfield 21, 3) := by decide +kernel
theorem dX5_hasField_9 : decode cX5_hasField 9 = .ok (.getfield 29, 3) := by decide +kernel
theorem dX5_hasField_12 : decode cX5_hasField 12 = .ok (.if_icmp .ge 16, 3) := by decide +kernel
theorem dX5_hasField_15 : decode cX5_hasField 15 = .ok (.iload_n 1, 1) := by decide +kernel
theorem dX5_hasField_16 : decode cX5_hasField 16 = .ok (.aload_n 0, 1) := by decide +kernel
theorem dX5_hasField_17 : decode cX5_hasField 17 = .ok (.getfield 25, 3) := by decide +kernel
theorem dX5_hasField_20 : decode cX5_hasField 20 = .ok (.arraylength, 1) := by decide +kernel
theorem dX5_hasField_21 : decode cX5_hasField 21 = .ok (.if_icmp .ge 7, 3) := by decide +kernel
theorem dX5_hasField_24 : decode cX5_hasField 24 = .ok (.iconst 1, 1) := by decide +kernel
theorem dX5_hasField_25 : decode cX5_hasField 25 = .ok (.goto 4, 3) := by decide +kernel
theorem dX5_hasField_28 : decode cX5_hasField 28 = .ok (.iconst 0, 1) := by decide +kernel
theorem dX5_hasField_29 : decode cX5_hasField 29 = .ok (.ireturn, 1) := by decide +kernel
theorem dX5_isGreen_0 : decode cX5_isGreen 0 = .ok (.aload_n 0, 1) := by decide +kernel
theorem dX5_isGreen_1 : decode cX5_isGreen 1 = .ok (.getfield 34, 3) := by decide +kernel
theorem dX5_isGreen_4 : decode cX5_isGreen 4 = .ok (.iconst 4, 1) := by decide +kernel
theorem dX5_isGreen_5 : decode cX5_isGreen 5 = .ok (.if_icmp .ne 7, 3) := by decide +kernel
theorem dX5_isGreen_8 : decode cX5_isGreen 8 = .ok (.iconst 1, 1) := by decide +kernel
theorem dX5_isGreen_9 : decode cX5_isGreen 9 = .ok (.goto 4, 3) := by decide +kernel
theorem dX5_isGreen_12 : decode cX5_isGreen 12 = .ok (.iconst 0, 1) := by decide +kernel
theorem dX5_isGreen_13 : decode cX5_isGreen 13 = .ok (.ireturn, 1) := by decide +kernel
set_option maxRecDepth 20000 in
theorem ggX5_blackenUnlessGreen_X5_isGreen : GoodIn wsX5_blackenUnlessGreen wsX5_isGreen := goodIn_r _ [6, 1, 7, 8, 9, 10, 11, 12, 13, 14, 15, 16, 17] (by decide +kernel) (by decide +kernel)
set_option maxRecDepth 20000 in
theorem gX5_blackenUnlessGreen_X5_isGreen : GoodIn wsX5_blackenUnlessGreen (wsV RX5 44 RX5 yX5_isGreen wsX5_isGreen) := goodIn_app (goodIn_of _ (by decide +kernel)) ggX5_blackenUnlessGreen_X5_isGreen
theorem dX5_blackenUnlessGreen_0 : decode cX5_blackenUnlessGreen 0 = .ok (.aload_n 0, 1) := by decide +kernel
theorem dX5_blackenUnlessGreen_1 : decode cX5_blackenUnlessGreen 1 = .ok (.invokevirtual 44, 3) := by decide +kernel
theorem dX5_blackenUnlessGreen_4 : decode cX5_blackenUnlessGreen 4 = .ok (.ifCond .ne 8, 3) := by decide +kernel
theorem dX5_blackenUnlessGreen_7 : decode cX5_blackenUnlessGreen 7 = .ok (.aload_n 0, 1) := by decide +kernel
theorem dX5_blackenUnlessGreen_8 : decode cX5_blackenUnlessGreen 8 = .ok (.iconst 0, 1) := by decide +kernel
theorem dX5_blackenUnlessGreen_9 : decode cX5_blackenUnlessGreen 9 = .ok (.putfield 34, 3) := by decide +kernel
theorem dX5_blackenUnlessGreen_12 : decode cX5_blackenUnlessGreen 12 = .ok (.return_, 1) := by decide +kernel
theorem dX5_giveUpNext_0 : decode cX5_giveUpNext 0 = .ok (.aconst_null, 1) := by decide +kernel
theorem dX5_giveUpNext_1 : decode cX5_giveUpNext 1 = .ok (.astore_n 1, 1) := by decide +kernel
theorem dX5_giveUpNext_2 : decode cX5_giveUpNext 2 = .ok (.aload_n 1, 1) := by decide +kernel
theorem dX5_giveUpNext_3 : decode cX5_giveUpNext 3 = .ok (.ifnonnull 55, 3) := by decide +kernel
theorem dX5_giveUpNext_6 : decode cX5_giveUpNext 6 = .ok (.aload_n 0, 1) := by decide +kernel
theorem dX5_giveUpNext_7 : decode cX5_giveUpNext 7 = .ok (.getfield 48, 3) := by decide +kernel
theorem dX5_giveUpNext_10 : decode cX5_giveUpNext 10 = .ok (.ifCond .lt 48, 3) := by decide +kernel
theorem dX5_giveUpNext_13 : decode cX5_giveUpNext 13 = .ok (.aload_n 0, 1) := by decide +kernel
theorem dX5_giveUpNext_14 : decode cX5_giveUpNext 14 = .ok (.getfield 48, 3) := by decide +kernel
theorem dX5_giveUpNext_17 : decode cX5_giveUpNext 17 = .ok (.aload_n 0, 1) := by decide +kernel
theorem dX5_giveUpNext_18 : decode cX5_giveUpNext 18 = .ok (.getfield 25, 3) := by decide +kernel
theorem dX5_giveUpNext_21 : decode cX5_giveUpNext 21 = .ok (.arraylength, 1) := by decide +kernel
theorem dX5_giveUpNext_22 : decode cX5_giveUpNext 22 = .ok (.if_icmp .ge 36, 3) := by decide +kernel
theorem dX5_giveUpNext_25 : decode cX5_giveUpNext 25 = .ok (.aload_n 0, 1) := by decide +kernel
theorem dX5_giveUpNext_26 : decode cX5_giveUpNext 26 = .ok (.getfield 25, 3) := by decide +kernel
theorem dX5_giveUpNext_29 : decode cX5_giveUpNext 29 = .ok (.aload_n 0, 1) := by decide +kernel
theorem dX5_giveUpNext_30 : decode cX5_giveUpNext 30 = .ok (.getfield 48, 3) := by decide +kernel
theorem dX5_giveUpNext_33 : decode cX5_giveUpNext 33 = .ok (.aaload, 1) := by decide +kernel
theorem dX5_giveUpNext_34 : decode cX5_giveUpNext 34 = .ok (.astore_n 1, 1) := by decide +kernel
theorem dX5_giveUpNext_35 : decode cX5_giveUpNext 35 = .ok (.aload_n 0, 1) := by decide +kernel
theorem dX5_giveUpNext_36 : decode cX5_giveUpNext 36 = .ok (.getfield 25, 3) := by decide +kernel
theorem dX5_giveUpNext_39 : decode cX5_giveUpNext 39 = .ok (.aload_n 0, 1) := by decide +kernel
theorem dX5_giveUpNext_40 : decode cX5_giveUpNext 40 = .ok (.getfield 48, 3) := by decide +kernel
theorem dX5_giveUpNext_43 : decode cX5_giveUpNext 43 = .ok (.aconst_null, 1) := by decide +kernel
theorem dX5_giveUpNext_44 : decode cX5_giveUpNext 44 = .ok (.aastore, 1) := by decide +kernel
theorem dX5_giveUpNext_45 : decode cX5_giveUpNext 45 = .ok (.aload_n 0, 1) := by decide +kernel
theorem dX5_giveUpNext_46 : decode cX5_giveUpNext 46 = .ok (.dup, 1) := by decide +kernel
theorem dX5_giveUpNext_47 : decode cX5_giveUpNext 47 = .ok (.getfield 48, 3) := by decide +kernel
theorem dX5_giveUpNext_50 : decode cX5_giveUpNext 50 = .ok (.iconst 1, 1) := by decide +kernel
theorem dX5_giveUpNext_51 : decode cX5_giveUpNext 51 = .ok (.iadd, 1) := by decide +kernel
theorem dX5_giveUpNext_52 : decode cX5_giveUpNext 52 = .ok (.putfield 48, 3) := by decide +kernel
theorem dX5_giveUpNext_55 : decode cX5_giveUpNext 55 = .ok (.goto (-53), 3) := by decide +kernel
theorem dX5_giveUpNext_58 : decode cX5_giveUpNext 58 = .ok (.aload_n 1, 1) := by decide +kernel
theorem dX5_giveUpNext_59 : decode cX5_giveUpNext 59 = .ok (.areturn, 1) := by decide +kernel
theorem dX5_tell_0 : decode cX5_tell 0 = .ok (.iload_n 1, 1) := by decide +kernel
theorem dX5_tell_1 : decode cX5_tell 1 = .ok (.tableswitch 97 0 6 #[43, 51, 56, 61, 66, 79, 92], 43) := by decide +kernel
theorem dX5_tell_44 : decode cX5_tell 44 = .ok (.aload_n 0, 1) := by decide +kernel
theorem dX5_tell_45 : decode cX5_tell 45 = .ok (.getfield 21, 3) := by decide +kernel
theorem dX5_tell_48 : decode cX5_tell 48 = .ok (.getfield 51, 3) := by decide +kernel
theorem dX5_tell_51 : decode cX5_tell 51 = .ok (.ireturn, 1) := by decide +kernel
theorem dX5_tell_52 : decode cX5_tell 52 = .ok (.aload_n 0, 1) := by decide +kernel
theorem dX5_tell_53 : decode cX5_tell 53 = .ok (.getfield 9, 3) := by decide +kernel
theorem dX5_tell_56 : decode cX5_tell 56 = .ok (.ireturn, 1) := by decide +kernel
theorem dX5_tell_57 : decode cX5_tell 57 = .ok (.aload_n 0, 1) := by decide +kernel
theorem dX5_tell_58 : decode cX5_tell 58 = .ok (.getfield 34, 3) := by decide +kernel
theorem dX5_tell_61 : decode cX5_tell 61 = .ok (.ireturn, 1) := by decide +kernel
theorem dX5_tell_62 : decode cX5_tell 62 = .ok (.aload_n 0, 1) := by decide +kernel
theorem dX5_tell_63 : decode cX5_tell 63 = .ok (.getfield 52, 3) := by decide +kernel
theorem dX5_tell_66 : decode cX5_tell 66 = .ok (.ireturn, 1) := by decide +kernel
theorem dX5_tell_67 : decode cX5_tell 67 = .ok (.aload_n 0, 1) := by decide +kernel
theorem dX5_tell_68 : decode cX5_tell 68 = .ok (.getfield 55, 3) := by decide +kernel
theorem dX5_tell_71 : decode cX5_tell 71 = .ok (.ifCond .eq 7, 3) := by decide +kernel
theorem dX5_tell_74 : decode cX5_tell 74 = .ok (.iconst 1, 1) := by decide +kernel
theorem dX5_tell_75 : decode cX5_tell 75 = .ok (.goto 4, 3) := by decide +kernel
theorem dX5_tell_78 : decode cX5_tell 78 = .ok (.iconst 0, 1) := by decide +kernel
theorem dX5_tell_79 : decode cX5_tell 79 = .ok (.ireturn, 1) := by decide +kernel
theorem dX5_tell_80 : decode cX5_tell 80 = .ok (.aload_n 0, 1) := by decide +kernel
theorem dX5_tell_81 : decode cX5_tell 81 = .ok (.getfield 41, 3) := by decide +kernel
theorem dX5_tell_84 : decode cX5_tell 84 = .ok (.ifCond .eq 7, 3) := by decide +kernel
theorem dX5_tell_87 : decode cX5_tell 87 = .ok (.iconst 1, 1) := by decide +kernel
theorem dX5_tell_88 : decode cX5_tell 88 = .ok (.goto 4, 3) := by decide +kernel
theorem dX5_tell_91 : decode cX5_tell 91 = .ok (.iconst 0, 1) := by decide +kernel
theorem dX5_tell_92 : decode cX5_tell 92 = .ok (.ireturn, 1) := by decide +kernel
theorem dX5_tell_93 : decode cX5_tell 93 = .ok (.aload_n 0, 1) := by decide +kernel
theorem dX5_tell_94 : decode cX5_tell 94 = .ok (.getfield 15, 3) := by decide +kernel
theorem dX5_tell_97 : decode cX5_tell 97 = .ok (.ireturn, 1) := by decide +kernel
theorem dX5_tell_98 : decode cX5_tell 98 = .ok (.aload_n 0, 1) := by decide +kernel
theorem dX5_tell_99 : decode cX5_tell 99 = .ok (.getfield 58, 3) := by decide +kernel
theorem dX5_tell_102 : decode cX5_tell 102 = .ok (.ifCond .eq 7, 3) := by decide +kernel
theorem dX5_tell_105 : decode cX5_tell 105 = .ok (.iconst 1, 1) := by decide +kernel
theorem dX5_tell_106 : decode cX5_tell 106 = .ok (.goto 4, 3) := by decide +kernel
theorem dX5_tell_109 : decode cX5_tell 109 = .ok (.iconst 0, 1) := by decide +kernel
theorem dX5_tell_110 : decode cX5_tell 110 = .ok (.ireturn, 1) := by decide +kernel
theorem dX6_init_0 : decode cX6_init 0 = .ok (.aload_n 0, 1) := by decide +kernel
theorem dX6_init_1 : decode cX6_init 1 = .ok (.invokespecial 3, 3) := by decide +kernel
theorem dX6_init_4 : decode cX6_init 4 = .ok (.aload_n 0, 1) := by decide +kernel
theorem dX6_init_5 : decode cX6_init 5 = .ok (.sipush 400, 3) := by decide +kernel
theorem dX6_init_8 : decode cX6_init 8 = .ok (.anewarray 9, 3) := by decide +kernel
theorem dX6_init_11 : decode cX6_init 11 = .ok (.putfield 11, 3) := by decide +kernel
theorem dX6_init_14 : decode cX6_init 14 = .ok (.aload_n 0, 1) := by decide +kernel
theorem dX6_init_15 : decode cX6_init 15 = .ok (.sipush 400, 3) := by decide +kernel
theorem dX6_init_18 : decode cX6_init 18 = .ok (.putfield 17, 3) := by decide +kernel
theorem dX6_init_21 : decode cX6_init 21 = .ok (.return_, 1) := by decide +kernel
theorem dX6_owner_0 : decode cX6_owner 0 = .ok (.iload_n 1, 1) := by decide +kernel
theorem dX6_owner_1 : decode cX6_owner 1 = .ok (.ifCond .lt 19, 3) := by decide +kernel
theorem dX6_owner_4 : decode cX6_owner 4 = .ok (.iload_n 1, 1) := by decide +kernel
theorem dX6_owner_5 : decode cX6_owner 5 = .ok (.sipush 400, 3) := by decide +kernel
theorem dX6_owner_8 : decode cX6_owner 8 = .ok (.if_icmp .ge 12, 3) := by decide +kernel
theorem dX6_owner_11 : decode cX6_owner 11 = .ok (.aload_n 0, 1) := by decide +kernel
theorem dX6_owner_12 : decode cX6_owner 12 = .ok (.getfield 11, 3) := by decide +kernel
theorem dX6_owner_15 : decode cX6_owner 15 = .ok (.iload_n 1, 1) := by decide +kernel
theorem dX6_owner_16 : decode cX6_owner 16 = .ok (.aaload, 1) := by decide +kernel
theorem dX6_owner_17 : decode cX6_owner 17 = .ok (.goto 4, 3) := by decide +kernel
theorem dX6_owner_20 : decode cX6_owner 20 = .ok (.aconst_null, 1) := by decide +kernel
theorem dX6_owner_21 : decode cX6_owner 21 = .ok (.areturn, 1) := by decide +kernel
set_option maxRecDepth 20000 in
theorem ggX6_ownerFrom_X6_owner : GoodIn wsX6_ownerFrom wsX6_owner := goodIn_r _ [6, 7, 19, 20] (by decide +kernel) (by decide +kernel)
set_option maxRecDepth 20000 in
theorem gX6_ownerFrom_X6_owner : GoodIn wsX6_ownerFrom (wsV RX6 21 RX6 yX6_owner wsX6_owner) := goodIn_app (goodIn_of _ (by decide +kernel)) ggX6_ownerFrom_X6_owner
theorem dX6_ownerFrom_0 : decode cX6_ownerFrom 0 = .ok (.aload_n 0, 1) := by decide +kernel
theorem dX6_ownerFrom_1 : decode cX6_ownerFrom 1 = .ok (.iload_n 1, 1) := by decide +kernel
theorem dX6_ownerFrom_2 : decode cX6_ownerFrom 2 = .ok (.invokevirtual 21, 3) := by decide +kernel
theorem dX6_ownerFrom_5 : decode cX6_ownerFrom 5 = .ok (.astore_n 2, 1) := by decide +kernel
theorem dX6_ownerFrom_6 : decode cX6_ownerFrom 6 = .ok (.aload_n 2, 1) := by decide +kernel
theorem dX6_ownerFrom_7 : decode cX6_ownerFrom 7 = .ok (.ifnull 15, 3) := by decide +kernel
theorem dX6_ownerFrom_10 : decode cX6_ownerFrom 10 = .ok (.aload_n 2, 1) := by decide +kernel
theorem dX6_ownerFrom_11 : decode cX6_ownerFrom 11 = .ok (.getfield 25, 3) := by decide +kernel
theorem dX6_ownerFrom_14 : decode cX6_ownerFrom 14 = .ok (.iload_n 1, 1) := by decide +kernel
theorem dX6_ownerFrom_15 : decode cX6_ownerFrom 15 = .ok (.if_icmp .ne 7, 3) := by decide +kernel
theorem dX6_ownerFrom_18 : decode cX6_ownerFrom 18 = .ok (.aload_n 2, 1) := by decide +kernel
theorem dX6_ownerFrom_19 : decode cX6_ownerFrom 19 = .ok (.goto 4, 3) := by decide +kernel
theorem dX6_ownerFrom_22 : decode cX6_ownerFrom 22 = .ok (.aconst_null, 1) := by decide +kernel
theorem dX6_ownerFrom_23 : decode cX6_ownerFrom 23 = .ok (.areturn, 1) := by decide +kernel
theorem dX6_gapFor_0 : decode cX6_gapFor 0 = .ok (.iconst 0, 1) := by decide +kernel
theorem dX6_gapFor_1 : decode cX6_gapFor 1 = .ok (.istore_n 2, 1) := by decide +kernel
theorem dX6_gapFor_2 : decode cX6_gapFor 2 = .ok (.iconst 0, 1) := by decide +kernel
theorem dX6_gapFor_3 : decode cX6_gapFor 3 = .ok (.istore_n 3, 1) := by decide +kernel
theorem dX6_gapFor_4 : decode cX6_gapFor 4 = .ok (.iload_n 3, 1) := by decide +kernel
theorem dX6_gapFor_5 : decode cX6_gapFor 5 = .ok (.sipush 400, 3) := by decide +kernel
theorem dX6_gapFor_8 : decode cX6_gapFor 8 = .ok (.if_icmp .ge 37, 3) := by decide +kernel
theorem dX6_gapFor_11 : decode cX6_gapFor 11 = .ok (.aload_n 0, 1) := by decide +kernel
theorem dX6_gapFor_12 : decode cX6_gapFor 12 = .ok (.getfield 11, 3) := by decide +kernel
theorem dX6_gapFor_15 : decode cX6_gapFor 15 = .ok (.iload_n 3, 1) := by decide +kernel
theorem dX6_gapFor_16 : decode cX6_gapFor 16 = .ok (.aaload, 1) := by decide +kernel
theorem dX6_gapFor_17 : decode cX6_gapFor 17 = .ok (.ifnonnull 9, 3) := by decide +kernel
theorem dX6_gapFor_20 : decode cX6_gapFor 20 = .ok (.iload_n 2, 1) := by decide +kernel
theorem dX6_gapFor_21 : decode cX6_gapFor 21 = .ok (.iconst 1, 1) := by decide +kernel
theorem dX6_gapFor_22 : decode cX6_gapFor 22 = .ok (.iadd, 1) := by decide +kernel
theorem dX6_gapFor_23 : decode cX6_gapFor 23 = .ok (.goto 4, 3) := by decide +kernel
theorem dX6_gapFor_26 : decode cX6_gapFor 26 = .ok (.iconst 0, 1) := by decide +kernel
theorem dX6_gapFor_27 : decode cX6_gapFor 27 = .ok (.istore_n 2, 1) := by decide +kernel
theorem dX6_gapFor_28 : decode cX6_gapFor 28 = .ok (.iload_n 2, 1) := by decide +kernel
theorem dX6_gapFor_29 : decode cX6_gapFor 29 = .ok (.iload_n 1, 1) := by decide +kernel
theorem dX6_gapFor_30 : decode cX6_gapFor 30 = .ok (.if_icmp .lt 9, 3) := by decide +kernel
theorem dX6_gapFor_33 : decode cX6_gapFor 33 = .ok (.iload_n 3, 1) := by decide +kernel
theorem dX6_gapFor_34 : decode cX6_gapFor 34 = .ok (.iconst 1, 1) := by decide +kernel
theorem dX6_gapFor_35 : decode cX6_gapFor 35 = .ok (.iadd, 1) := by decide +kernel
theorem dX6_gapFor_36 : decode cX6_gapFor 36 = .ok (.iload_n 1, 1) := by decide +kernel
theorem dX6_gapFor_37 : decode cX6_gapFor 37 = .ok (.isub, 1) := by decide +kernel
theorem dX6_gapFor_38 : decode cX6_gapFor 38 = .ok (.ireturn, 1) := by decide +kernel
theorem dX6_gapFor_39 : decode cX6_gapFor 39 = .ok (.iinc 3 1, 3) := by decide +kernel
theorem dX6_gapFor_42 : decode cX6_gapFor 42 = .ok (.goto (-38), 3) := by decide +kernel
theorem dX6_gapFor_45 : decode cX6_gapFor 45 = .ok (.iconst (-1), 1) := by decide +kernel
theorem dX6_gapFor_46 : decode cX6_gapFor 46 = .ok (.ireturn, 1) := by decide +kernel
theorem dX6_give_0 : decode cX6_give 0 = .ok (.iload_n 2, 1) := by decide +kernel
theorem dX6_give_1 : decode cX6_give 1 = .ok (.aload_n 1, 1) := by decide +kernel
theorem dX6_give_2 : decode cX6_give 2 = .ok (.getfield 28, 3) := by decide +kernel
theorem dX6_give_5 : decode cX6_give 5 = .ok (.getfield 32, 3) := by decide +kernel
theorem dX6_give_8 : decode cX6_give 8 = .ok (.iadd, 1) := by decide +kernel
theorem dX6_give_9 : decode cX6_give 9 = .ok (.istore_n 3, 1) := by decide +kernel
theorem dX6_give_10 : decode cX6_give 10 = .ok (.iload_n 2, 1) := by decide +kernel
theorem dX6_give_11 : decode cX6_give 11 = .ok (.istore 4, 2) := by decide +kernel
theorem dX6_give_13 : decode cX6_give 13 = .ok (.iload 4, 2) := by decide +kernel
theorem dX6_give_15 : decode cX6_give 15 = .ok (.ifCond .lt 31, 3) := by decide +kernel
theorem dX6_give_18 : decode cX6_give 18 = .ok (.iload 4, 2) := by decide +kernel
theorem dX6_give_20 : decode cX6_give 20 = .ok (.iload_n 3, 1) := by decide +kernel
theorem dX6_give_21 : decode cX6_give 21 = .ok (.if_icmp .ge 25, 3) := by decide +kernel
theorem dX6_give_24 : decode cX6_give 24 = .ok (.iload 4, 2) := by decide +kernel
theorem dX6_give_26 : decode cX6_give 26 = .ok (.sipush 400, 3) := by decide +kernel
theorem dX6_give_29 : decode cX6_give 29 = .ok (.if_icmp .ge 17, 3) := by decide +kernel
theorem dX6_give_32 : decode cX6_give 32 = .ok (.aload_n 0, 1) := by decide +kernel
theorem dX6_give_33 : decode cX6_give 33 = .ok (.getfield 11, 3) := by decide +kernel
theorem dX6_give_36 : decode cX6_give 36 = .ok (.iload 4, 2) := by decide +kernel
theorem dX6_give_38 : decode cX6_give 38 = .ok (.aload_n 1, 1) := by decide +kernel
theorem dX6_give_39 : decode cX6_give 39 = .ok (.aastore, 1) := by decide +kernel
theorem dX6_give_40 : decode cX6_give 40 = .ok (.iinc 4 1, 3) := by decide +kernel
theorem dX6_give_43 : decode cX6_give 43 = .ok (.goto (-30), 3) := by decide +kernel
theorem dX6_give_46 : decode cX6_give 46 = .ok (.aload_n 1, 1) := by decide +kernel
theorem dX6_give_47 : decode cX6_give 47 = .ok (.iload_n 2, 1) := by decide +kernel
theorem dX6_give_48 : decode cX6_give 48 = .ok (.putfield 25, 3) := by decide +kernel
theorem dX6_give_51 : decode cX6_give 51 = .ok (.aload_n 0, 1) := by decide +kernel
theorem dX6_give_52 : decode cX6_give 52 = .ok (.dup, 1) := by decide +kernel
theorem dX6_give_53 : decode cX6_give 53 = .ok (.getfield 17, 3) := by decide +kernel
theorem dX6_give_56 : decode cX6_give 56 = .ok (.aload_n 1, 1) := by decide +kernel
theorem dX6_give_57 : decode cX6_give 57 = .ok (.getfield 28, 3) := by decide +kernel
theorem dX6_give_60 : decode cX6_give 60 = .ok (.getfield 32, 3) := by decide +kernel
theorem dX6_give_63 : decode cX6_give 63 = .ok (.isub, 1) := by decide +kernel
theorem dX6_give_64 : decode cX6_give 64 = .ok (.putfield 17, 3) := by decide +kernel
theorem dX6_give_67 : decode cX6_give 67 = .ok (.return_, 1) := by decide +kernel
theorem dX6_takeBack_0 : decode cX6_takeBack 0 = .ok (.aload_n 1, 1) := by decide +kernel
theorem dX6_takeBack_1 : decode cX6_takeBack 1 = .ok (.getfield 25, 3) := by decide +kernel
theorem dX6_takeBack_4 : decode cX6_takeBack 4 = .ok (.aload_n 1, 1) := by decide +kernel
theorem dX6_takeBack_5 : decode cX6_takeBack 5 = .ok (.getfield 28, 3) := by decide +kernel
theorem dX6_takeBack_8 : decode cX6_takeBack 8 = .ok (.getfield 32, 3) := by decide +kernel
theorem dX6_takeBack_11 : decode cX6_takeBack 11 = .ok (.iadd, 1) := by decide +kernel
theorem dX6_takeBack_12 : decode cX6_takeBack 12 = .ok (.istore_n 2, 1) := by decide +kernel
theorem dX6_takeBack_13 : decode cX6_takeBack 13 = .ok (.aload_n 1, 1) := by decide +kernel
theorem dX6_takeBack_14 : decode cX6_takeBack 14 = .ok (.getfield 25, 3) := by decide +kernel
theorem dX6_takeBack_17 : decode cX6_takeBack 17 = .ok (.istore_n 3, 1) := by decide +kernel
theorem dX6_takeBack_18 : decode cX6_takeBack 18 = .ok (.iload_n 3, 1) := by decide +kernel
theorem dX6_takeBack_19 : decode cX6_takeBack 19 = .ok (.ifCond .lt 28, 3) := by decide +kernel
theorem dX6_takeBack_22 : decode cX6_takeBack 22 = .ok (.iload_n 3, 1) := by decide +kernel
theorem dX6_takeBack_23 : decode cX6_takeBack 23 = .ok (.iload_n 2, 1) := by decide +kernel
theorem dX6_takeBack_24 : decode cX6_takeBack 24 = .ok (.if_icmp .ge 23, 3) := by decide +kernel
theorem dX6_takeBack_27 : decode cX6_takeBack 27 = .ok (.iload_n 3, 1) := by decide +kernel
theorem dX6_takeBack_28 : decode cX6_takeBack 28 = .ok (.sipush 400, 3) := by decide +kernel
theorem dX6_takeBack_31 : decode cX6_takeBack 31 = .ok (.if_icmp .ge 16, 3) := by decide +kernel
theorem dX6_takeBack_34 : decode cX6_takeBack 34 = .ok (.aload_n 0, 1) := by decide +kernel
theorem dX6_takeBack_35 : decode cX6_takeBack 35 = .ok (.getfield 11, 3) := by decide +kernel
theorem dX6_takeBack_38 : decode cX6_takeBack 38 = .ok (.iload_n 3, 1) := by decide +kernel
theorem dX6_takeBack_39 : decode cX6_takeBack 39 = .ok (.aconst_null, 1) := by decide +kernel
theorem dX6_takeBack_40 : decode cX6_takeBack 40 = .ok (.aastore, 1) := by decide +kernel
theorem dX6_takeBack_41 : decode cX6_takeBack 41 = .ok (.iinc 3 1, 3) := by decide +kernel
theorem dX6_takeBack_44 : decode cX6_takeBack 44 = .ok (.goto (-26), 3) := by decide +kernel
theorem dX6_takeBack_47 : decode cX6_takeBack 47 = .ok (.aload_n 0, 1) := by decide +kernel
theorem dX6_takeBack_48 : decode cX6_takeBack 48 = .ok (.dup, 1) := by decide +kernel
theorem dX6_takeBack_49 : decode cX6_takeBack 49 = .ok (.getfield 17, 3) := by decide +kernel
theorem dX6_takeBack_52 : decode cX6_takeBack 52 = .ok (.aload_n 1, 1) := by decide +kernel
theorem dX6_takeBack_53 : decode cX6_takeBack 53 = .ok (.getfield 28, 3) := by decide +kernel
theorem dX6_takeBack_56 : decode cX6_takeBack 56 = .ok (.getfield 32, 3) := by decide +kernel
theorem dX6_takeBack_59 : decode cX6_takeBack 59 = .ok (.iadd, 1) := by decide +kernel
theorem dX6_takeBack_60 : decode cX6_takeBack 60 = .ok (.putfield 17, 3) := by decide +kernel
theorem dX6_takeBack_63 : decode cX6_takeBack 63 = .ok (.return_, 1) := by decide +kernel
set_option maxRecDepth 20000 in
theorem ggX6_moveAllDown_X6_ownerFrom : GoodIn wsX6_moveAllDown wsX6_ownerFrom := goodIn_r _ [7, 8, 9, 10, 11, 6, 12, 13, 23, 24, 25, 26, 27, 28, 29, 30, 31, 32, 33, 38, 39] (by decide +kernel) (by decide +kernel)
set_option maxRecDepth 20000 in
theorem gX6_moveAllDown_X6_ownerFrom : GoodIn wsX6_moveAllDown (wsV RX6 37 RX6 yX6_ownerFrom wsX6_ownerFrom) := goodIn_app (goodIn_of _ (by decide +kernel)) ggX6_moveAllDown_X6_ownerFrom
set_option maxRecDepth 20000 in
theorem ggX6_moveAllDown_X6_takeBack : GoodIn wsX6_moveAllDown wsX6_takeBack := goodIn_r _ [17, 8, 1, 2, 13, 18, 23, 24, 25, 26, 27, 28, 29, 30, 31, 32, 33, 34, 35, 36, 37, 38, 39] (by decide +kernel) (by decide +kernel)
set_option maxRecDepth 20000 in
theorem gX6_moveAllDown_X6_takeBack : GoodIn wsX6_moveAllDown (wsV RX6 40 RX6 yX6_takeBack wsX6_takeBack) := goodIn_app (goodIn_of _ (by decide +kernel)) ggX6_moveAllDown_X6_takeBack
set_option maxRecDepth 20000 in
theorem ggX6_moveAllDown_X6_give : GoodIn wsX6_moveAllDown wsX6_give := goodIn_r _ [22, 1, 2, 13, 8, 18, 23, 24, 25, 26, 27, 28, 29, 30, 31, 32, 33, 34, 35, 36, 37, 38, 39] (by decide +kernel) (by decide +kernel)
set_option maxRecDepth 20000 in
theorem gX6_moveAllDown_X6_give : GoodIn wsX6_moveAllDown (wsV RX6 44 RX6 yX6_give wsX6_give) := goodIn_app (goodIn_of _ (by decide +kernel)) ggX6_moveAllDown_X6_give
theorem dX6_moveAllDown_0 : decode cX6_moveAllDown 0 = .ok (.iconst 0, 1) := by decide +kernel
theorem dX6_moveAllDown_1 : decode cX6_moveAllDown 1 = .ok (.istore_n 1, 1) := by decide +kernel
theorem dX6_moveAllDown_2 : decode cX6_moveAllDown 2 = .ok (.iconst 0, 1) := by decide +kernel
theorem dX6_moveAllDown_3 : decode cX6_moveAllDown 3 = .ok (.istore_n 2, 1) := by decide +kernel
theorem dX6_moveAllDown_4 : decode cX6_moveAllDown 4 = .ok (.iconst 0, 1) := by decide +kernel
theorem dX6_moveAllDown_5 : decode cX6_moveAllDown 5 = .ok (.istore_n 3, 1) := by decide +kernel
theorem dX6_moveAllDown_6 : decode cX6_moveAllDown 6 = .ok (.iload_n 3, 1) := by decide +kernel
theorem dX6_moveAllDown_7 : decode cX6_moveAllDown 7 = .ok (.sipush 400, 3) := by decide +kernel
theorem dX6_moveAllDown_10 : decode cX6_moveAllDown 10 = .ok (.if_icmp .ge 53, 3) := by decide +kernel
theorem dX6_moveAllDown_13 : decode cX6_moveAllDown 13 = .ok (.aload_n 0, 1) := by decide +kernel
theorem dX6_moveAllDown_14 : decode cX6_moveAllDown 14 = .ok (.iload_n 3, 1) := by decide +kernel
theorem dX6_moveAllDown_15 : decode cX6_moveAllDown 15 = .ok (.invokevirtual 37, 3) := by decide +kernel
theorem dX6_moveAllDown_18 : decode cX6_moveAllDown 18 = .ok (.astore 4, 2) := by decide +kernel
theorem dX6_moveAllDown_20 : decode cX6_moveAllDown 20 = .ok (.aload 4, 2) := by decide +kernel
theorem dX6_moveAllDown_22 : decode cX6_moveAllDown 22 = .ok (.ifnull 35, 3) := by decide +kernel
theorem dX6_moveAllDown_25 : decode cX6_moveAllDown 25 = .ok (.iload_n 3, 1) := by decide +kernel
theorem dX6_moveAllDown_26 : decode cX6_moveAllDown 26 = .ok (.iload_n 2, 1) := by decide +kernel
theorem dX6_moveAllDown_27 : decode cX6_moveAllDown 27 = .ok (.if_icmp .eq 19, 3) := by decide +kernel
theorem dX6_moveAllDown_30 : decode cX6_moveAllDown 30 = .ok (.aload_n 0, 1) := by decide +kernel
theorem dX6_moveAllDown_31 : decode cX6_moveAllDown 31 = .ok (.aload 4, 2) := by decide +kernel
theorem dX6_moveAllDown_33 : decode cX6_moveAllDown 33 = .ok (.invokevirtual 40, 3) := by decide +kernel
theorem dX6_moveAllDown_36 : decode cX6_moveAllDown 36 = .ok (.aload_n 0, 1) := by decide +kernel
theorem dX6_moveAllDown_37 : decode cX6_moveAllDown 37 = .ok (.aload 4, 2) := by decide +kernel
theorem dX6_moveAllDown_39 : decode cX6_moveAllDown 39 = .ok (.iload_n 2, 1) := by decide +kernel
theorem dX6_moveAllDown_40 : decode cX6_moveAllDown 40 = .ok (.invokevirtual 44, 3) := by decide +kernel
theorem dX6_moveAllDown_43 : decode cX6_moveAllDown 43 = .ok (.iinc 1 1, 3) := by decide +kernel
theorem dX6_moveAllDown_46 : decode cX6_moveAllDown 46 = .ok (.iload_n 2, 1) := by decide +kernel
theorem dX6_moveAllDown_47 : decode cX6_moveAllDown 47 = .ok (.aload 4, 2) := by decide +kernel
theorem dX6_moveAllDown_49 : decode cX6_moveAllDown 49 = .ok (.getfield 28, 3) := by decide +kernel
theorem dX6_moveAllDown_52 : decode cX6_moveAllDown 52 = .ok (.getfield 32, 3) := by decide +kernel
theorem dX6_moveAllDown_55 : decode cX6_moveAllDown 55 = .ok (.iadd, 1) := by decide +kernel
theorem dX6_moveAllDown_56 : decode cX6_moveAllDown 56 = .ok (.istore_n 2, 1) := by decide +kernel
theorem dX6_moveAllDown_57 : decode cX6_moveAllDown 57 = .ok (.iinc 3 1, 3) := by decide +kernel
theorem dX6_moveAllDown_60 : decode cX6_moveAllDown 60 = .ok (.goto (-54), 3) := by decide +kernel
theorem dX6_moveAllDown_63 : decode cX6_moveAllDown 63 = .ok (.iload_n 1, 1) := by decide +kernel
theorem dX6_moveAllDown_64 : decode cX6_moveAllDown 64 = .ok (.ireturn, 1) := by decide +kernel
end
section
set_option maxRecDepth 20000 in
theorem ggX7_init_X4_init : GoodIn wsX7_init wsX4_init := goodIn_r _ [19, 20, 2, 3, 21, 22, 23, 24, 25, 26, 27, 28, 29, 30, 31, 32, 33, 34, 35, 66, 67, 68, 69, 70, 71, 83, 84] (by decide +kernel) (by decide +kernel)
set_option maxRecDepth 20000 in
theorem gX7_init_X4_init_n17 : GoodIn wsX7_init (wsX4_init) := ggX7_init_X4_init
set_option maxRecDepth 20000 in
theorem ggX7_init_X1_init : GoodIn wsX7_init wsX1_init := goodIn_r _ [38, 39, 2, 3, 40, 41, 42, 43, 44, 45, 46, 47, 48, 49, 50, 51, 85, 86, 72, 73, 74, 75] (by decide +kernel) (by decide +kernel)
set_option maxRecDepth 20000 in
theorem gX7_init_X1_init : GoodIn wsX7_init (wsX1_init) := ggX7_init_X1_init
set_option maxRecDepth 20000 in
theorem ggX7_init_X0_init : GoodIn wsX7_init wsX0_init := goodIn_r _ [54, 55, 2, 3, 56, 41, 42, 57, 58, 59, 60, 47, 48, 49, 50, 51, 85, 86, 76, 77, 78, 79, 80, 81, 82] (by decide +kernel) (by decide +kernel)
set_option maxRecDepth 20000 in
theorem gX7_init_X0_init : GoodIn wsX7_init (wsX0_init) := ggX7_init_X0_init
theorem dX7_init_0 : decode cX7_init 0 = .ok (.aload_n 0, 1) := by decide +kernel
theorem dX7_init_1 : decode cX7_init 1 = .ok (.invokespecial 3, 3) := by decide +kernel
theorem dX7_init_4 : decode cX7_init 4 = .ok (.aload_n 0, 1) := by decide +kernel
theorem dX7_init_5 : decode cX7_init 5 = .ok (.bipush 10, 2) := by decide +kernel
theorem dX7_init_7 : decode cX7_init 7 = .ok (.anewarray 9, 3) := by decide +kernel
theorem dX7_init_10 : decode cX7_init 10 = .ok (.putfield 11, 3) := by decide +kernel
theorem dX7_init_13 : decode cX7_init 13 = .ok (.aload_n 0, 1) := by decide +kernel
theorem dX7_init_14 : decode cX7_init 14 = .ok (.new 15, 3) := by decide +kernel
theorem dX7_init_17 : decode cX7_init 17 = .ok (.dup, 1) := by decide +kernel
theorem dX7_init_18 : decode cX7_init 18 = .ok (.invokespecial 17, 3) := by decide +kernel
theorem dX7_init_21 : decode cX7_init 21 = .ok (.putfield 18, 3) := by decide +kernel
theorem dX7_init_24 : decode cX7_init 24 = .ok (.aload_n 0, 1) := by decide +kernel
theorem dX7_init_25 : decode cX7_init 25 = .ok (.new 22, 3) := by decide +kernel
theorem dX7_init_28 : decode cX7_init 28 = .ok (.dup, 1) := by decide +kernel
theorem dX7_init_29 : decode cX7_init 29 = .ok (.aload_n 0, 1) := by decide +kernel
theorem dX7_init_30 : decode cX7_init 30 = .ok (.getfield 18, 3) := by decide +kernel
theorem dX7_init_33 : decode cX7_init 33 = .ok (.invokespecial 24, 3) := by decide +kernel
theorem dX7_init_36 : decode cX7_init 36 = .ok (.putfield 27, 3) := by decide +kernel
theorem dX7_init_39 : decode cX7_init 39 = .ok (.aload_n 0, 1) := by decide +kernel
theorem dX7_init_40 : decode cX7_init 40 = .ok (.new 31, 3) := by decide +kernel
theorem dX7_init_43 : decode cX7_init 43 = .ok (.dup, 1) := by decide +kernel
theorem dX7_init_44 : decode cX7_init 44 = .ok (.aload_n 0, 1) := by decide +kernel
theorem dX7_init_45 : decode cX7_init 45 = .ok (.getfield 18, 3) := by decide +kernel
theorem dX7_init_48 : decode cX7_init 48 = .ok (.aload_n 0, 1) := by decide +kernel
theorem dX7_init_49 : decode cX7_init 49 = .ok (.getfield 27, 3) := by decide +kernel
theorem dX7_init_52 : decode cX7_init 52 = .ok (.invokespecial 33, 3) := by decide +kernel
theorem dX7_init_55 : decode cX7_init 55 = .ok (.putfield 36, 3) := by decide +kernel
theorem dX7_init_58 : decode cX7_init 58 = .ok (.return_, 1) := by decide +kernel
set_option maxRecDepth 20000 in
theorem ggX7_type_X2_init : GoodIn wsX7_type wsX2_init := goodIn_r _ [11, 12, 13, 14, 15, 16, 17, 18, 24, 25, 26, 27] (by decide +kernel) (by decide +kernel)
set_option maxRecDepth 20000 in
theorem gX7_type_X2_init : GoodIn wsX7_type (wsX2_init) := ggX7_type_X2_init
theorem dX7_type_0 : decode cX7_type 0 = .ok (.iload_n 1, 1) := by decide +kernel
theorem dX7_type_1 : decode cX7_type 1 = .ok (.ifCond .lt 9, 3) := by decide +kernel
theorem dX7_type_4 : decode cX7_type 4 = .ok (.iload_n 1, 1) := by decide +kernel
theorem dX7_type_5 : decode cX7_type 5 = .ok (.bipush 10, 2) := by decide +kernel
theorem dX7_type_7 : decode cX7_type 7 = .ok (.if_icmp .lt 13, 3) := by decide +kernel
theorem dX7_type_10 : decode cX7_type 10 = .ok (.new 40, 3) := by decide +kernel
theorem dX7_type_13 : decode cX7_type 13 = .ok (.dup, 1) := by decide +kernel
theorem dX7_type_14 : decode cX7_type 14 = .ok (.ldc 42, 2) := by decide +kernel
theorem dX7_type_16 : decode cX7_type 16 = .ok (.invokespecial 44, 3) := by decide +kernel
theorem dX7_type_19 : decode cX7_type 19 = .ok (.athrow, 1) := by decide +kernel
theorem dX7_type_20 : decode cX7_type 20 = .ok (.iload_n 2, 1) := by decide +kernel
theorem dX7_type_21 : decode cX7_type 21 = .ok (.ifCond .lt 19, 3) := by decide +kernel
theorem dX7_type_24 : decode cX7_type 24 = .ok (.iload_n 2, 1) := by decide +kernel
theorem dX7_type_25 : decode cX7_type 25 = .ok (.bipush 6, 2) := by decide +kernel
theorem dX7_type_27 : decode cX7_type 27 = .ok (.if_icmp .gt 13, 3) := by decide +kernel
theorem dX7_type_30 : decode cX7_type 30 = .ok (.iload_n 3, 1) := by decide +kernel
theorem dX7_type_31 : decode cX7_type 31 = .ok (.ifCond .lt 9, 3) := by decide +kernel
theorem dX7_type_34 : decode cX7_type 34 = .ok (.iload_n 3, 1) := by decide +kernel
theorem dX7_type_35 : decode cX7_type 35 = .ok (.bipush 60, 2) := by decide +kernel
theorem dX7_type_37 : decode cX7_type 37 = .ok (.if_icmp .le 13, 3) := by decide +kernel
theorem dX7_type_40 : decode cX7_type 40 = .ok (.new 47, 3) := by decide +kernel
theorem dX7_type_43 : decode cX7_type 43 = .ok (.dup, 1) := by decide +kernel
theorem dX7_type_44 : decode cX7_type 44 = .ok (.ldc 49, 2) := by decide +kernel
theorem dX7_type_46 : decode cX7_type 46 = .ok (.invokespecial 51, 3) := by decide +kernel
theorem dX7_type_49 : decode cX7_type 49 = .ok (.athrow, 1) := by decide +kernel
theorem dX7_type_50 : decode cX7_type 50 = .ok (.aload_n 0, 1) := by decide +kernel
theorem dX7_type_51 : decode cX7_type 51 = .ok (.getfield 11, 3) := by decide +kernel
theorem dX7_type_54 : decode cX7_type 54 = .ok (.iload_n 1, 1) := by decide +kernel
theorem dX7_type_55 : decode cX7_type 55 = .ok (.aaload, 1) := by decide +kernel
theorem dX7_type_56 : decode cX7_type 56 = .ok (.ifnull 5, 3) := by decide +kernel
theorem dX7_type_59 : decode cX7_type 59 = .ok (.iconst 0, 1) := by decide +kernel
theorem dX7_type_60 : decode cX7_type 60 = .ok (.ireturn, 1) := by decide +kernel
theorem dX7_type_61 : decode cX7_type 61 = .ok (.aload_n 0, 1) := by decide +kernel
theorem dX7_type_62 : decode cX7_type 62 = .ok (.getfield 11, 3) := by decide +kernel
theorem dX7_type_65 : decode cX7_type 65 = .ok (.iload_n 1, 1) := by decide +kernel
theorem dX7_type_66 : decode cX7_type 66 = .ok (.new 9, 3) := by decide +kernel
theorem dX7_type_69 : decode cX7_type 69 = .ok (.dup, 1) := by decide +kernel
theorem dX7_type_70 : decode cX7_type 70 = .ok (.iload_n 1, 1) := by decide +kernel
theorem dX7_type_71 : decode cX7_type 71 = .ok (.iload_n 2, 1) := by decide +kernel
theorem dX7_type_72 : decode cX7_type 72 = .ok (.iconst 2, 1) := by decide +kernel
theorem dX7_type_73 : decode cX7_type 73 = .ok (.iload_n 2, 1) := by decide +kernel
theorem dX7_type_74 : decode cX7_type 74 = .ok (.iadd, 1) := by decide +kernel
theorem dX7_type_75 : decode cX7_type 75 = .ok (.iload_n 3, 1) := by decide +kernel
theorem dX7_type_76 : decode cX7_type 76 = .ok (.iadd, 1) := by decide +kernel
theorem dX7_type_77 : decode cX7_type 77 = .ok (.iload 4, 2) := by decide +kernel
theorem dX7_type_79 : decode cX7_type 79 = .ok (.invokespecial 52, 3) := by decide +kernel
theorem dX7_type_82 : decode cX7_type 82 = .ok (.aastore, 1) := by decide +kernel
theorem dX7_type_83 : decode cX7_type 83 = .ok (.iconst 1, 1) := by decide +kernel
theorem dX7_type_84 : decode cX7_type 84 = .ok (.ireturn, 1) := by decide +kernel
set_option maxRecDepth 20000 in
theorem ggX7_make_X4_hasRoomFor : GoodIn wsX7_make wsX4_hasRoomFor := goodIn_r _ [10, 11, 12, 13, 14, 15, 9, 16, 17, 18, 19, 20, 21, 22, 23, 237, 238, 239, 240, 241, 242, 243, 244, 245, 246, 247, 248] (by decide +kernel) (by decide +kernel)
set_option maxRecDepth 20000 in
theorem gX7_make_X4_hasRoomFor : GoodIn wsX7_make (wsV RX7 55 RX4 yX4_hasRoomFor wsX4_hasRoomFor) := goodIn_app (goodIn_of _ (by decide +kernel)) ggX7_make_X4_hasRoomFor
set_option maxRecDepth 20000 in
theorem ggX7_make_X0_run : GoodIn wsX7_make wsX0_run := goodIn_r _ [28, 29, 30, 31, 32, 33, 34, 27, 35, 36, 37, 38, 39, 40, 41, 42, 43, 44, 45, 46, 47, 48, 49, 50, 51, 9, 52, 11, 17, 53, 54, 55, 56, 57, 58, 59, 60, 21, 61, 62, 63, 64, 23, 65, 66, 67, 68, 69, 70, 71, 72, 73, 74, 75, 76, 77, 78, 79, 80, 81, 82, 83, 84, 85, 86, 87, 88, 89, 90, 91, 92, 93, 94, 95, 96, 97, 98, 99, 100, 101, 102, 103, 104, 105, 106, 107, 108, 109, 110, 111, 112, 113, 114, 115, 116, 117, 118, 119, 120, 121, 122, 123, 124, 125, 126, 127, 128, 129, 130, 131, 132, 133, 134, 135, 136, 137, 138, 139, 140, 141, 142, 143, 144, 145, 146, 147, 148, 149, 150, 151, 152, 153, 154, 155, 156, 157, 158, 159, 160, 161, 162, 163, 164, 165, 166, 167, 168, 169, 170, 171, 172, 173, 174, 175, 176, 177, 178, 179, 180, 181, 182, 183, 184, 185, 186, 187, 188, 189, 190, 249, 250, 251, 252, 253, 254, 255, 237, 238, 239, 240, 241, 242, 256, 257, 258, 259, 260, 261, 262, 263, 264, 265, 266, 267, 268, 269, 270, 271, 272, 243, 244, 245, 246, 247, 248] (by decide +kernel) (by decide +kernel)
set_option maxRecDepth 20000 in
theorem gX7_make_X0_run : GoodIn wsX7_make (wsV RX7 59 RX0 yX0_run wsX0_run) := goodIn_app (goodIn_of _ (by decide +kernel)) ggX7_make_X0_run
set_option maxRecDepth 20000 in
theorem ggX7_make_X7_makeRoomByMoving : GoodIn wsX7_make wsX7_makeRoomByMoving := goodIn_r _ [195, 4, 196, 197, 198, 199, 200, 14, 15, 9, 16, 17, 201, 202, 203, 21, 204, 63, 64, 205, 121, 122, 123, 62, 124, 125, 126, 127, 23, 206, 59, 60, 61, 65, 207, 208, 209, 210, 232, 233, 234, 235, 236, 237, 238, 239, 240, 241, 242, 247, 248, 243, 244, 245, 246, 262, 263, 264, 265, 266, 267, 268, 269, 270, 271, 272] (by decide +kernel) (by decide +kernel)
set_option maxRecDepth 20000 in
theorem gX7_make_X7_makeRoomByMoving : GoodIn wsX7_make (wsV RX7 63 RX7 yX7_makeRoomByMoving wsX7_makeRoomByMoving) := goodIn_app (goodIn_of _ (by decide +kernel)) ggX7_make_X7_makeRoomByMoving
set_option maxRecDepth 20000 in
theorem ggX7_make_X4_place : GoodIn wsX7_make wsX4_place := goodIn_r _ [214, 11, 12, 215, 216, 85, 17, 54, 13, 14, 15, 9, 16, 18, 19, 20, 21, 22, 23, 217, 218, 219, 220, 221, 222, 223, 224, 225, 226, 227, 180, 228, 87, 229, 230, 231, 208, 209, 210, 63, 64, 62, 65, 237, 238, 239, 240, 241, 242, 243, 244, 245, 246, 262, 263, 264, 265, 266, 267, 268, 269, 270, 271, 272, 247, 248] (by decide +kernel) (by decide +kernel)
set_option maxRecDepth 20000 in
theorem gX7_make_X4_place : GoodIn wsX7_make (wsV RX7 66 RX4 yX4_place wsX4_place) := goodIn_app (goodIn_of _ (by decide +kernel)) ggX7_make_X4_place
theorem dX7_make_0 : decode cX7_make 0 = .ok (.iload_n 1, 1) := by decide +kernel
theorem dX7_make_1 : decode cX7_make 1 = .ok (.ifCond .lt 18, 3) := by decide +kernel
theorem dX7_make_4 : decode cX7_make 4 = .ok (.iload_n 1, 1) := by decide +kernel
theorem dX7_make_5 : decode cX7_make 5 = .ok (.bipush 10, 2) := by decide +kernel
theorem dX7_make_7 : decode cX7_make 7 = .ok (.if_icmp .ge 12, 3) := by decide +kernel
theorem dX7_make_10 : decode cX7_make 10 = .ok (.aload_n 0, 1) := by decide +kernel
theorem dX7_make_11 : decode cX7_make 11 = .ok (.getfield 11, 3) := by decide +kernel
theorem dX7_make_14 : decode cX7_make 14 = .ok (.iload_n 1, 1) := by decide +kernel
theorem dX7_make_15 : decode cX7_make 15 = .ok (.aaload, 1) := by decide +kernel
theorem dX7_make_16 : decode cX7_make 16 = .ok (.ifnonnull 13, 3) := by decide +kernel
theorem dX7_make_19 : decode cX7_make 19 = .ok (.new 40, 3) := by decide +kernel
theorem dX7_make_22 : decode cX7_make 22 = .ok (.dup, 1) := by decide +kernel
theorem dX7_make_23 : decode cX7_make 23 = .ok (.ldc 42, 2) := by decide +kernel
theorem dX7_make_25 : decode cX7_make 25 = .ok (.invokespecial 44, 3) := by decide +kernel
theorem dX7_make_28 : decode cX7_make 28 = .ok (.athrow, 1) := by decide +kernel
theorem dX7_make_29 : decode cX7_make 29 = .ok (.aload_n 0, 1) := by decide +kernel
theorem dX7_make_30 : decode cX7_make 30 = .ok (.getfield 11, 3) := by decide +kernel
theorem dX7_make_33 : decode cX7_make 33 = .ok (.iload_n 1, 1) := by decide +kernel
theorem dX7_make_34 : decode cX7_make 34 = .ok (.aaload, 1) := by decide +kernel
theorem dX7_make_35 : decode cX7_make 35 = .ok (.astore_n 2, 1) := by decide +kernel
theorem dX7_make_36 : decode cX7_make 36 = .ok (.aload_n 0, 1) := by decide +kernel
theorem dX7_make_37 : decode cX7_make 37 = .ok (.getfield 18, 3) := by decide +kernel
theorem dX7_make_40 : decode cX7_make 40 = .ok (.aload_n 2, 1) := by decide +kernel
theorem dX7_make_41 : decode cX7_make 41 = .ok (.invokevirtual 55, 3) := by decide +kernel
theorem dX7_make_44 : decode cX7_make 44 = .ok (.ifCond .ne 33, 3) := by decide +kernel
theorem dX7_make_47 : decode cX7_make 47 = .ok (.aload_n 0, 1) := by decide +kernel
theorem dX7_make_48 : decode cX7_make 48 = .ok (.getfield 36, 3) := by decide +kernel
theorem dX7_make_51 : decode cX7_make 51 = .ok (.invokevirtual 59, 3) := by decide +kernel
theorem dX7_make_54 : decode cX7_make 54 = .ok (.pop, 1) := by decide +kernel
theorem dX7_make_55 : decode cX7_make 55 = .ok (.aload_n 0, 1) := by decide +kernel
theorem dX7_make_56 : decode cX7_make 56 = .ok (.getfield 18, 3) := by decide +kernel
theorem dX7_make_59 : decode cX7_make 59 = .ok (.aload_n 2, 1) := by decide +kernel
theorem dX7_make_60 : decode cX7_make 60 = .ok (.invokevirtual 55, 3) := by decide +kernel
theorem dX7_make_63 : decode cX7_make 63 = .ok (.ifCond .ne 14, 3) := by decide +kernel
theorem dX7_make_66 : decode cX7_make 66 = .ok (.aload_n 0, 1) := by decide +kernel
theorem dX7_make_67 : decode cX7_make 67 = .ok (.aload_n 2, 1) := by decide +kernel
theorem dX7_make_68 : decode cX7_make 68 = .ok (.invokevirtual 63, 3) := by decide +kernel
theorem dX7_make_71 : decode cX7_make 71 = .ok (.ifCond .ne 6, 3) := by decide +kernel
theorem dX7_make_74 : decode cX7_make 74 = .ok (.bipush (-2), 2) := by decide +kernel
theorem dX7_make_76 : decode cX7_make 76 = .ok (.ireturn, 1) := by decide +kernel
theorem dX7_make_77 : decode cX7_make 77 = .ok (.aload_n 0, 1) := by decide +kernel
theorem dX7_make_78 : decode cX7_make 78 = .ok (.getfield 18, 3) := by decide +kernel
theorem dX7_make_81 : decode cX7_make 81 = .ok (.aload_n 2, 1) := by decide +kernel
theorem dX7_make_82 : decode cX7_make 82 = .ok (.invokevirtual 66, 3) := by decide +kernel
theorem dX7_make_85 : decode cX7_make 85 = .ok (.ireturn, 1) := by decide +kernel
set_option maxRecDepth 20000 in
theorem ggX7_hold_X4_living : GoodIn wsX7_hold wsX4_living := goodIn_r _ [9, 10, 11, 12, 13, 8, 14, 15, 37, 38, 39, 40, 41, 42, 43, 44, 45, 46, 47, 48, 49, 50, 51, 52, 53] (by decide +kernel) (by decide +kernel)
set_option maxRecDepth 20000 in
theorem gX7_hold_X4_living : GoodIn wsX7_hold (wsV RX7 70 RX4 yX4_living wsX4_living) := goodIn_app (goodIn_of _ (by decide +kernel)) ggX7_hold_X4_living
set_option maxRecDepth 20000 in
theorem ggX7_hold_X1_more : GoodIn wsX7_hold wsX1_more := goodIn_r _ [20, 21, 22, 23, 24, 25, 26, 27, 28, 29, 30, 31, 37, 38, 39, 40, 41, 42, 43, 44, 45, 46, 47] (by decide +kernel) (by decide +kernel)
set_option maxRecDepth 20000 in
theorem gX7_hold_X1_more : GoodIn wsX7_hold (wsV RX7 80 RX1 yX1_more wsX1_more) := goodIn_app (goodIn_of _ (by decide +kernel)) ggX7_hold_X1_more
theorem dX7_hold_0 : decode cX7_hold 0 = .ok (.aload_n 0, 1) := by decide +kernel
theorem dX7_hold_1 : decode cX7_hold 1 = .ok (.getfield 18, 3) := by decide +kernel
theorem dX7_hold_4 : decode cX7_hold 4 = .ok (.iload_n 1, 1) := by decide +kernel
theorem dX7_hold_5 : decode cX7_hold 5 = .ok (.invokevirtual 70, 3) := by decide +kernel
theorem dX7_hold_8 : decode cX7_hold 8 = .ok (.astore_n 2, 1) := by decide +kernel
theorem dX7_hold_9 : decode cX7_hold 9 = .ok (.aload_n 2, 1) := by decide +kernel
theorem dX7_hold_10 : decode cX7_hold 10 = .ok (.ifnonnull 5, 3) := by decide +kernel
theorem dX7_hold_13 : decode cX7_hold 13 = .ok (.iconst (-1), 1) := by decide +kernel
theorem dX7_hold_14 : decode cX7_hold 14 = .ok (.ireturn, 1) := by decide +kernel
theorem dX7_hold_15 : decode cX7_hold 15 = .ok (.aload_n 2, 1) := by decide +kernel
theorem dX7_hold_16 : decode cX7_hold 16 = .ok (.dup, 1) := by decide +kernel
theorem dX7_hold_17 : decode cX7_hold 17 = .ok (.getfield 74, 3) := by decide +kernel
theorem dX7_hold_20 : decode cX7_hold 20 = .ok (.iconst 1, 1) := by decide +kernel
theorem dX7_hold_21 : decode cX7_hold 21 = .ok (.iadd, 1) := by decide +kernel
theorem dX7_hold_22 : decode cX7_hold 22 = .ok (.putfield 74, 3) := by decide +kernel
theorem dX7_hold_25 : decode cX7_hold 25 = .ok (.aload_n 0, 1) := by decide +kernel
theorem dX7_hold_26 : decode cX7_hold 26 = .ok (.getfield 27, 3) := by decide +kernel
theorem dX7_hold_29 : decode cX7_hold 29 = .ok (.aload_n 2, 1) := by decide +kernel
theorem dX7_hold_30 : decode cX7_hold 30 = .ok (.invokevirtual 80, 3) := by decide +kernel
theorem dX7_hold_33 : decode cX7_hold 33 = .ok (.aload_n 2, 1) := by decide +kernel
theorem dX7_hold_34 : decode cX7_hold 34 = .ok (.getfield 84, 3) := by decide +kernel
theorem dX7_hold_37 : decode cX7_hold 37 = .ok (.ireturn, 1) := by decide +kernel
set_option maxRecDepth 20000 in
theorem ggX7_loose_X4_living : GoodIn wsX7_loose wsX4_living := goodIn_r _ [8, 9, 10, 11, 12, 7, 13, 14, 107, 108, 109, 110, 111, 112, 113, 114, 115, 116, 117, 118, 119, 120, 121, 122, 123] (by decide +kernel) (by decide +kernel)
set_option maxRecDepth 20000 in
theorem gX7_loose_X4_living : GoodIn wsX7_loose (wsV RX7 70 RX4 yX4_living wsX4_living) := goodIn_app (goodIn_of _ (by decide +kernel)) ggX7_loose_X4_living
set_option maxRecDepth 20000 in
theorem ggX7_loose_X1_less : GoodIn wsX7_loose wsX1_less := goodIn_r _ [19, 20, 21, 22, 23, 24, 25, 18, 26, 27, 28, 29, 30, 31, 32, 33, 34, 35, 36, 37, 38, 39, 40, 41, 42, 43, 44, 45, 46, 47, 48, 49, 50, 51, 52, 53, 54, 55, 56, 57, 58, 59, 60, 61, 62, 63, 64, 65, 66, 67, 68, 69, 70, 71, 72, 73, 74, 75, 76, 77, 78, 79, 80, 81, 82, 83, 84, 7, 85, 86, 14, 87, 88, 89, 90, 91, 92, 93, 94, 95, 96, 97, 98, 99, 100, 101, 124, 125, 126, 127, 118, 119, 120, 121, 122, 123, 107, 108, 109, 110, 111, 112, 113, 114, 115, 116, 117, 128, 129, 130, 131, 132, 133, 134, 135] (by decide +kernel) (by decide +kernel)
set_option maxRecDepth 20000 in
theorem gX7_loose_X1_less : GoodIn wsX7_loose (wsV RX7 87 RX1 yX1_less wsX1_less) := goodIn_app (goodIn_of _ (by decide +kernel)) ggX7_loose_X1_less
theorem dX7_loose_0 : decode cX7_loose 0 = .ok (.aload_n 0, 1) := by decide +kernel
theorem dX7_loose_1 : decode cX7_loose 1 = .ok (.getfield 18, 3) := by decide +kernel
theorem dX7_loose_4 : decode cX7_loose 4 = .ok (.iload_n 1, 1) := by decide +kernel
theorem dX7_loose_5 : decode cX7_loose 5 = .ok (.invokevirtual 70, 3) := by decide +kernel
theorem dX7_loose_8 : decode cX7_loose 8 = .ok (.astore_n 2, 1) := by decide +kernel
theorem dX7_loose_9 : decode cX7_loose 9 = .ok (.aload_n 2, 1) := by decide +kernel
theorem dX7_loose_10 : decode cX7_loose 10 = .ok (.ifnull 10, 3) := by decide +kernel
theorem dX7_loose_13 : decode cX7_loose 13 = .ok (.aload_n 2, 1) := by decide +kernel
theorem dX7_loose_14 : decode cX7_loose 14 = .ok (.getfield 74, 3) := by decide +kernel
theorem dX7_loose_17 : decode cX7_loose 17 = .ok (.ifCond .ne 5, 3) := by decide +kernel
theorem dX7_loose_20 : decode cX7_loose 20 = .ok (.iconst (-1), 1) := by decide +kernel
theorem dX7_loose_21 : decode cX7_loose 21 = .ok (.ireturn, 1) := by decide +kernel
theorem dX7_loose_22 : decode cX7_loose 22 = .ok (.aload_n 2, 1) := by decide +kernel
theorem dX7_loose_23 : decode cX7_loose 23 = .ok (.dup, 1) := by decide +kernel
theorem dX7_loose_24 : decode cX7_loose 24 = .ok (.getfield 74, 3) := by decide +kernel
theorem dX7_loose_27 : decode cX7_loose 27 = .ok (.iconst 1, 1) := by decide +kernel
theorem dX7_loose_28 : decode cX7_loose 28 = .ok (.isub, 1) := by decide +kernel
theorem dX7_loose_29 : decode cX7_loose 29 = .ok (.putfield 74, 3) := by decide +kernel
theorem dX7_loose_32 : decode cX7_loose 32 = .ok (.aload_n 0, 1) := by decide +kernel
theorem dX7_loose_33 : decode cX7_loose 33 = .ok (.getfield 27, 3) := by decide +kernel
theorem dX7_loose_36 : decode cX7_loose 36 = .ok (.aload_n 2, 1) := by decide +kernel
theorem dX7_loose_37 : decode cX7_loose 37 = .ok (.invokevirtual 87, 3) := by decide +kernel
theorem dX7_loose_40 : decode cX7_loose 40 = .ok (.ireturn, 1) := by decide +kernel
set_option maxRecDepth 20000 in
theorem ggX7_set_X4_living : GoodIn wsX7_set wsX4_living := goodIn_r _ [10, 11, 12, 13, 14, 9, 15, 16, 119, 120, 121, 122, 123, 124, 125, 126, 127, 128, 129, 130, 131, 132, 133, 134, 135] (by decide +kernel) (by decide +kernel)
set_option maxRecDepth 20000 in
theorem gX7_set_X4_living : GoodIn wsX7_set (wsV RX7 70 RX4 yX4_living wsX4_living) := goodIn_app (goodIn_of _ (by decide +kernel)) ggX7_set_X4_living
set_option maxRecDepth 20000 in
theorem ggX7_set_X5_hasField : GoodIn wsX7_set wsX5_hasField := goodIn_r _ [21, 22, 23, 24, 119, 120, 121, 122, 123, 124, 125, 126, 127, 128, 129, 136, 137, 138, 139] (by decide +kernel) (by decide +kernel)
set_option maxRecDepth 20000 in
theorem gX7_set_X5_hasField : GoodIn wsX7_set (wsV RX7 91 RX5 yX5_hasField wsX5_hasField) := goodIn_app (goodIn_of _ (by decide +kernel)) ggX7_set_X5_hasField
set_option maxRecDepth 20000 in
theorem ggX7_set_X1_more : GoodIn wsX7_set wsX1_more := goodIn_r _ [29, 30, 31, 32, 33, 20, 34, 35, 36, 37, 38, 39, 119, 120, 121, 122, 123, 124, 125, 126, 127, 128, 129] (by decide +kernel) (by decide +kernel)
set_option maxRecDepth 20000 in
theorem gX7_set_X1_more : GoodIn wsX7_set (wsV RX7 80 RX1 yX1_more wsX1_more) := goodIn_app (goodIn_of _ (by decide +kernel)) ggX7_set_X1_more
set_option maxRecDepth 20000 in
theorem ggX7_set_X1_less : GoodIn wsX7_set wsX1_less := goodIn_r _ [43, 44, 45, 46, 47, 48, 49, 28, 50, 30, 51, 52, 53, 54, 55, 56, 57, 58, 59, 37, 38, 20, 39, 35, 60, 61, 62, 63, 64, 65, 66, 67, 68, 69, 70, 71, 31, 32, 33, 34, 36, 72, 73, 74, 75, 76, 77, 78, 79, 80, 81, 82, 83, 84, 24, 85, 86, 87, 88, 89, 90, 91, 92, 93, 94, 95, 96, 9, 97, 98, 16, 99, 100, 101, 102, 103, 104, 105, 106, 107, 108, 109, 110, 111, 112, 113, 140, 141, 142, 143, 130, 131, 132, 133, 134, 135, 119, 120, 121, 122, 123, 124, 125, 126, 127, 128, 129, 144, 145, 136, 137, 138, 139, 146, 147] (by decide +kernel) (by decide +kernel)
set_option maxRecDepth 20000 in
theorem gX7_set_X1_less : GoodIn wsX7_set (wsV RX7 87 RX1 yX1_less wsX1_less) := goodIn_app (goodIn_of _ (by decide +kernel)) ggX7_set_X1_less
theorem dX7_set_0 : decode cX7_set 0 = .ok (.aload_n 0, 1) := by decide +kernel
theorem dX7_set_1 : decode cX7_set 1 = .ok (.getfield 18, 3) := by decide +kernel
theorem dX7_set_4 : decode cX7_set 4 = .ok (.iload_n 1, 1) := by decide +kernel
theorem dX7_set_5 : decode cX7_set 5 = .ok (.invokevirtual 70, 3) := by decide +kernel
theorem dX7_set_8 : decode cX7_set 8 = .ok (.astore 4, 2) := by decide +kernel
theorem dX7_set_10 : decode cX7_set 10 = .ok (.aload 4, 2) := by decide +kernel
theorem dX7_set_12 : decode cX7_set 12 = .ok (.ifnonnull 5, 3) := by decide +kernel
theorem dX7_set_15 : decode cX7_set 15 = .ok (.iconst (-1), 1) := by decide +kernel
theorem dX7_set_16 : decode cX7_set 16 = .ok (.ireturn, 1) := by decide +kernel
theorem dX7_set_17 : decode cX7_set 17 = .ok (.aload 4, 2) := by decide +kernel
theorem dX7_set_19 : decode cX7_set 19 = .ok (.iload_n 2, 1) := by decide +kernel
theorem dX7_set_20 : decode cX7_set 20 = .ok (.invokevirtual 91, 3) := by decide +kernel
theorem dX7_set_23 : decode cX7_set 23 = .ok (.ifCond .ne 13, 3) := by decide +kernel
theorem dX7_set_26 : decode cX7_set 26 = .ok (.new 40, 3) := by decide +kernel
theorem dX7_set_29 : decode cX7_set 29 = .ok (.dup, 1) := by decide +kernel
theorem dX7_set_30 : decode cX7_set 30 = .ok (.ldc 95, 2) := by decide +kernel
theorem dX7_set_32 : decode cX7_set 32 = .ok (.invokespecial 44, 3) := by decide +kernel
theorem dX7_set_35 : decode cX7_set 35 = .ok (.athrow, 1) := by decide +kernel
theorem dX7_set_36 : decode cX7_set 36 = .ok (.aload_n 0, 1) := by decide +kernel
theorem dX7_set_37 : decode cX7_set 37 = .ok (.getfield 18, 3) := by decide +kernel
theorem dX7_set_40 : decode cX7_set 40 = .ok (.iload_n 3, 1) := by decide +kernel
theorem dX7_set_41 : decode cX7_set 41 = .ok (.invokevirtual 70, 3) := by decide +kernel
theorem dX7_set_44 : decode cX7_set 44 = .ok (.astore 5, 2) := by decide +kernel
theorem dX7_set_46 : decode cX7_set 46 = .ok (.aload 5, 2) := by decide +kernel
theorem dX7_set_48 : decode cX7_set 48 = .ok (.ifnonnull 10, 3) := by decide +kernel
theorem dX7_set_51 : decode cX7_set 51 = .ok (.iload_n 3, 1) := by decide +kernel
theorem dX7_set_52 : decode cX7_set 52 = .ok (.iconst (-1), 1) := by decide +kernel
theorem dX7_set_53 : decode cX7_set 53 = .ok (.if_icmp .eq 5, 3) := by decide +kernel
theorem dX7_set_56 : decode cX7_set 56 = .ok (.iconst (-1), 1) := by decide +kernel
theorem dX7_set_57 : decode cX7_set 57 = .ok (.ireturn, 1) := by decide +kernel
theorem dX7_set_58 : decode cX7_set 58 = .ok (.aload 4, 2) := by decide +kernel
theorem dX7_set_60 : decode cX7_set 60 = .ok (.getfield 97, 3) := by decide +kernel
theorem dX7_set_63 : decode cX7_set 63 = .ok (.iload_n 2, 1) := by decide +kernel
theorem dX7_set_64 : decode cX7_set 64 = .ok (.aaload, 1) := by decide +kernel
theorem dX7_set_65 : decode cX7_set 65 = .ok (.astore 6, 2) := by decide +kernel
theorem dX7_set_67 : decode cX7_set 67 = .ok (.aload 4, 2) := by decide +kernel
theorem dX7_set_69 : decode cX7_set 69 = .ok (.getfield 97, 3) := by decide +kernel
theorem dX7_set_72 : decode cX7_set 72 = .ok (.iload_n 2, 1) := by decide +kernel
theorem dX7_set_73 : decode cX7_set 73 = .ok (.aload 5, 2) := by decide +kernel
theorem dX7_set_75 : decode cX7_set 75 = .ok (.aastore, 1) := by decide +kernel
theorem dX7_set_76 : decode cX7_set 76 = .ok (.aload 5, 2) := by decide +kernel
theorem dX7_set_78 : decode cX7_set 78 = .ok (.ifnull 12, 3) := by decide +kernel
theorem dX7_set_81 : decode cX7_set 81 = .ok (.aload_n 0, 1) := by decide +kernel
theorem dX7_set_82 : decode cX7_set 82 = .ok (.getfield 27, 3) := by decide +kernel
theorem dX7_set_85 : decode cX7_set 85 = .ok (.aload 5, 2) := by decide +kernel
theorem dX7_set_87 : decode cX7_set 87 = .ok (.invokevirtual 80, 3) := by decide +kernel
theorem dX7_set_90 : decode cX7_set 90 = .ok (.aload 6, 2) := by decide +kernel
theorem dX7_set_92 : decode cX7_set 92 = .ok (.ifnonnull 7, 3) := by decide +kernel
theorem dX7_set_95 : decode cX7_set 95 = .ok (.iconst 0, 1) := by decide +kernel
theorem dX7_set_96 : decode cX7_set 96 = .ok (.goto 12, 3) := by decide +kernel
theorem dX7_set_99 : decode cX7_set 99 = .ok (.aload_n 0, 1) := by decide +kernel
theorem dX7_set_100 : decode cX7_set 100 = .ok (.getfield 27, 3) := by decide +kernel
theorem dX7_set_103 : decode cX7_set 103 = .ok (.aload 6, 2) := by decide +kernel
theorem dX7_set_105 : decode cX7_set 105 = .ok (.invokevirtual 87, 3) := by decide +kernel
theorem dX7_set_108 : decode cX7_set 108 = .ok (.ireturn, 1) := by decide +kernel
set_option maxRecDepth 20000 in
theorem ggX7_get_X4_thing : GoodIn wsX7_get wsX4_thing := goodIn_r _ [9, 10, 40, 41, 42, 43, 44, 45] (by decide +kernel) (by decide +kernel)
set_option maxRecDepth 20000 in
theorem gX7_get_X4_thing : GoodIn wsX7_get (wsV RX7 101 RX4 yX4_thing wsX4_thing) := goodIn_app (goodIn_of _ (by decide +kernel)) ggX7_get_X4_thing
set_option maxRecDepth 20000 in
theorem ggX7_get_X5_hasField : GoodIn wsX7_get wsX5_hasField := goodIn_r _ [15, 16, 17, 18, 29, 30, 31, 32, 33, 34, 35, 36, 37, 38, 39, 46, 47, 48, 49] (by decide +kernel) (by decide +kernel)
set_option maxRecDepth 20000 in
theorem gX7_get_X5_hasField : GoodIn wsX7_get (wsV RX7 91 RX5 yX5_hasField wsX5_hasField) := goodIn_app (goodIn_of _ (by decide +kernel)) ggX7_get_X5_hasField
set_option maxRecDepth 20000 in
theorem ggX7_get_X7_numberOf : GoodIn wsX7_get wsX7_numberOf := goodIn_r _ [22, 23, 29, 30, 31, 32, 33, 34, 35, 36, 37, 38, 39] (by decide +kernel) (by decide +kernel)
set_option maxRecDepth 20000 in
theorem gX7_get_X7_numberOf : GoodIn wsX7_get (va_wsS RX7 106 yX7_numberOf wsX7_numberOf) := goodIn_app (goodIn_of _ (by decide +kernel)) ggX7_get_X7_numberOf
theorem dX7_get_0 : decode cX7_get 0 = .ok (.aload_n 0, 1) := by decide +kernel
theorem dX7_get_1 : decode cX7_get 1 = .ok (.getfield 18, 3) := by decide +kernel
theorem dX7_get_4 : decode cX7_get 4 = .ok (.iload_n 1, 1) := by decide +kernel
theorem dX7_get_5 : decode cX7_get 5 = .ok (.invokevirtual 101, 3) := by decide +kernel
theorem dX7_get_8 : decode cX7_get 8 = .ok (.astore_n 3, 1) := by decide +kernel
theorem dX7_get_9 : decode cX7_get 9 = .ok (.aload_n 3, 1) := by decide +kernel
theorem dX7_get_10 : decode cX7_get 10 = .ok (.ifnull 11, 3) := by decide +kernel
theorem dX7_get_13 : decode cX7_get 13 = .ok (.aload_n 3, 1) := by decide +kernel
theorem dX7_get_14 : decode cX7_get 14 = .ok (.iload_n 2, 1) := by decide +kernel
theorem dX7_get_15 : decode cX7_get 15 = .ok (.invokevirtual 91, 3) := by decide +kernel
theorem dX7_get_18 : decode cX7_get 18 = .ok (.ifCond .ne 13, 3) := by decide +kernel
theorem dX7_get_21 : decode cX7_get 21 = .ok (.new 40, 3) := by decide +kernel
theorem dX7_get_24 : decode cX7_get 24 = .ok (.dup, 1) := by decide +kernel
theorem dX7_get_25 : decode cX7_get 25 = .ok (.ldc 104, 2) := by decide +kernel
theorem dX7_get_27 : decode cX7_get 27 = .ok (.invokespecial 44, 3) := by decide +kernel
theorem dX7_get_30 : decode cX7_get 30 = .ok (.athrow, 1) := by decide +kernel
theorem dX7_get_31 : decode cX7_get 31 = .ok (.aload_n 3, 1) := by decide +kernel
theorem dX7_get_32 : decode cX7_get 32 = .ok (.getfield 97, 3) := by decide +kernel
theorem dX7_get_35 : decode cX7_get 35 = .ok (.iload_n 2, 1) := by decide +kernel
theorem dX7_get_36 : decode cX7_get 36 = .ok (.aaload, 1) := by decide +kernel
theorem dX7_get_37 : decode cX7_get 37 = .ok (.invokestatic 106, 3) := by decide +kernel
theorem dX7_get_40 : decode cX7_get 40 = .ok (.ireturn, 1) := by decide +kernel
set_option maxRecDepth 20000 in
theorem ggX7_wish_X3_takeFirst : GoodIn wsX7_wish wsX3_takeFirst := goodIn_r _ [9, 10, 11, 12, 13, 14, 8, 15, 36, 37] (by decide +kernel) (by decide +kernel)
set_option maxRecDepth 20000 in
theorem gX7_wish_X3_takeFirst : GoodIn wsX7_wish (wsV RX7 113 RX3 yX3_takeFirst wsX3_takeFirst) := goodIn_app (goodIn_of _ (by decide +kernel)) ggX7_wish_X3_takeFirst
theorem dX7_wish_0 : decode cX7_wish 0 = .ok (.aload_n 0, 1) := by decide +kernel
theorem dX7_wish_1 : decode cX7_wish 1 = .ok (.getfield 27, 3) := by decide +kernel
theorem dX7_wish_4 : decode cX7_wish 4 = .ok (.getfield 109, 3) := by decide +kernel
theorem dX7_wish_7 : decode cX7_wish 7 = .ok (.invokevirtual 113, 3) := by decide +kernel
theorem dX7_wish_10 : decode cX7_wish 10 = .ok (.astore_n 1, 1) := by decide +kernel
theorem dX7_wish_11 : decode cX7_wish 11 = .ok (.aload_n 1, 1) := by decide +kernel
theorem dX7_wish_12 : decode cX7_wish 12 = .ok (.ifnonnull 5, 3) := by decide +kernel
theorem dX7_wish_15 : decode cX7_wish 15 = .ok (.iconst (-1), 1) := by decide +kernel
theorem dX7_wish_16 : decode cX7_wish 16 = .ok (.ireturn, 1) := by decide +kernel
theorem dX7_wish_17 : decode cX7_wish 17 = .ok (.aload_n 1, 1) := by decide +kernel
theorem dX7_wish_18 : decode cX7_wish 18 = .ok (.dup, 1) := by decide +kernel
theorem dX7_wish_19 : decode cX7_wish 19 = .ok (.getfield 74, 3) := by decide +kernel
theorem dX7_wish_22 : decode cX7_wish 22 = .ok (.iconst 1, 1) := by decide +kernel
theorem dX7_wish_23 : decode cX7_wish 23 = .ok (.iadd, 1) := by decide +kernel
theorem dX7_wish_24 : decode cX7_wish 24 = .ok (.putfield 74, 3) := by decide +kernel
theorem dX7_wish_27 : decode cX7_wish 27 = .ok (.aload_n 1, 1) := by decide +kernel
theorem dX7_wish_28 : decode cX7_wish 28 = .ok (.getfield 119, 3) := by decide +kernel
theorem dX7_wish_31 : decode cX7_wish 31 = .ok (.ireturn, 1) := by decide +kernel
set_option maxRecDepth 20000 in
theorem ggX7_collect_X0_run : GoodIn wsX7_collect wsX0_run := goodIn_r _ [6, 7, 8, 9, 10, 11, 12, 5, 13, 14, 15, 16, 17, 18, 19, 20, 21, 22, 23, 24, 25, 26, 27, 28, 29, 30, 31, 32, 33, 34, 35, 36, 37, 38, 39, 40, 41, 42, 43, 44, 45, 46, 47, 48, 49, 50, 51, 52, 53, 54, 55, 56, 57, 58, 59, 60, 61, 62, 63, 64, 65, 66, 67, 68, 69, 70, 71, 72, 73, 74, 75, 76, 77, 78, 79, 80, 81, 82, 83, 84, 85, 86, 87, 88, 89, 90, 91, 92, 93, 94, 95, 96, 97, 98, 99, 100, 101, 102, 103, 104, 105, 106, 107, 108, 109, 110, 111, 112, 113, 114, 115, 116, 117, 118, 119, 120, 121, 122, 123, 124, 125, 126, 127, 128, 129, 130, 131, 132, 133, 134, 135, 136, 137, 138, 139, 140, 141, 142, 143, 144, 145, 146, 147, 148, 149, 150, 151, 152, 153, 154, 155, 156, 157, 158, 159, 160, 161, 162, 163, 164, 165, 166, 167, 168, 169, 170, 171, 172, 173, 179, 180, 181, 182, 183, 184, 185, 186, 187, 188, 189, 190, 191, 192, 193, 194, 195, 196, 197, 198, 199, 200, 201, 202, 203, 204, 205, 206, 207, 208, 209, 210, 211, 212, 213, 214] (by decide +kernel) (by decide +kernel)
set_option maxRecDepth 20000 in
theorem gX7_collect_X0_run : GoodIn wsX7_collect (wsV RX7 59 RX0 yX0_run wsX0_run) := goodIn_app (goodIn_of _ (by decide +kernel)) ggX7_collect_X0_run
theorem dX7_collect_0 : decode cX7_collect 0 = .ok (.aload_n 0, 1) := by decide +kernel
theorem dX7_collect_1 : decode cX7_collect 1 = .ok (.getfield 36, 3) := by decide +kernel
theorem dX7_collect_4 : decode cX7_collect 4 = .ok (.invokevirtual 59, 3) := by decide +kernel
theorem dX7_collect_7 : decode cX7_collect 7 = .ok (.ireturn, 1) := by decide +kernel
set_option maxRecDepth 20000 in
theorem ggX7_pack_X6_moveAllDown : GoodIn wsX7_pack wsX6_moveAllDown := goodIn_r _ [8, 9, 10, 11, 12, 13, 7, 14, 15, 16, 17, 18, 19, 20, 21, 22, 23, 24, 25, 26, 27, 28, 29, 41, 42, 43, 44, 45, 46, 47, 48, 49, 50, 51, 52, 53, 54, 55, 56, 57] (by decide +kernel) (by decide +kernel)
set_option maxRecDepth 20000 in
theorem gX7_pack_X6_moveAllDown : GoodIn wsX7_pack (wsV RX7 129 RX6 yX6_moveAllDown wsX6_moveAllDown) := goodIn_app (goodIn_of _ (by decide +kernel)) ggX7_pack_X6_moveAllDown
theorem dX7_pack_0 : decode cX7_pack 0 = .ok (.aload_n 0, 1) := by decide +kernel
theorem dX7_pack_1 : decode cX7_pack 1 = .ok (.dup, 1) := by decide +kernel
theorem dX7_pack_2 : decode cX7_pack 2 = .ok (.getfield 122, 3) := by decide +kernel
theorem dX7_pack_5 : decode cX7_pack 5 = .ok (.iconst 1, 1) := by decide +kernel
theorem dX7_pack_6 : decode cX7_pack 6 = .ok (.iadd, 1) := by decide +kernel
theorem dX7_pack_7 : decode cX7_pack 7 = .ok (.putfield 122, 3) := by decide +kernel
theorem dX7_pack_10 : decode cX7_pack 10 = .ok (.aload_n 0, 1) := by decide +kernel
theorem dX7_pack_11 : decode cX7_pack 11 = .ok (.getfield 18, 3) := by decide +kernel
theorem dX7_pack_14 : decode cX7_pack 14 = .ok (.getfield 125, 3) := by decide +kernel
theorem dX7_pack_17 : decode cX7_pack 17 = .ok (.invokevirtual 129, 3) := by decide +kernel
theorem dX7_pack_20 : decode cX7_pack 20 = .ok (.ireturn, 1) := by decide +kernel
set_option maxRecDepth 20000 in
theorem ggX7_weak_X4_living : GoodIn wsX7_weak wsX4_living := goodIn_r _ [9, 10, 11, 12, 13, 8, 14, 15, 32, 33, 34, 35, 36, 37, 38, 39, 40, 41, 42, 26, 27, 28, 29, 30, 31] (by decide +kernel) (by decide +kernel)
set_option maxRecDepth 20000 in
theorem gX7_weak_X4_living : GoodIn wsX7_weak (wsV RX7 70 RX4 yX4_living wsX4_living) := goodIn_app (goodIn_of _ (by decide +kernel)) ggX7_weak_X4_living
set_option maxRecDepth 20000 in
theorem ggX7_weak_X7_numberOf : GoodIn wsX7_weak wsX7_numberOf := goodIn_r _ [19, 20, 32, 33, 34, 35, 36, 37, 38, 39, 40, 41, 42] (by decide +kernel) (by decide +kernel)
set_option maxRecDepth 20000 in
theorem gX7_weak_X7_numberOf : GoodIn wsX7_weak (va_wsS RX7 106 yX7_numberOf wsX7_numberOf) := goodIn_app (goodIn_of _ (by decide +kernel)) ggX7_weak_X7_numberOf
theorem dX7_weak_0 : decode cX7_weak 0 = .ok (.iload_n 1, 1) := by decide +kernel
theorem dX7_weak_1 : decode cX7_weak 1 = .ok (.ifCond .lt 9, 3) := by decide +kernel
theorem dX7_weak_4 : decode cX7_weak 4 = .ok (.iload_n 1, 1) := by decide +kernel
theorem dX7_weak_5 : decode cX7_weak 5 = .ok (.bipush 20, 2) := by decide +kernel
theorem dX7_weak_7 : decode cX7_weak 7 = .ok (.if_icmp .lt 13, 3) := by decide +kernel
theorem dX7_weak_10 : decode cX7_weak 10 = .ok (.new 40, 3) := by decide +kernel
theorem dX7_weak_13 : decode cX7_weak 13 = .ok (.dup, 1) := by decide +kernel
theorem dX7_weak_14 : decode cX7_weak 14 = .ok (.ldc 134, 2) := by decide +kernel
theorem dX7_weak_16 : decode cX7_weak 16 = .ok (.invokespecial 44, 3) := by decide +kernel
theorem dX7_weak_19 : decode cX7_weak 19 = .ok (.athrow, 1) := by decide +kernel
theorem dX7_weak_20 : decode cX7_weak 20 = .ok (.aload_n 0, 1) := by decide +kernel
theorem dX7_weak_21 : decode cX7_weak 21 = .ok (.getfield 18, 3) := by decide +kernel
theorem dX7_weak_24 : decode cX7_weak 24 = .ok (.iload_n 2, 1) := by decide +kernel
theorem dX7_weak_25 : decode cX7_weak 25 = .ok (.invokevirtual 70, 3) := by decide +kernel
theorem dX7_weak_28 : decode cX7_weak 28 = .ok (.astore_n 3, 1) := by decide +kernel
theorem dX7_weak_29 : decode cX7_weak 29 = .ok (.aload_n 3, 1) := by decide +kernel
theorem dX7_weak_30 : decode cX7_weak 30 = .ok (.ifnonnull 10, 3) := by decide +kernel
theorem dX7_weak_33 : decode cX7_weak 33 = .ok (.iload_n 2, 1) := by decide +kernel
theorem dX7_weak_34 : decode cX7_weak 34 = .ok (.iconst (-1), 1) := by decide +kernel
theorem dX7_weak_35 : decode cX7_weak 35 = .ok (.if_icmp .eq 5, 3) := by decide +kernel
theorem dX7_weak_38 : decode cX7_weak 38 = .ok (.iconst (-1), 1) := by decide +kernel
theorem dX7_weak_39 : decode cX7_weak 39 = .ok (.ireturn, 1) := by decide +kernel
theorem dX7_weak_40 : decode cX7_weak 40 = .ok (.aload_n 0, 1) := by decide +kernel
theorem dX7_weak_41 : decode cX7_weak 41 = .ok (.getfield 18, 3) := by decide +kernel
theorem dX7_weak_44 : decode cX7_weak 44 = .ok (.getfield 136, 3) := by decide +kernel
theorem dX7_weak_47 : decode cX7_weak 47 = .ok (.iload_n 1, 1) := by decide +kernel
theorem dX7_weak_48 : decode cX7_weak 48 = .ok (.aaload, 1) := by decide +kernel
theorem dX7_weak_49 : decode cX7_weak 49 = .ok (.invokestatic 106, 3) := by decide +kernel
theorem dX7_weak_52 : decode cX7_weak 52 = .ok (.istore 4, 2) := by decide +kernel
theorem dX7_weak_54 : decode cX7_weak 54 = .ok (.aload_n 0, 1) := by decide +kernel
theorem dX7_weak_55 : decode cX7_weak 55 = .ok (.getfield 18, 3) := by decide +kernel
theorem dX7_weak_58 : decode cX7_weak 58 = .ok (.getfield 136, 3) := by decide +kernel
theorem dX7_weak_61 : decode cX7_weak 61 = .ok (.iload_n 1, 1) := by decide +kernel
theorem dX7_weak_62 : decode cX7_weak 62 = .ok (.aload_n 3, 1) := by decide +kernel
theorem dX7_weak_63 : decode cX7_weak 63 = .ok (.aastore, 1) := by decide +kernel
theorem dX7_weak_64 : decode cX7_weak 64 = .ok (.iload 4, 2) := by decide +kernel
theorem dX7_weak_66 : decode cX7_weak 66 = .ok (.ireturn, 1) := by decide +kernel
set_option maxRecDepth 20000 in
theorem ggX7_seen_X7_numberOf : GoodIn wsX7_seen wsX7_numberOf := goodIn_r _ [8, 9, 21, 22, 23, 24, 25, 26, 27, 28, 29, 30, 31] (by decide +kernel) (by decide +kernel)
set_option maxRecDepth 20000 in
theorem gX7_seen_X7_numberOf : GoodIn wsX7_seen (va_wsS RX7 106 yX7_numberOf wsX7_numberOf) := goodIn_app (goodIn_of _ (by decide +kernel)) ggX7_seen_X7_numberOf
theorem dX7_seen_0 : decode cX7_seen 0 = .ok (.iload_n 1, 1) := by decide +kernel
theorem dX7_seen_1 : decode cX7_seen 1 = .ok (.ifCond .lt 9, 3) := by decide +kernel
theorem dX7_seen_4 : decode cX7_seen 4 = .ok (.iload_n 1, 1) := by decide +kernel
theorem dX7_seen_5 : decode cX7_seen 5 = .ok (.bipush 20, 2) := by decide +kernel
theorem dX7_seen_7 : decode cX7_seen 7 = .ok (.if_icmp .lt 13, 3) := by decide +kernel
theorem dX7_seen_10 : decode cX7_seen 10 = .ok (.new 40, 3) := by decide +kernel
theorem dX7_seen_13 : decode cX7_seen 13 = .ok (.dup, 1) := by decide +kernel
theorem dX7_seen_14 : decode cX7_seen 14 = .ok (.ldc 134, 2) := by decide +kernel
theorem dX7_seen_16 : decode cX7_seen 16 = .ok (.invokespecial 44, 3) := by decide +kernel
theorem dX7_seen_19 : decode cX7_seen 19 = .ok (.athrow, 1) := by decide +kernel
theorem dX7_seen_20 : decode cX7_seen 20 = .ok (.aload_n 0, 1) := by decide +kernel
theorem dX7_seen_21 : decode cX7_seen 21 = .ok (.getfield 18, 3) := by decide +kernel
theorem dX7_seen_24 : decode cX7_seen 24 = .ok (.getfield 136, 3) := by decide +kernel
theorem dX7_seen_27 : decode cX7_seen 27 = .ok (.iload_n 1, 1) := by decide +kernel
theorem dX7_seen_28 : decode cX7_seen 28 = .ok (.aaload, 1) := by decide +kernel
theorem dX7_seen_29 : decode cX7_seen 29 = .ok (.invokestatic 106, 3) := by decide +kernel
theorem dX7_seen_32 : decode cX7_seen 32 = .ok (.ireturn, 1) := by decide +kernel
set_option maxRecDepth 20000 in
theorem ggX7_object_X4_thing : GoodIn wsX7_object wsX4_thing := goodIn_r _ [8, 9, 29, 30, 31, 32, 33, 34] (by decide +kernel) (by decide +kernel)
set_option maxRecDepth 20000 in
theorem gX7_object_X4_thing : GoodIn wsX7_object (wsV RX7 101 RX4 yX4_thing wsX4_thing) := goodIn_app (goodIn_of _ (by decide +kernel)) ggX7_object_X4_thing
set_option maxRecDepth 20000 in
theorem ggX7_object_X5_tell : GoodIn wsX7_object wsX5_tell := goodIn_r _ [14, 15, 16, 17, 18, 19, 20, 21, 22, 23, 35, 36, 37, 38, 39, 40, 41, 42, 43, 44, 45, 46, 47, 48, 49] (by decide +kernel) (by decide +kernel)
set_option maxRecDepth 20000 in
theorem gX7_object_X5_tell : GoodIn wsX7_object (wsV RX7 141 RX5 yX5_tell wsX5_tell) := goodIn_app (goodIn_of _ (by decide +kernel)) ggX7_object_X5_tell
theorem dX7_object_0 : decode cX7_object 0 = .ok (.iload_n 2, 1) := by decide +kernel
theorem dX7_object_1 : decode cX7_object 1 = .ok (.ifCond .lt 9, 3) := by decide +kernel
theorem dX7_object_4 : decode cX7_object 4 = .ok (.iload_n 2, 1) := by decide +kernel
theorem dX7_object_5 : decode cX7_object 5 = .ok (.bipush 8, 2) := by decide +kernel
theorem dX7_object_7 : decode cX7_object 7 = .ok (.if_icmp .lt 13, 3) := by decide +kernel
theorem dX7_object_10 : decode cX7_object 10 = .ok (.new 40, 3) := by decide +kernel
theorem dX7_object_13 : decode cX7_object 13 = .ok (.dup, 1) := by decide +kernel
theorem dX7_object_14 : decode cX7_object 14 = .ok (.ldc 139, 2) := by decide +kernel
theorem dX7_object_16 : decode cX7_object 16 = .ok (.invokespecial 44, 3) := by decide +kernel
theorem dX7_object_19 : decode cX7_object 19 = .ok (.athrow, 1) := by decide +kernel
theorem dX7_object_20 : decode cX7_object 20 = .ok (.aload_n 0, 1) := by decide +kernel
theorem dX7_object_21 : decode cX7_object 21 = .ok (.getfield 18, 3) := by decide +kernel
theorem dX7_object_24 : decode cX7_object 24 = .ok (.iload_n 1, 1) := by decide +kernel
theorem dX7_object_25 : decode cX7_object 25 = .ok (.invokevirtual 101, 3) := by decide +kernel
theorem dX7_object_28 : decode cX7_object 28 = .ok (.astore_n 3, 1) := by decide +kernel
theorem dX7_object_29 : decode cX7_object 29 = .ok (.aload_n 3, 1) := by decide +kernel
theorem dX7_object_30 : decode cX7_object 30 = .ok (.ifnonnull 7, 3) := by decide +kernel
theorem dX7_object_33 : decode cX7_object 33 = .ok (.iconst (-1), 1) := by decide +kernel
theorem dX7_object_34 : decode cX7_object 34 = .ok (.goto 8, 3) := by decide +kernel
theorem dX7_object_37 : decode cX7_object 37 = .ok (.aload_n 3, 1) := by decide +kernel
theorem dX7_object_38 : decode cX7_object 38 = .ok (.iload_n 2, 1) := by decide +kernel
theorem dX7_object_39 : decode cX7_object 39 = .ok (.invokevirtual 141, 3) := by decide +kernel
theorem dX7_object_42 : decode cX7_object 42 = .ok (.ireturn, 1) := by decide +kernel
theorem dX7_count_0 : decode cX7_count 0 = .ok (.iload_n 1, 1) := by decide +kernel
theorem dX7_count_1 : decode cX7_count 1 = .ok (.ifCond .lt 9, 3) := by decide +kernel
theorem dX7_count_4 : decode cX7_count 4 = .ok (.iload_n 1, 1) := by decide +kernel
theorem dX7_count_5 : decode cX7_count 5 = .ok (.bipush 9, 2) := by decide +kernel
theorem dX7_count_7 : decode cX7_count 7 = .ok (.if_icmp .lt 13, 3) := by decide +kernel
theorem dX7_count_10 : decode cX7_count 10 = .ok (.new 40, 3) := by decide +kernel
theorem dX7_count_13 : decode cX7_count 13 = .ok (.dup, 1) := by decide +kernel
theorem dX7_count_14 : decode cX7_count 14 = .ok (.ldc 139, 2) := by decide +kernel
theorem dX7_count_16 : decode cX7_count 16 = .ok (.invokespecial 44, 3) := by decide +kernel
theorem dX7_count_19 : decode cX7_count 19 = .ok (.athrow, 1) := by decide +kernel
theorem dX7_count_20 : decode cX7_count 20 = .ok (.iload_n 1, 1) := by decide +kernel
theorem dX7_count_21 : decode cX7_count 21 = .ok (.tableswitch 117 0 7 #[47, 55, 66, 77, 88, 96, 104, 109], 47) := by decide +kernel
theorem dX7_count_68 : decode cX7_count 68 = .ok (.aload_n 0, 1) := by decide +kernel
theorem dX7_count_69 : decode cX7_count 69 = .ok (.getfield 18, 3) := by decide +kernel
theorem dX7_count_72 : decode cX7_count 72 = .ok (.getfield 145, 3) := by decide +kernel
theorem dX7_count_75 : decode cX7_count 75 = .ok (.ireturn, 1) := by decide +kernel
theorem dX7_count_76 : decode cX7_count 76 = .ok (.aload_n 0, 1) := by decide +kernel
theorem dX7_count_77 : decode cX7_count 77 = .ok (.getfield 27, 3) := by decide +kernel
theorem dX7_count_80 : decode cX7_count 80 = .ok (.getfield 148, 3) := by decide +kernel
theorem dX7_count_83 : decode cX7_count 83 = .ok (.getfield 151, 3) := by decide +kernel
theorem dX7_count_86 : decode cX7_count 86 = .ok (.ireturn, 1) := by decide +kernel
theorem dX7_count_87 : decode cX7_count 87 = .ok (.aload_n 0, 1) := by decide +kernel
theorem dX7_count_88 : decode cX7_count 88 = .ok (.getfield 27, 3) := by decide +kernel
theorem dX7_count_91 : decode cX7_count 91 = .ok (.getfield 109, 3) := by decide +kernel
theorem dX7_count_94 : decode cX7_count 94 = .ok (.getfield 151, 3) := by decide +kernel
theorem dX7_count_97 : decode cX7_count 97 = .ok (.ireturn, 1) := by decide +kernel
theorem dX7_count_98 : decode cX7_count 98 = .ok (.aload_n 0, 1) := by decide +kernel
theorem dX7_count_99 : decode cX7_count 99 = .ok (.getfield 18, 3) := by decide +kernel
theorem dX7_count_102 : decode cX7_count 102 = .ok (.getfield 125, 3) := by decide +kernel
theorem dX7_count_105 : decode cX7_count 105 = .ok (.getfield 154, 3) := by decide +kernel
theorem dX7_count_108 : decode cX7_count 108 = .ok (.ireturn, 1) := by decide +kernel
theorem dX7_count_109 : decode cX7_count 109 = .ok (.aload_n 0, 1) := by decide +kernel
theorem dX7_count_110 : decode cX7_count 110 = .ok (.getfield 18, 3) := by decide +kernel
theorem dX7_count_113 : decode cX7_count 113 = .ok (.getfield 157, 3) := by decide +kernel
theorem dX7_count_116 : decode cX7_count 116 = .ok (.ireturn, 1) := by decide +kernel
theorem dX7_count_117 : decode cX7_count 117 = .ok (.aload_n 0, 1) := by decide +kernel
theorem dX7_count_118 : decode cX7_count 118 = .ok (.getfield 36, 3) := by decide +kernel
theorem dX7_count_121 : decode cX7_count 121 = .ok (.getfield 160, 3) := by decide +kernel
theorem dX7_count_124 : decode cX7_count 124 = .ok (.ireturn, 1) := by decide +kernel
theorem dX7_count_125 : decode cX7_count 125 = .ok (.aload_n 0, 1) := by decide +kernel
theorem dX7_count_126 : decode cX7_count 126 = .ok (.getfield 122, 3) := by decide +kernel
theorem dX7_count_129 : decode cX7_count 129 = .ok (.ireturn, 1) := by decide +kernel
theorem dX7_count_130 : decode cX7_count 130 = .ok (.aload_n 0, 1) := by decide +kernel
theorem dX7_count_131 : decode cX7_count 131 = .ok (.getfield 36, 3) := by decide +kernel
theorem dX7_count_134 : decode cX7_count 134 = .ok (.getfield 163, 3) := by decide +kernel
theorem dX7_count_137 : decode cX7_count 137 = .ok (.ireturn, 1) := by decide +kernel
theorem dX7_count_138 : decode cX7_count 138 = .ok (.aload_n 0, 1) := by decide +kernel
theorem dX7_count_139 : decode cX7_count 139 = .ok (.getfield 36, 3) := by decide +kernel
theorem dX7_count_142 : decode cX7_count 142 = .ok (.getfield 166, 3) := by decide +kernel
theorem dX7_count_145 : decode cX7_count 145 = .ok (.ireturn, 1) := by decide +kernel
set_option maxRecDepth 20000 in
theorem ggX7_listed_X3_item : GoodIn wsX7_listed wsX3_item := goodIn_r _ [7, 8, 9, 24, 25] (by decide +kernel) (by decide +kernel)
set_option maxRecDepth 20000 in
theorem gX7_listed_X3_item : GoodIn wsX7_listed (wsV RX7 169 RX3 yX3_item wsX3_item) := goodIn_app (goodIn_of _ (by decide +kernel)) ggX7_listed_X3_item
set_option maxRecDepth 20000 in
theorem ggX7_listed_X7_numberOf : GoodIn wsX7_listed wsX7_numberOf := goodIn_r _ [13, 14, 26, 27, 28, 29, 30, 31, 32, 33, 34, 35, 36] (by decide +kernel) (by decide +kernel)
set_option maxRecDepth 20000 in
theorem gX7_listed_X7_numberOf : GoodIn wsX7_listed (va_wsS RX7 106 yX7_numberOf wsX7_numberOf) := goodIn_app (goodIn_of _ (by decide +kernel)) ggX7_listed_X7_numberOf
theorem dX7_listed_0 : decode cX7_listed 0 = .ok (.aload_n 0, 1) := by decide +kernel
theorem dX7_listed_1 : decode cX7_listed 1 = .ok (.getfield 27, 3) := by decide +kernel
theorem dX7_listed_4 : decode cX7_listed 4 = .ok (.getfield 148, 3) := by decide +kernel
theorem dX7_listed_7 : decode cX7_listed 7 = .ok (.iload_n 1, 1) := by decide +kernel
theorem dX7_listed_8 : decode cX7_listed 8 = .ok (.invokevirtual 169, 3) := by decide +kernel
theorem dX7_listed_11 : decode cX7_listed 11 = .ok (.invokestatic 106, 3) := by decide +kernel
theorem dX7_listed_14 : decode cX7_listed 14 = .ok (.ireturn, 1) := by decide +kernel
set_option maxRecDepth 20000 in
theorem ggX7_freed_X4_freedNumber : GoodIn wsX7_freed wsX4_freedNumber := goodIn_r _ [6, 7, 8, 14, 15, 16, 17, 18, 19] (by decide +kernel) (by decide +kernel)
set_option maxRecDepth 20000 in
theorem gX7_freed_X4_freedNumber : GoodIn wsX7_freed (wsV RX7 172 RX4 yX4_freedNumber wsX4_freedNumber) := goodIn_app (goodIn_of _ (by decide +kernel)) ggX7_freed_X4_freedNumber
theorem dX7_freed_0 : decode cX7_freed 0 = .ok (.aload_n 0, 1) := by decide +kernel
theorem dX7_freed_1 : decode cX7_freed 1 = .ok (.getfield 18, 3) := by decide +kernel
theorem dX7_freed_4 : decode cX7_freed 4 = .ok (.iload_n 1, 1) := by decide +kernel
theorem dX7_freed_5 : decode cX7_freed 5 = .ok (.invokevirtual 172, 3) := by decide +kernel
theorem dX7_freed_8 : decode cX7_freed 8 = .ok (.ireturn, 1) := by decide +kernel
set_option maxRecDepth 20000 in
theorem ggX7_at_X6_owner : GoodIn wsX7_at wsX6_owner := goodIn_r _ [9, 10, 27, 28] (by decide +kernel) (by decide +kernel)
set_option maxRecDepth 20000 in
theorem gX7_at_X6_owner : GoodIn wsX7_at (wsV RX7 177 RX6 yX6_owner wsX6_owner) := goodIn_app (goodIn_of _ (by decide +kernel)) ggX7_at_X6_owner
set_option maxRecDepth 20000 in
theorem ggX7_at_X7_numberOf : GoodIn wsX7_at wsX7_numberOf := goodIn_r _ [14, 15, 29, 30, 31, 32, 33, 34, 35, 36, 37, 38, 39] (by decide +kernel) (by decide +kernel)
set_option maxRecDepth 20000 in
theorem gX7_at_X7_numberOf : GoodIn wsX7_at (va_wsS RX7 106 yX7_numberOf wsX7_numberOf) := goodIn_app (goodIn_of _ (by decide +kernel)) ggX7_at_X7_numberOf
theorem dX7_at_0 : decode cX7_at 0 = .ok (.iload_n 1, 1) := by decide +kernel
theorem dX7_at_1 : decode cX7_at 1 = .ok (.ifCond .lt 10, 3) := by decide +kernel
theorem dX7_at_4 : decode cX7_at 4 = .ok (.iload_n 1, 1) := by decide +kernel
theorem dX7_at_5 : decode cX7_at 5 = .ok (.sipush 400, 3) := by decide +kernel
theorem dX7_at_8 : decode cX7_at 8 = .ok (.if_icmp .lt 13, 3) := by decide +kernel
theorem dX7_at_11 : decode cX7_at 11 = .ok (.new 40, 3) := by decide +kernel
theorem dX7_at_14 : decode cX7_at 14 = .ok (.dup, 1) := by decide +kernel
theorem dX7_at_15 : decode cX7_at 15 = .ok (.ldc 175, 2) := by decide +kernel
theorem dX7_at_17 : decode cX7_at 17 = .ok (.invokespecial 44, 3) := by decide +kernel
theorem dX7_at_20 : decode cX7_at 20 = .ok (.athrow, 1) := by decide +kernel
theorem dX7_at_21 : decode cX7_at 21 = .ok (.aload_n 0, 1) := by decide +kernel
theorem dX7_at_22 : decode cX7_at 22 = .ok (.getfield 18, 3) := by decide +kernel
theorem dX7_at_25 : decode cX7_at 25 = .ok (.getfield 125, 3) := by decide +kernel
theorem dX7_at_28 : decode cX7_at 28 = .ok (.iload_n 1, 1) := by decide +kernel
theorem dX7_at_29 : decode cX7_at 29 = .ok (.invokevirtual 177, 3) := by decide +kernel
theorem dX7_at_32 : decode cX7_at 32 = .ok (.invokestatic 106, 3) := by decide +kernel
theorem dX7_at_35 : decode cX7_at 35 = .ok (.ireturn, 1) := by decide +kernel
set_option maxRecDepth 20000 in
theorem ggX7_makeRoomByMoving_X4_leastFreeNumber : GoodIn wsX7_makeRoomByMoving wsX4_leastFreeNumber := goodIn_r _ [10, 11, 43, 44, 45, 46, 47, 48] (by decide +kernel) (by decide +kernel)
set_option maxRecDepth 20000 in
theorem gX7_makeRoomByMoving_X4_leastFreeNumber : GoodIn wsX7_makeRoomByMoving (wsV RX7 180 RX4 yX4_leastFreeNumber wsX4_leastFreeNumber) := goodIn_app (goodIn_of _ (by decide +kernel)) ggX7_makeRoomByMoving_X4_leastFreeNumber
set_option maxRecDepth 20000 in
theorem ggX7_makeRoomByMoving_X6_moveAllDown : GoodIn wsX7_makeRoomByMoving wsX6_moveAllDown := goodIn_r _ [16, 17, 18, 19, 20, 21, 15, 22, 23, 24, 25, 26, 27, 28, 29, 30, 31, 32, 33, 34, 35, 36, 37, 55, 56, 57, 58, 59, 60, 61, 62, 63, 64, 65, 51, 52, 53, 54, 49, 50] (by decide +kernel) (by decide +kernel)
set_option maxRecDepth 20000 in
theorem gX7_makeRoomByMoving_X6_moveAllDown : GoodIn wsX7_makeRoomByMoving (wsV RX7 129 RX6 yX6_moveAllDown wsX6_moveAllDown) := goodIn_app (goodIn_of _ (by decide +kernel)) ggX7_makeRoomByMoving_X6_moveAllDown
theorem dX7_makeRoomByMoving_0 : decode cX7_makeRoomByMoving 0 = .ok (.aload_n 0, 1) := by decide +kernel
theorem dX7_makeRoomByMoving_1 : decode cX7_makeRoomByMoving 1 = .ok (.getfield 18, 3) := by decide +kernel
theorem dX7_makeRoomByMoving_4 : decode cX7_makeRoomByMoving 4 = .ok (.invokevirtual 180, 3) := by decide +kernel
theorem dX7_makeRoomByMoving_7 : decode cX7_makeRoomByMoving 7 = .ok (.iconst (-1), 1) := by decide +kernel
theorem dX7_makeRoomByMoving_8 : decode cX7_makeRoomByMoving 8 = .ok (.if_icmp .eq 20, 3) := by decide +kernel
theorem dX7_makeRoomByMoving_11 : decode cX7_makeRoomByMoving 11 = .ok (.aload_n 0, 1) := by decide +kernel
theorem dX7_makeRoomByMoving_12 : decode cX7_makeRoomByMoving 12 = .ok (.getfield 18, 3) := by decide +kernel
theorem dX7_makeRoomByMoving_15 : decode cX7_makeRoomByMoving 15 = .ok (.getfield 125, 3) := by decide +kernel
theorem dX7_makeRoomByMoving_18 : decode cX7_makeRoomByMoving 18 = .ok (.getfield 154, 3) := by decide +kernel
theorem dX7_makeRoomByMoving_21 : decode cX7_makeRoomByMoving 21 = .ok (.aload_n 1, 1) := by decide +kernel
theorem dX7_makeRoomByMoving_22 : decode cX7_makeRoomByMoving 22 = .ok (.getfield 183, 3) := by decide +kernel
theorem dX7_makeRoomByMoving_25 : decode cX7_makeRoomByMoving 25 = .ok (.if_icmp .ge 5, 3) := by decide +kernel
theorem dX7_makeRoomByMoving_28 : decode cX7_makeRoomByMoving 28 = .ok (.iconst 0, 1) := by decide +kernel
theorem dX7_makeRoomByMoving_29 : decode cX7_makeRoomByMoving 29 = .ok (.ireturn, 1) := by decide +kernel
theorem dX7_makeRoomByMoving_30 : decode cX7_makeRoomByMoving 30 = .ok (.aload_n 0, 1) := by decide +kernel
theorem dX7_makeRoomByMoving_31 : decode cX7_makeRoomByMoving 31 = .ok (.dup, 1) := by decide +kernel
theorem dX7_makeRoomByMoving_32 : decode cX7_makeRoomByMoving 32 = .ok (.getfield 122, 3) := by decide +kernel
theorem dX7_makeRoomByMoving_35 : decode cX7_makeRoomByMoving 35 = .ok (.iconst 1, 1) := by decide +kernel
theorem dX7_makeRoomByMoving_36 : decode cX7_makeRoomByMoving 36 = .ok (.iadd, 1) := by decide +kernel
theorem dX7_makeRoomByMoving_37 : decode cX7_makeRoomByMoving 37 = .ok (.putfield 122, 3) := by decide +kernel
theorem dX7_makeRoomByMoving_40 : decode cX7_makeRoomByMoving 40 = .ok (.aload_n 0, 1) := by decide +kernel
theorem dX7_makeRoomByMoving_41 : decode cX7_makeRoomByMoving 41 = .ok (.getfield 18, 3) := by decide +kernel
theorem dX7_makeRoomByMoving_44 : decode cX7_makeRoomByMoving 44 = .ok (.getfield 125, 3) := by decide +kernel
theorem dX7_makeRoomByMoving_47 : decode cX7_makeRoomByMoving 47 = .ok (.invokevirtual 129, 3) := by decide +kernel
theorem dX7_makeRoomByMoving_50 : decode cX7_makeRoomByMoving 50 = .ok (.pop, 1) := by decide +kernel
theorem dX7_makeRoomByMoving_51 : decode cX7_makeRoomByMoving 51 = .ok (.iconst 1, 1) := by decide +kernel
theorem dX7_makeRoomByMoving_52 : decode cX7_makeRoomByMoving 52 = .ok (.ireturn, 1) := by decide +kernel
theorem dX7_numberOf_0 : decode cX7_numberOf 0 = .ok (.aload_n 0, 1) := by decide +kernel
theorem dX7_numberOf_1 : decode cX7_numberOf 1 = .ok (.ifnonnull 7, 3) := by decide +kernel
theorem dX7_numberOf_4 : decode cX7_numberOf 4 = .ok (.iconst (-1), 1) := by decide +kernel
theorem dX7_numberOf_5 : decode cX7_numberOf 5 = .ok (.goto 7, 3) := by decide +kernel
theorem dX7_numberOf_8 : decode cX7_numberOf 8 = .ok (.aload_n 0, 1) := by decide +kernel
theorem dX7_numberOf_9 : decode cX7_numberOf 9 = .ok (.getfield 119, 3) := by decide +kernel
theorem dX7_numberOf_12 : decode cX7_numberOf 12 = .ok (.ireturn, 1) := by decide +kernel
end
section
theorem dX8_thrown_0 : decode cX8_thrown 0 = .ok (.aload_n 0, 1) := by decide +kernel
theorem dX8_thrown_1 : decode cX8_thrown 1 = .ok (.getfield 1, 3) := by decide +kernel
theorem dX8_thrown_4 : decode cX8_thrown 4 = .ok (.ireturn, 1) := by decide +kernel
theorem dX8_init_0 : decode cX8_init 0 = .ok (.aload_n 0, 1) := by decide +kernel
theorem dX8_init_1 : decode cX8_init 1 = .ok (.invokespecial 7, 3) := by decide +kernel
theorem dX8_init_4 : decode cX8_init 4 = .ok (.aload_n 0, 1) := by decide +kernel
theorem dX8_init_5 : decode cX8_init 5 = .ok (.bipush 10, 2) := by decide +kernel
theorem dX8_init_7 : decode cX8_init 7 = .ok (.newarray .int, 2) := by decide +kernel
theorem dX8_init_9 : decode cX8_init 9 = .ok (.putfield 13, 3) := by decide +kernel
theorem dX8_init_12 : decode cX8_init 12 = .ok (.aload_n 0, 1) := by decide +kernel
theorem dX8_init_13 : decode cX8_init 13 = .ok (.bipush 10, 2) := by decide +kernel
theorem dX8_init_15 : decode cX8_init 15 = .ok (.newarray .int, 2) := by decide +kernel
theorem dX8_init_17 : decode cX8_init 17 = .ok (.putfield 17, 3) := by decide +kernel
theorem dX8_init_20 : decode cX8_init 20 = .ok (.aload_n 0, 1) := by decide +kernel
theorem dX8_init_21 : decode cX8_init 21 = .ok (.bipush 10, 2) := by decide +kernel
theorem dX8_init_23 : decode cX8_init 23 = .ok (.newarray .boolean, 2) := by decide +kernel
theorem dX8_init_25 : decode cX8_init 25 = .ok (.putfield 20, 3) := by decide +kernel
theorem dX8_init_28 : decode cX8_init 28 = .ok (.aload_n 0, 1) := by decide +kernel
theorem dX8_init_29 : decode cX8_init 29 = .ok (.bipush 80, 2) := by decide +kernel
theorem dX8_init_31 : decode cX8_init 31 = .ok (.newarray .int, 2) := by decide +kernel
theorem dX8_init_33 : decode cX8_init 33 = .ok (.putfield 24, 3) := by decide +kernel
theorem dX8_init_36 : decode cX8_init 36 = .ok (.aload_n 0, 1) := by decide +kernel
theorem dX8_init_37 : decode cX8_init 37 = .ok (.bipush 80, 2) := by decide +kernel
theorem dX8_init_39 : decode cX8_init 39 = .ok (.newarray .int, 2) := by decide +kernel
theorem dX8_init_41 : decode cX8_init 41 = .ok (.putfield 27, 3) := by decide +kernel
theorem dX8_init_44 : decode cX8_init 44 = .ok (.aload_n 0, 1) := by decide +kernel
theorem dX8_init_45 : decode cX8_init 45 = .ok (.bipush 80, 2) := by decide +kernel
theorem dX8_init_47 : decode cX8_init 47 = .ok (.newarray .int, 2) := by decide +kernel
theorem dX8_init_49 : decode cX8_init 49 = .ok (.putfield 30, 3) := by decide +kernel
theorem dX8_init_52 : decode cX8_init 52 = .ok (.aload_n 0, 1) := by decide +kernel
theorem dX8_init_53 : decode cX8_init 53 = .ok (.bipush 80, 2) := by decide +kernel
theorem dX8_init_55 : decode cX8_init 55 = .ok (.newarray .int, 2) := by decide +kernel
theorem dX8_init_57 : decode cX8_init 57 = .ok (.putfield 33, 3) := by decide +kernel
theorem dX8_init_60 : decode cX8_init 60 = .ok (.aload_n 0, 1) := by decide +kernel
theorem dX8_init_61 : decode cX8_init 61 = .ok (.bipush 80, 2) := by decide +kernel
theorem dX8_init_63 : decode cX8_init 63 = .ok (.newarray .int, 2) := by decide +kernel
theorem dX8_init_65 : decode cX8_init 65 = .ok (.putfield 36, 3) := by decide +kernel
theorem dX8_init_68 : decode cX8_init 68 = .ok (.aload_n 0, 1) := by decide +kernel
theorem dX8_init_69 : decode cX8_init 69 = .ok (.bipush 80, 2) := by decide +kernel
theorem dX8_init_71 : decode cX8_init 71 = .ok (.newarray .boolean, 2) := by decide +kernel
theorem dX8_init_73 : decode cX8_init 73 = .ok (.putfield 39, 3) := by decide +kernel
theorem dX8_init_76 : decode cX8_init 76 = .ok (.aload_n 0, 1) := by decide +kernel
theorem dX8_init_77 : decode cX8_init 77 = .ok (.bipush 80, 2) := by decide +kernel
theorem dX8_init_79 : decode cX8_init 79 = .ok (.newarray .boolean, 2) := by decide +kernel
theorem dX8_init_81 : decode cX8_init 81 = .ok (.putfield 42, 3) := by decide +kernel
theorem dX8_init_84 : decode cX8_init 84 = .ok (.aload_n 0, 1) := by decide +kernel
theorem dX8_init_85 : decode cX8_init 85 = .ok (.bipush 80, 2) := by decide +kernel
theorem dX8_init_87 : decode cX8_init 87 = .ok (.newarray .boolean, 2) := by decide +kernel
theorem dX8_init_89 : decode cX8_init 89 = .ok (.putfield 45, 3) := by decide +kernel
theorem dX8_init_92 : decode cX8_init 92 = .ok (.aload_n 0, 1) := by decide +kernel
theorem dX8_init_93 : decode cX8_init 93 = .ok (.sipush 480, 3) := by decide +kernel
theorem dX8_init_96 : decode cX8_init 96 = .ok (.newarray .int, 2) := by decide +kernel
theorem dX8_init_98 : decode cX8_init 98 = .ok (.putfield 48, 3) := by decide +kernel
theorem dX8_init_101 : decode cX8_init 101 = .ok (.aload_n 0, 1) := by decide +kernel
theorem dX8_init_102 : decode cX8_init 102 = .ok (.sipush 400, 3) := by decide +kernel
theorem dX8_init_105 : decode cX8_init 105 = .ok (.newarray .int, 2) := by decide +kernel
theorem dX8_init_107 : decode cX8_init 107 = .ok (.putfield 51, 3) := by decide +kernel
theorem dX8_init_110 : decode cX8_init 110 = .ok (.aload_n 0, 1) := by decide +kernel
theorem dX8_init_111 : decode cX8_init 111 = .ok (.bipush 80, 2) := by decide +kernel
theorem dX8_init_113 : decode cX8_init 113 = .ok (.newarray .int, 2) := by decide +kernel
theorem dX8_init_115 : decode cX8_init 115 = .ok (.putfield 54, 3) := by decide +kernel
theorem dX8_init_118 : decode cX8_init 118 = .ok (.aload_n 0, 1) := by decide +kernel
theorem dX8_init_119 : decode cX8_init 119 = .ok (.bipush 80, 2) := by decide +kernel
theorem dX8_init_121 : decode cX8_init 121 = .ok (.newarray .int, 2) := by decide +kernel
theorem dX8_init_123 : decode cX8_init 123 = .ok (.putfield 57, 3) := by decide +kernel
theorem dX8_init_126 : decode cX8_init 126 = .ok (.aload_n 0, 1) := by decide +kernel
theorem dX8_init_127 : decode cX8_init 127 = .ok (.bipush 20, 2) := by decide +kernel
theorem dX8_init_129 : decode cX8_init 129 = .ok (.newarray .int, 2) := by decide +kernel
theorem dX8_init_131 : decode cX8_init 131 = .ok (.putfield 60, 3) := by decide +kernel
theorem dX8_init_134 : decode cX8_init 134 = .ok (.aload_n 0, 1) := by decide +kernel
theorem dX8_init_135 : decode cX8_init 135 = .ok (.bipush 100, 2) := by decide +kernel
theorem dX8_init_137 : decode cX8_init 137 = .ok (.newarray .int, 2) := by decide +kernel
theorem dX8_init_139 : decode cX8_init 139 = .ok (.putfield 63, 3) := by decide +kernel
theorem dX8_init_142 : decode cX8_init 142 = .ok (.aload_n 0, 1) := by decide +kernel
theorem dX8_init_143 : decode cX8_init 143 = .ok (.bipush 80, 2) := by decide +kernel
theorem dX8_init_145 : decode cX8_init 145 = .ok (.newarray .int, 2) := by decide +kernel
theorem dX8_init_147 : decode cX8_init 147 = .ok (.putfield 66, 3) := by decide +kernel
theorem dX8_init_150 : decode cX8_init 150 = .ok (.aload_n 0, 1) := by decide +kernel
theorem dX8_init_151 : decode cX8_init 151 = .ok (.bipush 80, 2) := by decide +kernel
theorem dX8_init_153 : decode cX8_init 153 = .ok (.newarray .int, 2) := by decide +kernel
theorem dX8_init_155 : decode cX8_init 155 = .ok (.putfield 69, 3) := by decide +kernel
theorem dX8_init_158 : decode cX8_init 158 = .ok (.aload_n 0, 1) := by decide +kernel
theorem dX8_init_159 : decode cX8_init 159 = .ok (.bipush 80, 2) := by decide +kernel
theorem dX8_init_161 : decode cX8_init 161 = .ok (.newarray .int, 2) := by decide +kernel
theorem dX8_init_163 : decode cX8_init 163 = .ok (.putfield 72, 3) := by decide +kernel
theorem dX8_init_166 : decode cX8_init 166 = .ok (.aload_n 0, 1) := by decide +kernel
theorem dX8_init_167 : decode cX8_init 167 = .ok (.bipush 80, 2) := by decide +kernel
theorem dX8_init_169 : decode cX8_init 169 = .ok (.newarray .int, 2) := by decide +kernel
theorem dX8_init_171 : decode cX8_init 171 = .ok (.putfield 75, 3) := by decide +kernel
theorem dX8_init_174 : decode cX8_init 174 = .ok (.iconst 0, 1) := by decide +kernel
theorem dX8_init_175 : decode cX8_init 175 = .ok (.istore_n 1, 1) := by decide +kernel
theorem dX8_init_176 : decode cX8_init 176 = .ok (.iload_n 1, 1) := by decide +kernel
theorem dX8_init_177 : decode cX8_init 177 = .ok (.bipush 10, 2) := by decide +kernel
theorem dX8_init_179 : decode cX8_init 179 = .ok (.if_icmp .ge 16, 3) := by decide +kernel
theorem dX8_init_182 : decode cX8_init 182 = .ok (.aload_n 0, 1) := by decide +kernel
theorem dX8_init_183 : decode cX8_init 183 = .ok (.getfield 13, 3) := by decide +kernel
theorem dX8_init_186 : decode cX8_init 186 = .ok (.iload_n 1, 1) := by decide +kernel
theorem dX8_init_187 : decode cX8_init 187 = .ok (.iconst (-1), 1) := by decide +kernel
theorem dX8_init_188 : decode cX8_init 188 = .ok (.iastore, 1) := by decide +kernel
theorem dX8_init_189 : decode cX8_init 189 = .ok (.iinc 1 1, 3) := by decide +kernel
theorem dX8_init_192 : decode cX8_init 192 = .ok (.goto (-16), 3) := by decide +kernel
theorem dX8_init_195 : decode cX8_init 195 = .ok (.iconst 0, 1) := by decide +kernel
theorem dX8_init_196 : decode cX8_init 196 = .ok (.istore_n 1, 1) := by decide +kernel
theorem dX8_init_197 : decode cX8_init 197 = .ok (.iload_n 1, 1) := by decide +kernel
theorem dX8_init_198 : decode cX8_init 198 = .ok (.bipush 80, 2) := by decide +kernel
theorem dX8_init_200 : decode cX8_init 200 = .ok (.if_icmp .ge 16, 3) := by decide +kernel
theorem dX8_init_203 : decode cX8_init 203 = .ok (.aload_n 0, 1) := by decide +kernel
theorem dX8_init_204 : decode cX8_init 204 = .ok (.getfield 24, 3) := by decide +kernel
theorem dX8_init_207 : decode cX8_init 207 = .ok (.iload_n 1, 1) := by decide +kernel
theorem dX8_init_208 : decode cX8_init 208 = .ok (.iconst (-1), 1) := by decide +kernel
theorem dX8_init_209 : decode cX8_init 209 = .ok (.iastore, 1) := by decide +kernel
theorem dX8_init_210 : decode cX8_init 210 = .ok (.iinc 1 1, 3) := by decide +kernel
theorem dX8_init_213 : decode cX8_init 213 = .ok (.goto (-16), 3) := by decide +kernel
theorem dX8_init_216 : decode cX8_init 216 = .ok (.iconst 0, 1) := by decide +kernel
theorem dX8_init_217 : decode cX8_init 217 = .ok (.istore_n 1, 1) := by decide +kernel
theorem dX8_init_218 : decode cX8_init 218 = .ok (.iload_n 1, 1) := by decide +kernel
theorem dX8_init_219 : decode cX8_init 219 = .ok (.sipush 400, 3) := by decide +kernel
theorem dX8_init_222 : decode cX8_init 222 = .ok (.if_icmp .ge 16, 3) := by decide +kernel
theorem dX8_init_225 : decode cX8_init 225 = .ok (.aload_n 0, 1) := by decide +kernel
theorem dX8_init_226 : decode cX8_init 226 = .ok (.getfield 51, 3) := by decide +kernel
theorem dX8_init_229 : decode cX8_init 229 = .ok (.iload_n 1, 1) := by decide +kernel
theorem dX8_init_230 : decode cX8_init 230 = .ok (.iconst (-1), 1) := by decide +kernel
theorem dX8_init_231 : decode cX8_init 231 = .ok (.iastore, 1) := by decide +kernel
theorem dX8_init_232 : decode cX8_init 232 = .ok (.iinc 1 1, 3) := by decide +kernel
theorem dX8_init_235 : decode cX8_init 235 = .ok (.goto (-17), 3) := by decide +kernel
theorem dX8_init_238 : decode cX8_init 238 = .ok (.iconst 0, 1) := by decide +kernel
theorem dX8_init_239 : decode cX8_init 239 = .ok (.istore_n 1, 1) := by decide +kernel
theorem dX8_init_240 : decode cX8_init 240 = .ok (.iload_n 1, 1) := by decide +kernel
theorem dX8_init_241 : decode cX8_init 241 = .ok (.bipush 20, 2) := by decide +kernel
theorem dX8_init_243 : decode cX8_init 243 = .ok (.if_icmp .ge 16, 3) := by decide +kernel
theorem dX8_init_246 : decode cX8_init 246 = .ok (.aload_n 0, 1) := by decide +kernel
theorem dX8_init_247 : decode cX8_init 247 = .ok (.getfield 60, 3) := by decide +kernel
theorem dX8_init_250 : decode cX8_init 250 = .ok (.iload_n 1, 1) := by decide +kernel
theorem dX8_init_251 : decode cX8_init 251 = .ok (.iconst (-1), 1) := by decide +kernel
theorem dX8_init_252 : decode cX8_init 252 = .ok (.iastore, 1) := by decide +kernel
theorem dX8_init_253 : decode cX8_init 253 = .ok (.iinc 1 1, 3) := by decide +kernel
theorem dX8_init_256 : decode cX8_init 256 = .ok (.goto (-16), 3) := by decide +kernel
theorem dX8_init_259 : decode cX8_init 259 = .ok (.return_, 1) := by decide +kernel
theorem dX8_isThere_0 : decode cX8_isThere 0 = .ok (.iload_n 1, 1) := by decide +kernel
theorem dX8_isThere_1 : decode cX8_isThere 1 = .ok (.ifCond .lt 22, 3) := by decide +kernel
theorem dX8_isThere_4 : decode cX8_isThere 4 = .ok (.iload_n 1, 1) := by decide +kernel
theorem dX8_isThere_5 : decode cX8_isThere 5 = .ok (.bipush 80, 2) := by decide +kernel
theorem dX8_isThere_7 : decode cX8_isThere 7 = .ok (.if_icmp .ge 16, 3) := by decide +kernel
theorem dX8_isThere_10 : decode cX8_isThere 10 = .ok (.aload_n 0, 1) := by decide +kernel
theorem dX8_isThere_11 : decode cX8_isThere 11 = .ok (.getfield 24, 3) := by decide +kernel
theorem dX8_isThere_14 : decode cX8_isThere 14 = .ok (.iload_n 1, 1) := by decide +kernel
theorem dX8_isThere_15 : decode cX8_isThere 15 = .ok (.iaload, 1) := by decide +kernel
theorem dX8_isThere_16 : decode cX8_isThere 16 = .ok (.ifCond .lt 7, 3) := by decide +kernel
theorem dX8_isThere_19 : decode cX8_isThere 19 = .ok (.iconst 1, 1) := by decide +kernel
theorem dX8_isThere_20 : decode cX8_isThere 20 = .ok (.goto 4, 3) := by decide +kernel
theorem dX8_isThere_23 : decode cX8_isThere 23 = .ok (.iconst 0, 1) := by decide +kernel
theorem dX8_isThere_24 : decode cX8_isThere 24 = .ok (.ireturn, 1) := by decide +kernel
set_option maxRecDepth 20000 in
theorem ggX8_isWhole_X8_isThere : GoodIn wsX8_isWhole wsX8_isThere := goodIn_r _ [6, 7, 8, 9, 10, 11, 12, 13, 14, 15, 16, 17, 18, 19, 20, 21, 22, 23, 24, 25, 26, 27, 28, 29, 30, 31, 32, 33, 34, 35, 36, 37, 38] (by decide +kernel) (by decide +kernel)
set_option maxRecDepth 20000 in
theorem gX8_isWhole_X8_isThere : GoodIn wsX8_isWhole (wsV RX8 78 RX8 yX8_isThere wsX8_isThere) := goodIn_app (goodIn_of _ (by decide +kernel)) ggX8_isWhole_X8_isThere
theorem dX8_isWhole_0 : decode cX8_isWhole 0 = .ok (.aload_n 0, 1) := by decide +kernel
theorem dX8_isWhole_1 : decode cX8_isWhole 1 = .ok (.iload_n 1, 1) := by decide +kernel
theorem dX8_isWhole_2 : decode cX8_isWhole 2 = .ok (.invokevirtual 78, 3) := by decide +kernel
theorem dX8_isWhole_5 : decode cX8_isWhole 5 = .ok (.ifCond .eq 16, 3) := by decide +kernel
theorem dX8_isWhole_8 : decode cX8_isWhole 8 = .ok (.aload_n 0, 1) := by decide +kernel
theorem dX8_isWhole_9 : decode cX8_isWhole 9 = .ok (.getfield 45, 3) := by decide +kernel
theorem dX8_isWhole_12 : decode cX8_isWhole 12 = .ok (.iload_n 1, 1) := by decide +kernel
theorem dX8_isWhole_13 : decode cX8_isWhole 13 = .ok (.baload, 1) := by decide +kernel
theorem dX8_isWhole_14 : decode cX8_isWhole 14 = .ok (.ifCond .ne 7, 3) := by decide +kernel
theorem dX8_isWhole_17 : decode cX8_isWhole 17 = .ok (.iconst 1, 1) := by decide +kernel
theorem dX8_isWhole_18 : decode cX8_isWhole 18 = .ok (.goto 4, 3) := by decide +kernel
theorem dX8_isWhole_21 : decode cX8_isWhole 21 = .ok (.iconst 0, 1) := by decide +kernel
theorem dX8_isWhole_22 : decode cX8_isWhole 22 = .ok (.ireturn, 1) := by decide +kernel
theorem dX8_turn_0 : decode cX8_turn 0 = .ok (.aload_n 0, 1) := by decide +kernel
theorem dX8_turn_1 : decode cX8_turn 1 = .ok (.getfield 30, 3) := by decide +kernel
theorem dX8_turn_4 : decode cX8_turn 4 = .ok (.iload_n 1, 1) := by decide +kernel
theorem dX8_turn_5 : decode cX8_turn 5 = .ok (.aload_n 0, 1) := by decide +kernel
theorem dX8_turn_6 : decode cX8_turn 6 = .ok (.getfield 30, 3) := by decide +kernel
theorem dX8_turn_9 : decode cX8_turn 9 = .ok (.iload_n 1, 1) := by decide +kernel
theorem dX8_turn_10 : decode cX8_turn 10 = .ok (.iaload, 1) := by decide +kernel
theorem dX8_turn_11 : decode cX8_turn 11 = .ok (.iconst 4, 1) := by decide +kernel
theorem dX8_turn_12 : decode cX8_turn 12 = .ok (.if_icmp .ne 7, 3) := by decide +kernel
theorem dX8_turn_15 : decode cX8_turn 15 = .ok (.iconst 4, 1) := by decide +kernel
theorem dX8_turn_16 : decode cX8_turn 16 = .ok (.goto 4, 3) := by decide +kernel
theorem dX8_turn_19 : decode cX8_turn 19 = .ok (.iload_n 2, 1) := by decide +kernel
theorem dX8_turn_20 : decode cX8_turn 20 = .ok (.iastore, 1) := by decide +kernel
theorem dX8_turn_21 : decode cX8_turn 21 = .ok (.return_, 1) := by decide +kernel
theorem dX8_fieldsOf_0 : decode cX8_fieldsOf 0 = .ok (.aload_n 0, 1) := by decide +kernel
theorem dX8_fieldsOf_1 : decode cX8_fieldsOf 1 = .ok (.getfield 13, 3) := by decide +kernel
theorem dX8_fieldsOf_4 : decode cX8_fieldsOf 4 = .ok (.aload_n 0, 1) := by decide +kernel
theorem dX8_fieldsOf_5 : decode cX8_fieldsOf 5 = .ok (.getfield 24, 3) := by decide +kernel
theorem dX8_fieldsOf_8 : decode cX8_fieldsOf 8 = .ok (.iload_n 1, 1) := by decide +kernel
theorem dX8_fieldsOf_9 : decode cX8_fieldsOf 9 = .ok (.iaload, 1) := by decide +kernel
theorem dX8_fieldsOf_10 : decode cX8_fieldsOf 10 = .ok (.iaload, 1) := by decide +kernel
theorem dX8_fieldsOf_11 : decode cX8_fieldsOf 11 = .ok (.ireturn, 1) := by decide +kernel
theorem dX8_type_0 : decode cX8_type 0 = .ok (.aload_n 0, 1) := by decide +kernel
theorem dX8_type_1 : decode cX8_type 1 = .ok (.iload_n 1, 1) := by decide +kernel
theorem dX8_type_2 : decode cX8_type 2 = .ok (.ifCond .lt 9, 3) := by decide +kernel
theorem dX8_type_5 : decode cX8_type 5 = .ok (.iload_n 1, 1) := by decide +kernel
theorem dX8_type_6 : decode cX8_type 6 = .ok (.bipush 10, 2) := by decide +kernel
theorem dX8_type_8 : decode cX8_type 8 = .ok (.if_icmp .lt 7, 3) := by decide +kernel
theorem dX8_type_11 : decode cX8_type 11 = .ok (.iconst 1, 1) := by decide +kernel
theorem dX8_type_12 : decode cX8_type 12 = .ok (.goto 28, 3) := by decide +kernel
theorem dX8_type_15 : decode cX8_type 15 = .ok (.iload_n 2, 1) := by decide +kernel
theorem dX8_type_16 : decode cX8_type 16 = .ok (.ifCond .lt 19, 3) := by decide +kernel
theorem dX8_type_19 : decode cX8_type 19 = .ok (.iload_n 2, 1) := by decide +kernel
theorem dX8_type_20 : decode cX8_type 20 = .ok (.bipush 6, 2) := by decide +kernel
theorem dX8_type_22 : decode cX8_type 22 = .ok (.if_icmp .gt 13, 3) := by decide +kernel
theorem dX8_type_25 : decode cX8_type 25 = .ok (.iload_n 3, 1) := by decide +kernel
theorem dX8_type_26 : decode cX8_type 26 = .ok (.ifCond .lt 9, 3) := by decide +kernel
theorem dX8_type_29 : decode cX8_type 29 = .ok (.iload_n 3, 1) := by decide +kernel
theorem dX8_type_30 : decode cX8_type 30 = .ok (.bipush 60, 2) := by decide +kernel
theorem dX8_type_32 : decode cX8_type 32 = .ok (.if_icmp .le 7, 3) := by decide +kernel
theorem dX8_type_35 : decode cX8_type 35 = .ok (.iconst 2, 1) := by decide +kernel
theorem dX8_type_36 : decode cX8_type 36 = .ok (.goto 4, 3) := by decide +kernel
theorem dX8_type_39 : decode cX8_type 39 = .ok (.iconst 0, 1) := by decide +kernel
theorem dX8_type_40 : decode cX8_type 40 = .ok (.putfield 1, 3) := by decide +kernel
theorem dX8_type_43 : decode cX8_type 43 = .ok (.aload_n 0, 1) := by decide +kernel
theorem dX8_type_44 : decode cX8_type 44 = .ok (.getfield 1, 3) := by decide +kernel
theorem dX8_type_47 : decode cX8_type 47 = .ok (.ifCond .gt 12, 3) := by decide +kernel
theorem dX8_type_50 : decode cX8_type 50 = .ok (.aload_n 0, 1) := by decide +kernel
theorem dX8_type_51 : decode cX8_type 51 = .ok (.getfield 13, 3) := by decide +kernel
theorem dX8_type_54 : decode cX8_type 54 = .ok (.iload_n 1, 1) := by decide +kernel
theorem dX8_type_55 : decode cX8_type 55 = .ok (.iaload, 1) := by decide +kernel
theorem dX8_type_56 : decode cX8_type 56 = .ok (.ifCond .lt 5, 3) := by decide +kernel
theorem dX8_type_59 : decode cX8_type 59 = .ok (.iconst 0, 1) := by decide +kernel
theorem dX8_type_60 : decode cX8_type 60 = .ok (.ireturn, 1) := by decide +kernel
theorem dX8_type_61 : decode cX8_type 61 = .ok (.aload_n 0, 1) := by decide +kernel
theorem dX8_type_62 : decode cX8_type 62 = .ok (.getfield 13, 3) := by decide +kernel
theorem dX8_type_65 : decode cX8_type 65 = .ok (.iload_n 1, 1) := by decide +kernel
theorem dX8_type_66 : decode cX8_type 66 = .ok (.iload_n 2, 1) := by decide +kernel
theorem dX8_type_67 : decode cX8_type 67 = .ok (.iastore, 1) := by decide +kernel
theorem dX8_type_68 : decode cX8_type 68 = .ok (.aload_n 0, 1) := by decide +kernel
theorem dX8_type_69 : decode cX8_type 69 = .ok (.getfield 17, 3) := by decide +kernel
theorem dX8_type_72 : decode cX8_type 72 = .ok (.iload_n 1, 1) := by decide +kernel
theorem dX8_type_73 : decode cX8_type 73 = .ok (.iconst 2, 1) := by decide +kernel
theorem dX8_type_74 : decode cX8_type 74 = .ok (.iload_n 2, 1) := by decide +kernel
theorem dX8_type_75 : decode cX8_type 75 = .ok (.iadd, 1) := by decide +kernel
theorem dX8_type_76 : decode cX8_type 76 = .ok (.iload_n 3, 1) := by decide +kernel
theorem dX8_type_77 : decode cX8_type 77 = .ok (.iadd, 1) := by decide +kernel
theorem dX8_type_78 : decode cX8_type 78 = .ok (.iastore, 1) := by decide +kernel
theorem dX8_type_79 : decode cX8_type 79 = .ok (.aload_n 0, 1) := by decide +kernel
theorem dX8_type_80 : decode cX8_type 80 = .ok (.getfield 20, 3) := by decide +kernel
theorem dX8_type_83 : decode cX8_type 83 = .ok (.iload_n 1, 1) := by decide +kernel
theorem dX8_type_84 : decode cX8_type 84 = .ok (.iload 4, 2) := by decide +kernel
theorem dX8_type_86 : decode cX8_type 86 = .ok (.bastore, 1) := by decide +kernel
theorem dX8_type_87 : decode cX8_type 87 = .ok (.iconst 1, 1) := by decide +kernel
theorem dX8_type_88 : decode cX8_type 88 = .ok (.ireturn, 1) := by decide +kernel
theorem dX8_free_0 : decode cX8_free 0 = .ok (.iconst 0, 1) := by decide +kernel
theorem dX8_free_1 : decode cX8_free 1 = .ok (.istore_n 2, 1) := by decide +kernel
theorem dX8_free_2 : decode cX8_free 2 = .ok (.iload_n 2, 1) := by decide +kernel
theorem dX8_free_3 : decode cX8_free 3 = .ok (.sipush 400, 3) := by decide +kernel
theorem dX8_free_6 : decode cX8_free 6 = .ok (.if_icmp .ge 35, 3) := by decide +kernel
theorem dX8_free_9 : decode cX8_free 9 = .ok (.aload_n 0, 1) := by decide +kernel
theorem dX8_free_10 : decode cX8_free 10 = .ok (.getfield 51, 3) := by decide +kernel
theorem dX8_free_13 : decode cX8_free 13 = .ok (.iload_n 2, 1) := by decide +kernel
theorem dX8_free_14 : decode cX8_free 14 = .ok (.aload_n 0, 1) := by decide +kernel
theorem dX8_free_15 : decode cX8_free 15 = .ok (.getfield 51, 3) := by decide +kernel
theorem dX8_free_18 : decode cX8_free 18 = .ok (.iload_n 2, 1) := by decide +kernel
theorem dX8_free_19 : decode cX8_free 19 = .ok (.iaload, 1) := by decide +kernel
theorem dX8_free_20 : decode cX8_free 20 = .ok (.iload_n 1, 1) := by decide +kernel
theorem dX8_free_21 : decode cX8_free 21 = .ok (.if_icmp .ne 7, 3) := by decide +kernel
theorem dX8_free_24 : decode cX8_free 24 = .ok (.iconst (-1), 1) := by decide +kernel
theorem dX8_free_25 : decode cX8_free 25 = .ok (.goto 9, 3) := by decide +kernel
theorem dX8_free_28 : decode cX8_free 28 = .ok (.aload_n 0, 1) := by decide +kernel
theorem dX8_free_29 : decode cX8_free 29 = .ok (.getfield 51, 3) := by decide +kernel
theorem dX8_free_32 : decode cX8_free 32 = .ok (.iload_n 2, 1) := by decide +kernel
theorem dX8_free_33 : decode cX8_free 33 = .ok (.iaload, 1) := by decide +kernel
theorem dX8_free_34 : decode cX8_free 34 = .ok (.iastore, 1) := by decide +kernel
theorem dX8_free_35 : decode cX8_free 35 = .ok (.iinc 2 1, 3) := by decide +kernel
theorem dX8_free_38 : decode cX8_free 38 = .ok (.goto (-36), 3) := by decide +kernel
theorem dX8_free_41 : decode cX8_free 41 = .ok (.iconst 0, 1) := by decide +kernel
theorem dX8_free_42 : decode cX8_free 42 = .ok (.istore_n 2, 1) := by decide +kernel
theorem dX8_free_43 : decode cX8_free 43 = .ok (.iload_n 2, 1) := by decide +kernel
theorem dX8_free_44 : decode cX8_free 44 = .ok (.bipush 20, 2) := by decide +kernel
theorem dX8_free_46 : decode cX8_free 46 = .ok (.if_icmp .ge 35, 3) := by decide +kernel
theorem dX8_free_49 : decode cX8_free 49 = .ok (.aload_n 0, 1) := by decide +kernel
theorem dX8_free_50 : decode cX8_free 50 = .ok (.getfield 60, 3) := by decide +kernel
theorem dX8_free_53 : decode cX8_free 53 = .ok (.iload_n 2, 1) := by decide +kernel
theorem dX8_free_54 : decode cX8_free 54 = .ok (.aload_n 0, 1) := by decide +kernel
theorem dX8_free_55 : decode cX8_free 55 = .ok (.getfield 60, 3) := by decide +kernel
theorem dX8_free_58 : decode cX8_free 58 = .ok (.iload_n 2, 1) := by decide +kernel
theorem dX8_free_59 : decode cX8_free 59 = .ok (.iaload, 1) := by decide +kernel
theorem dX8_free_60 : decode cX8_free 60 = .ok (.iload_n 1, 1) := by decide +kernel
theorem dX8_free_61 : decode cX8_free 61 = .ok (.if_icmp .ne 7, 3) := by decide +kernel
theorem dX8_free_64 : decode cX8_free 64 = .ok (.iconst (-1), 1) := by decide +kernel
theorem dX8_free_65 : decode cX8_free 65 = .ok (.goto 9, 3) := by decide +kernel
theorem dX8_free_68 : decode cX8_free 68 = .ok (.aload_n 0, 1) := by decide +kernel
theorem dX8_free_69 : decode cX8_free 69 = .ok (.getfield 60, 3) := by decide +kernel
theorem dX8_free_72 : decode cX8_free 72 = .ok (.iload_n 2, 1) := by decide +kernel
theorem dX8_free_73 : decode cX8_free 73 = .ok (.iaload, 1) := by decide +kernel
theorem dX8_free_74 : decode cX8_free 74 = .ok (.iastore, 1) := by decide +kernel
theorem dX8_free_75 : decode cX8_free 75 = .ok (.iinc 2 1, 3) := by decide +kernel
theorem dX8_free_78 : decode cX8_free 78 = .ok (.goto (-35), 3) := by decide +kernel
theorem dX8_free_81 : decode cX8_free 81 = .ok (.aload_n 0, 1) := by decide +kernel
theorem dX8_free_82 : decode cX8_free 82 = .ok (.getfield 24, 3) := by decide +kernel
theorem dX8_free_85 : decode cX8_free 85 = .ok (.iload_n 1, 1) := by decide +kernel
theorem dX8_free_86 : decode cX8_free 86 = .ok (.iconst (-1), 1) := by decide +kernel
theorem dX8_free_87 : decode cX8_free 87 = .ok (.iastore, 1) := by decide +kernel
theorem dX8_free_88 : decode cX8_free 88 = .ok (.aload_n 0, 1) := by decide +kernel
theorem dX8_free_89 : decode cX8_free 89 = .ok (.getfield 45, 3) := by decide +kernel
theorem dX8_free_92 : decode cX8_free 92 = .ok (.iload_n 1, 1) := by decide +kernel
theorem dX8_free_93 : decode cX8_free 93 = .ok (.iconst 0, 1) := by decide +kernel
theorem dX8_free_94 : decode cX8_free 94 = .ok (.bastore, 1) := by decide +kernel
theorem dX8_free_95 : decode cX8_free 95 = .ok (.aload_n 0, 1) := by decide +kernel
theorem dX8_free_96 : decode cX8_free 96 = .ok (.getfield 63, 3) := by decide +kernel
theorem dX8_free_99 : decode cX8_free 99 = .ok (.aload_n 0, 1) := by decide +kernel
theorem dX8_free_100 : decode cX8_free 100 = .ok (.getfield 82, 3) := by decide +kernel
theorem dX8_free_103 : decode cX8_free 103 = .ok (.bipush 100, 2) := by decide +kernel
theorem dX8_free_105 : decode cX8_free 105 = .ok (.irem, 1) := by decide +kernel
theorem dX8_free_106 : decode cX8_free 106 = .ok (.iload_n 1, 1) := by decide +kernel
theorem dX8_free_107 : decode cX8_free 107 = .ok (.iastore, 1) := by decide +kernel
theorem dX8_free_108 : decode cX8_free 108 = .ok (.aload_n 0, 1) := by decide +kernel
theorem dX8_free_109 : decode cX8_free 109 = .ok (.dup, 1) := by decide +kernel
theorem dX8_free_110 : decode cX8_free 110 = .ok (.getfield 82, 3) := by decide +kernel
theorem dX8_free_113 : decode cX8_free 113 = .ok (.iconst 1, 1) := by decide +kernel
theorem dX8_free_114 : decode cX8_free 114 = .ok (.iadd, 1) := by decide +kernel
theorem dX8_free_115 : decode cX8_free 115 = .ok (.putfield 82, 3) := by decide +kernel
theorem dX8_free_118 : decode cX8_free 118 = .ok (.return_, 1) := by decide +kernel
theorem dX8_hasWish_0 : decode cX8_hasWish 0 = .ok (.aload_n 0, 1) := by decide +kernel
theorem dX8_hasWish_1 : decode cX8_hasWish 1 = .ok (.getfield 20, 3) := by decide +kernel
theorem dX8_hasWish_4 : decode cX8_hasWish 4 = .ok (.aload_n 0, 1) := by decide +kernel
theorem dX8_hasWish_5 : decode cX8_hasWish 5 = .ok (.getfield 24, 3) := by decide +kernel
theorem dX8_hasWish_8 : decode cX8_hasWish 8 = .ok (.iload_n 1, 1) := by decide +kernel
theorem dX8_hasWish_9 : decode cX8_hasWish 9 = .ok (.iaload, 1) := by decide +kernel
theorem dX8_hasWish_10 : decode cX8_hasWish 10 = .ok (.baload, 1) := by decide +kernel
theorem dX8_hasWish_11 : decode cX8_hasWish 11 = .ok (.ifCond .eq 16, 3) := by decide +kernel
theorem dX8_hasWish_14 : decode cX8_hasWish 14 = .ok (.aload_n 0, 1) := by decide +kernel
theorem dX8_hasWish_15 : decode cX8_hasWish 15 = .ok (.getfield 42, 3) := by decide +kernel
theorem dX8_hasWish_18 : decode cX8_hasWish 18 = .ok (.iload_n 1, 1) := by decide +kernel
theorem dX8_hasWish_19 : decode cX8_hasWish 19 = .ok (.baload, 1) := by decide +kernel
theorem dX8_hasWish_20 : decode cX8_hasWish 20 = .ok (.ifCond .ne 7, 3) := by decide +kernel
theorem dX8_hasWish_23 : decode cX8_hasWish 23 = .ok (.iconst 1, 1) := by decide +kernel
theorem dX8_hasWish_24 : decode cX8_hasWish 24 = .ok (.goto 4, 3) := by decide +kernel
theorem dX8_hasWish_27 : decode cX8_hasWish 27 = .ok (.iconst 0, 1) := by decide +kernel
theorem dX8_hasWish_28 : decode cX8_hasWish 28 = .ok (.ireturn, 1) := by decide +kernel
theorem dX8_comesToWishes_0 : decode cX8_comesToWishes 0 = .ok (.aload_n 0, 1) := by decide +kernel
theorem dX8_comesToWishes_1 : decode cX8_comesToWishes 1 = .ok (.getfield 42, 3) := by decide +kernel
theorem dX8_comesToWishes_4 : decode cX8_comesToWishes 4 = .ok (.iload_n 1, 1) := by decide +kernel
theorem dX8_comesToWishes_5 : decode cX8_comesToWishes 5 = .ok (.iconst 1, 1) := by decide +kernel
theorem dX8_comesToWishes_6 : decode cX8_comesToWishes 6 = .ok (.bastore, 1) := by decide +kernel
theorem dX8_comesToWishes_7 : decode cX8_comesToWishes 7 = .ok (.aload_n 0, 1) := by decide +kernel
theorem dX8_comesToWishes_8 : decode cX8_comesToWishes 8 = .ok (.getfield 57, 3) := by decide +kernel
theorem dX8_comesToWishes_11 : decode cX8_comesToWishes 11 = .ok (.aload_n 0, 1) := by decide +kernel
theorem dX8_comesToWishes_12 : decode cX8_comesToWishes 12 = .ok (.getfield 85, 3) := by decide +kernel
theorem dX8_comesToWishes_15 : decode cX8_comesToWishes 15 = .ok (.iload_n 1, 1) := by decide +kernel
theorem dX8_comesToWishes_16 : decode cX8_comesToWishes 16 = .ok (.iastore, 1) := by decide +kernel
theorem dX8_comesToWishes_17 : decode cX8_comesToWishes 17 = .ok (.aload_n 0, 1) := by decide +kernel
theorem dX8_comesToWishes_18 : decode cX8_comesToWishes 18 = .ok (.dup, 1) := by decide +kernel
theorem dX8_comesToWishes_19 : decode cX8_comesToWishes 19 = .ok (.getfield 85, 3) := by decide +kernel
theorem dX8_comesToWishes_22 : decode cX8_comesToWishes 22 = .ok (.iconst 1, 1) := by decide +kernel
theorem dX8_comesToWishes_23 : decode cX8_comesToWishes 23 = .ok (.iadd, 1) := by decide +kernel
theorem dX8_comesToWishes_24 : decode cX8_comesToWishes 24 = .ok (.putfield 85, 3) := by decide +kernel
theorem dX8_comesToWishes_27 : decode cX8_comesToWishes 27 = .ok (.return_, 1) := by decide +kernel
set_option maxRecDepth 20000 in
theorem ggX8_isLetGo_X8_hasWish : GoodIn wsX8_isLetGo wsX8_hasWish := goodIn_r _ [10, 11, 12, 13, 24, 25, 26, 27, 28, 29, 30, 31, 32, 33, 34, 35, 36, 37, 38, 39, 40, 41, 42, 43, 44, 45, 46, 47, 48, 49, 50, 51, 52, 53, 54] (by decide +kernel) (by decide +kernel)
set_option maxRecDepth 20000 in
theorem gX8_isLetGo_X8_hasWish : GoodIn wsX8_isLetGo (wsV RX8 91 RX8 yX8_hasWish wsX8_hasWish) := goodIn_app (goodIn_of _ (by decide +kernel)) ggX8_isLetGo_X8_hasWish
set_option maxRecDepth 20000 in
theorem ggX8_isLetGo_X8_comesToWishes : GoodIn wsX8_isLetGo wsX8_comesToWishes := goodIn_r _ [17, 13, 18, 19, 24, 25, 26, 27, 28, 29, 30, 31, 32, 33, 34, 35, 36, 37, 38, 39, 40, 41, 42, 43, 44, 45, 46, 47, 48, 49, 50, 51, 52, 53, 54] (by decide +kernel) (by decide +kernel)
set_option maxRecDepth 20000 in
theorem gX8_isLetGo_X8_comesToWishes : GoodIn wsX8_isLetGo (wsV RX8 94 RX8 yX8_comesToWishes wsX8_comesToWishes) := goodIn_app (goodIn_of _ (by decide +kernel)) ggX8_isLetGo_X8_comesToWishes
set_option maxRecDepth 20000 in
theorem ggX8_isLetGo_X8_turn : GoodIn wsX8_isLetGo wsX8_turn := goodIn_r _ [23, 2, 24, 25, 26, 27, 28, 29, 30, 31, 32, 33, 34, 35, 36, 37, 38, 39, 40, 41, 42, 43, 44, 45, 46, 47, 48, 49, 50, 51, 52, 53, 54] (by decide +kernel) (by decide +kernel)
set_option maxRecDepth 20000 in
theorem gX8_isLetGo_X8_turn : GoodIn wsX8_isLetGo (wsV RX8 98 RX8 yX8_turn wsX8_turn) := goodIn_app (goodIn_of _ (by decide +kernel)) ggX8_isLetGo_X8_turn
theorem dX8_isLetGo_0 : decode cX8_isLetGo 0 = .ok (.aload_n 0, 1) := by decide +kernel
theorem dX8_isLetGo_1 : decode cX8_isLetGo 1 = .ok (.getfield 27, 3) := by decide +kernel
theorem dX8_isLetGo_4 : decode cX8_isLetGo 4 = .ok (.iload_n 1, 1) := by decide +kernel
theorem dX8_isLetGo_5 : decode cX8_isLetGo 5 = .ok (.dup2, 1) := by decide +kernel
theorem dX8_isLetGo_6 : decode cX8_isLetGo 6 = .ok (.iaload, 1) := by decide +kernel
theorem dX8_isLetGo_7 : decode cX8_isLetGo 7 = .ok (.iconst 1, 1) := by decide +kernel
theorem dX8_isLetGo_8 : decode cX8_isLetGo 8 = .ok (.isub, 1) := by decide +kernel
theorem dX8_isLetGo_9 : decode cX8_isLetGo 9 = .ok (.iastore, 1) := by decide +kernel
theorem dX8_isLetGo_10 : decode cX8_isLetGo 10 = .ok (.aload_n 0, 1) := by decide +kernel
theorem dX8_isLetGo_11 : decode cX8_isLetGo 11 = .ok (.getfield 27, 3) := by decide +kernel
theorem dX8_isLetGo_14 : decode cX8_isLetGo 14 = .ok (.iload_n 1, 1) := by decide +kernel
theorem dX8_isLetGo_15 : decode cX8_isLetGo 15 = .ok (.iaload, 1) := by decide +kernel
theorem dX8_isLetGo_16 : decode cX8_isLetGo 16 = .ok (.ifCond .le 68, 3) := by decide +kernel
theorem dX8_isLetGo_19 : decode cX8_isLetGo 19 = .ok (.aload_n 0, 1) := by decide +kernel
theorem dX8_isLetGo_20 : decode cX8_isLetGo 20 = .ok (.getfield 30, 3) := by decide +kernel
theorem dX8_isLetGo_23 : decode cX8_isLetGo 23 = .ok (.iload_n 1, 1) := by decide +kernel
theorem dX8_isLetGo_24 : decode cX8_isLetGo 24 = .ok (.iaload, 1) := by decide +kernel
theorem dX8_isLetGo_25 : decode cX8_isLetGo 25 = .ok (.iconst 4, 1) := by decide +kernel
theorem dX8_isLetGo_26 : decode cX8_isLetGo 26 = .ok (.if_icmp .eq 56, 3) := by decide +kernel
theorem dX8_isLetGo_29 : decode cX8_isLetGo 29 = .ok (.aload_n 0, 1) := by decide +kernel
theorem dX8_isLetGo_30 : decode cX8_isLetGo 30 = .ok (.getfield 30, 3) := by decide +kernel
theorem dX8_isLetGo_33 : decode cX8_isLetGo 33 = .ok (.iload_n 1, 1) := by decide +kernel
theorem dX8_isLetGo_34 : decode cX8_isLetGo 34 = .ok (.iaload, 1) := by decide +kernel
theorem dX8_isLetGo_35 : decode cX8_isLetGo 35 = .ok (.iconst 3, 1) := by decide +kernel
theorem dX8_isLetGo_36 : decode cX8_isLetGo 36 = .ok (.if_icmp .eq 46, 3) := by decide +kernel
theorem dX8_isLetGo_39 : decode cX8_isLetGo 39 = .ok (.aload_n 0, 1) := by decide +kernel
theorem dX8_isLetGo_40 : decode cX8_isLetGo 40 = .ok (.getfield 30, 3) := by decide +kernel
theorem dX8_isLetGo_43 : decode cX8_isLetGo 43 = .ok (.iload_n 1, 1) := by decide +kernel
theorem dX8_isLetGo_44 : decode cX8_isLetGo 44 = .ok (.iconst 3, 1) := by decide +kernel
theorem dX8_isLetGo_45 : decode cX8_isLetGo 45 = .ok (.iastore, 1) := by decide +kernel
theorem dX8_isLetGo_46 : decode cX8_isLetGo 46 = .ok (.aload_n 0, 1) := by decide +kernel
theorem dX8_isLetGo_47 : decode cX8_isLetGo 47 = .ok (.getfield 39, 3) := by decide +kernel
theorem dX8_isLetGo_50 : decode cX8_isLetGo 50 = .ok (.iload_n 1, 1) := by decide +kernel
theorem dX8_isLetGo_51 : decode cX8_isLetGo 51 = .ok (.baload, 1) := by decide +kernel
theorem dX8_isLetGo_52 : decode cX8_isLetGo 52 = .ok (.ifCond .ne 30, 3) := by decide +kernel
theorem dX8_isLetGo_55 : decode cX8_isLetGo 55 = .ok (.aload_n 0, 1) := by decide +kernel
theorem dX8_isLetGo_56 : decode cX8_isLetGo 56 = .ok (.getfield 39, 3) := by decide +kernel
theorem dX8_isLetGo_59 : decode cX8_isLetGo 59 = .ok (.iload_n 1, 1) := by decide +kernel
theorem dX8_isLetGo_60 : decode cX8_isLetGo 60 = .ok (.iconst 1, 1) := by decide +kernel
theorem dX8_isLetGo_61 : decode cX8_isLetGo 61 = .ok (.bastore, 1) := by decide +kernel
theorem dX8_isLetGo_62 : decode cX8_isLetGo 62 = .ok (.aload_n 0, 1) := by decide +kernel
theorem dX8_isLetGo_63 : decode cX8_isLetGo 63 = .ok (.getfield 54, 3) := by decide +kernel
theorem dX8_isLetGo_66 : decode cX8_isLetGo 66 = .ok (.aload_n 0, 1) := by decide +kernel
theorem dX8_isLetGo_67 : decode cX8_isLetGo 67 = .ok (.getfield 88, 3) := by decide +kernel
theorem dX8_isLetGo_70 : decode cX8_isLetGo 70 = .ok (.iload_n 1, 1) := by decide +kernel
theorem dX8_isLetGo_71 : decode cX8_isLetGo 71 = .ok (.iastore, 1) := by decide +kernel
theorem dX8_isLetGo_72 : decode cX8_isLetGo 72 = .ok (.aload_n 0, 1) := by decide +kernel
theorem dX8_isLetGo_73 : decode cX8_isLetGo 73 = .ok (.dup, 1) := by decide +kernel
theorem dX8_isLetGo_74 : decode cX8_isLetGo 74 = .ok (.getfield 88, 3) := by decide +kernel
theorem dX8_isLetGo_77 : decode cX8_isLetGo 77 = .ok (.iconst 1, 1) := by decide +kernel
theorem dX8_isLetGo_78 : decode cX8_isLetGo 78 = .ok (.iadd, 1) := by decide +kernel
theorem dX8_isLetGo_79 : decode cX8_isLetGo 79 = .ok (.putfield 88, 3) := by decide +kernel
theorem dX8_isLetGo_82 : decode cX8_isLetGo 82 = .ok (.iconst 0, 1) := by decide +kernel
theorem dX8_isLetGo_83 : decode cX8_isLetGo 83 = .ok (.ireturn, 1) := by decide +kernel
theorem dX8_isLetGo_84 : decode cX8_isLetGo 84 = .ok (.aload_n 0, 1) := by decide +kernel
theorem dX8_isLetGo_85 : decode cX8_isLetGo 85 = .ok (.iload_n 1, 1) := by decide +kernel
theorem dX8_isLetGo_86 : decode cX8_isLetGo 86 = .ok (.invokevirtual 91, 3) := by decide +kernel
theorem dX8_isLetGo_89 : decode cX8_isLetGo 89 = .ok (.ifCond .ne 5, 3) := by decide +kernel
theorem dX8_isLetGo_92 : decode cX8_isLetGo 92 = .ok (.iconst 1, 1) := by decide +kernel
theorem dX8_isLetGo_93 : decode cX8_isLetGo 93 = .ok (.ireturn, 1) := by decide +kernel
theorem dX8_isLetGo_94 : decode cX8_isLetGo 94 = .ok (.aload_n 0, 1) := by decide +kernel
theorem dX8_isLetGo_95 : decode cX8_isLetGo 95 = .ok (.iload_n 1, 1) := by decide +kernel
theorem dX8_isLetGo_96 : decode cX8_isLetGo 96 = .ok (.invokevirtual 94, 3) := by decide +kernel
theorem dX8_isLetGo_99 : decode cX8_isLetGo 99 = .ok (.aload_n 0, 1) := by decide +kernel
theorem dX8_isLetGo_100 : decode cX8_isLetGo 100 = .ok (.getfield 27, 3) := by decide +kernel
theorem dX8_isLetGo_103 : decode cX8_isLetGo 103 = .ok (.iload_n 1, 1) := by decide +kernel
theorem dX8_isLetGo_104 : decode cX8_isLetGo 104 = .ok (.iconst 1, 1) := by decide +kernel
theorem dX8_isLetGo_105 : decode cX8_isLetGo 105 = .ok (.iastore, 1) := by decide +kernel
theorem dX8_isLetGo_106 : decode cX8_isLetGo 106 = .ok (.aload_n 0, 1) := by decide +kernel
theorem dX8_isLetGo_107 : decode cX8_isLetGo 107 = .ok (.iload_n 1, 1) := by decide +kernel
theorem dX8_isLetGo_108 : decode cX8_isLetGo 108 = .ok (.iconst 0, 1) := by decide +kernel
theorem dX8_isLetGo_109 : decode cX8_isLetGo 109 = .ok (.invokevirtual 98, 3) := by decide +kernel
theorem dX8_isLetGo_112 : decode cX8_isLetGo 112 = .ok (.iconst 0, 1) := by decide +kernel
theorem dX8_isLetGo_113 : decode cX8_isLetGo 113 = .ok (.ireturn, 1) := by decide +kernel
set_option maxRecDepth 20000 in
theorem ggX8_less_X8_isLetGo : GoodIn wsX8_less wsX8_isLetGo := goodIn_r _ [11, 12, 13, 5, 14, 15, 16, 17, 18, 10, 19, 20, 21, 22, 23, 24, 25, 26, 27, 28, 29, 30, 31, 32, 46, 47, 48, 49, 50, 51, 52, 53, 54, 55, 56, 57, 58, 59, 60, 61, 62, 63, 64, 65, 66, 67, 68, 69, 70, 71, 72, 73, 74, 75, 76] (by decide +kernel) (by decide +kernel)
set_option maxRecDepth 20000 in
theorem gX8_less_X8_isLetGo : GoodIn wsX8_less (wsV RX8 102 RX8 yX8_isLetGo wsX8_isLetGo) := goodIn_app (goodIn_of _ (by decide +kernel)) ggX8_less_X8_isLetGo
set_option maxRecDepth 20000 in
theorem ggX8_less_X8_fieldsOf : GoodIn wsX8_less wsX8_fieldsOf := goodIn_r _ [36, 37, 21, 46, 47, 48, 49, 50, 51, 52, 53, 54, 55, 56, 57, 58, 59, 60, 61, 62, 63, 64, 65, 66, 67, 68, 69, 70, 71, 72, 73, 74, 75, 76] (by decide +kernel) (by decide +kernel)
set_option maxRecDepth 20000 in
theorem gX8_less_X8_fieldsOf : GoodIn wsX8_less (wsV RX8 108 RX8 yX8_fieldsOf wsX8_fieldsOf) := goodIn_app (goodIn_of _ (by decide +kernel)) ggX8_less_X8_fieldsOf
set_option maxRecDepth 20000 in
theorem ggX8_less_X8_turn : GoodIn wsX8_less wsX8_turn := goodIn_r _ [32, 13, 46, 47, 48, 49, 50, 51, 52, 53, 54, 55, 56, 57, 58, 59, 60, 61, 62, 63, 64, 65, 66, 67, 68, 69, 70, 71, 72, 73, 74, 75, 76] (by decide +kernel) (by decide +kernel)
set_option maxRecDepth 20000 in
theorem gX8_less_X8_turn : GoodIn wsX8_less (wsV RX8 98 RX8 yX8_turn wsX8_turn) := goodIn_app (goodIn_of _ (by decide +kernel)) ggX8_less_X8_turn
set_option maxRecDepth 20000 in
theorem ggX8_less_X8_free : GoodIn wsX8_less wsX8_free := goodIn_r _ [41, 42, 43, 21, 6, 44, 45, 46, 47, 48, 49, 50, 51, 52, 53, 54, 55, 56, 57, 58, 59, 60, 61, 62, 63, 64, 65, 66, 67, 68, 69, 70, 71, 72, 73, 74, 75, 76] (by decide +kernel) (by decide +kernel)
set_option maxRecDepth 20000 in
theorem gX8_less_X8_free : GoodIn wsX8_less (wsV RX8 112 RX8 yX8_free wsX8_free) := goodIn_app (goodIn_of _ (by decide +kernel)) ggX8_less_X8_free
theorem dX8_less_0 : decode cX8_less 0 = .ok (.aload_n 0, 1) := by decide +kernel
theorem dX8_less_1 : decode cX8_less 1 = .ok (.iload_n 1, 1) := by decide +kernel
theorem dX8_less_2 : decode cX8_less 2 = .ok (.invokevirtual 102, 3) := by decide +kernel
theorem dX8_less_5 : decode cX8_less 5 = .ok (.ifCond .ne 4, 3) := by decide +kernel
theorem dX8_less_8 : decode cX8_less 8 = .ok (.return_, 1) := by decide +kernel
theorem dX8_less_9 : decode cX8_less 9 = .ok (.aload_n 0, 1) := by decide +kernel
theorem dX8_less_10 : decode cX8_less 10 = .ok (.iconst 1, 1) := by decide +kernel
theorem dX8_less_11 : decode cX8_less 11 = .ok (.putfield 105, 3) := by decide +kernel
theorem dX8_less_14 : decode cX8_less 14 = .ok (.aload_n 0, 1) := by decide +kernel
theorem dX8_less_15 : decode cX8_less 15 = .ok (.getfield 66, 3) := by decide +kernel
theorem dX8_less_18 : decode cX8_less 18 = .ok (.iconst 0, 1) := by decide +kernel
theorem dX8_less_19 : decode cX8_less 19 = .ok (.iload_n 1, 1) := by decide +kernel
theorem dX8_less_20 : decode cX8_less 20 = .ok (.iastore, 1) := by decide +kernel
theorem dX8_less_21 : decode cX8_less 21 = .ok (.aload_n 0, 1) := by decide +kernel
theorem dX8_less_22 : decode cX8_less 22 = .ok (.getfield 69, 3) := by decide +kernel
theorem dX8_less_25 : decode cX8_less 25 = .ok (.iconst 0, 1) := by decide +kernel
theorem dX8_less_26 : decode cX8_less 26 = .ok (.iconst 0, 1) := by decide +kernel
theorem dX8_less_27 : decode cX8_less 27 = .ok (.iastore, 1) := by decide +kernel
theorem dX8_less_28 : decode cX8_less 28 = .ok (.aload_n 0, 1) := by decide +kernel
theorem dX8_less_29 : decode cX8_less 29 = .ok (.getfield 105, 3) := by decide +kernel
theorem dX8_less_32 : decode cX8_less 32 = .ok (.ifCond .le 162, 3) := by decide +kernel
theorem dX8_less_35 : decode cX8_less 35 = .ok (.aload_n 0, 1) := by decide +kernel
theorem dX8_less_36 : decode cX8_less 36 = .ok (.getfield 105, 3) := by decide +kernel
theorem dX8_less_39 : decode cX8_less 39 = .ok (.iconst 1, 1) := by decide +kernel
theorem dX8_less_40 : decode cX8_less 40 = .ok (.isub, 1) := by decide +kernel
theorem dX8_less_41 : decode cX8_less 41 = .ok (.istore_n 2, 1) := by decide +kernel
theorem dX8_less_42 : decode cX8_less 42 = .ok (.aload_n 0, 1) := by decide +kernel
theorem dX8_less_43 : decode cX8_less 43 = .ok (.getfield 66, 3) := by decide +kernel
theorem dX8_less_46 : decode cX8_less 46 = .ok (.iload_n 2, 1) := by decide +kernel
theorem dX8_less_47 : decode cX8_less 47 = .ok (.iaload, 1) := by decide +kernel
theorem dX8_less_48 : decode cX8_less 48 = .ok (.istore_n 3, 1) := by decide +kernel
theorem dX8_less_49 : decode cX8_less 49 = .ok (.aload_n 0, 1) := by decide +kernel
theorem dX8_less_50 : decode cX8_less 50 = .ok (.getfield 69, 3) := by decide +kernel
theorem dX8_less_53 : decode cX8_less 53 = .ok (.iload_n 2, 1) := by decide +kernel
theorem dX8_less_54 : decode cX8_less 54 = .ok (.iaload, 1) := by decide +kernel
theorem dX8_less_55 : decode cX8_less 55 = .ok (.aload_n 0, 1) := by decide +kernel
theorem dX8_less_56 : decode cX8_less 56 = .ok (.iload_n 3, 1) := by decide +kernel
theorem dX8_less_57 : decode cX8_less 57 = .ok (.invokevirtual 108, 3) := by decide +kernel
theorem dX8_less_60 : decode cX8_less 60 = .ok (.if_icmp .ge 91, 3) := by decide +kernel
theorem dX8_less_63 : decode cX8_less 63 = .ok (.bipush 6, 2) := by decide +kernel
theorem dX8_less_65 : decode cX8_less 65 = .ok (.iload_n 3, 1) := by decide +kernel
theorem dX8_less_66 : decode cX8_less 66 = .ok (.imul, 1) := by decide +kernel
theorem dX8_less_67 : decode cX8_less 67 = .ok (.aload_n 0, 1) := by decide +kernel
theorem dX8_less_68 : decode cX8_less 68 = .ok (.getfield 69, 3) := by decide +kernel
theorem dX8_less_71 : decode cX8_less 71 = .ok (.iload_n 2, 1) := by decide +kernel
theorem dX8_less_72 : decode cX8_less 72 = .ok (.iaload, 1) := by decide +kernel
theorem dX8_less_73 : decode cX8_less 73 = .ok (.iadd, 1) := by decide +kernel
theorem dX8_less_74 : decode cX8_less 74 = .ok (.istore 4, 2) := by decide +kernel
theorem dX8_less_76 : decode cX8_less 76 = .ok (.aload_n 0, 1) := by decide +kernel
theorem dX8_less_77 : decode cX8_less 77 = .ok (.getfield 69, 3) := by decide +kernel
theorem dX8_less_80 : decode cX8_less 80 = .ok (.iload_n 2, 1) := by decide +kernel
theorem dX8_less_81 : decode cX8_less 81 = .ok (.dup2, 1) := by decide +kernel
theorem dX8_less_82 : decode cX8_less 82 = .ok (.iaload, 1) := by decide +kernel
theorem dX8_less_83 : decode cX8_less 83 = .ok (.iconst 1, 1) := by decide +kernel
theorem dX8_less_84 : decode cX8_less 84 = .ok (.iadd, 1) := by decide +kernel
theorem dX8_less_85 : decode cX8_less 85 = .ok (.iastore, 1) := by decide +kernel
theorem dX8_less_86 : decode cX8_less 86 = .ok (.aload_n 0, 1) := by decide +kernel
theorem dX8_less_87 : decode cX8_less 87 = .ok (.getfield 48, 3) := by decide +kernel
theorem dX8_less_90 : decode cX8_less 90 = .ok (.iload 4, 2) := by decide +kernel
theorem dX8_less_92 : decode cX8_less 92 = .ok (.iaload, 1) := by decide +kernel
theorem dX8_less_93 : decode cX8_less 93 = .ok (.istore 5, 2) := by decide +kernel
theorem dX8_less_95 : decode cX8_less 95 = .ok (.aload_n 0, 1) := by decide +kernel
theorem dX8_less_96 : decode cX8_less 96 = .ok (.getfield 48, 3) := by decide +kernel
theorem dX8_less_99 : decode cX8_less 99 = .ok (.iload 4, 2) := by decide +kernel
theorem dX8_less_101 : decode cX8_less 101 = .ok (.iconst (-1), 1) := by decide +kernel
theorem dX8_less_102 : decode cX8_less 102 = .ok (.iastore, 1) := by decide +kernel
theorem dX8_less_103 : decode cX8_less 103 = .ok (.iload 5, 2) := by decide +kernel
theorem dX8_less_105 : decode cX8_less 105 = .ok (.ifCond .lt 43, 3) := by decide +kernel
theorem dX8_less_108 : decode cX8_less 108 = .ok (.aload_n 0, 1) := by decide +kernel
theorem dX8_less_109 : decode cX8_less 109 = .ok (.iload 5, 2) := by decide +kernel
theorem dX8_less_111 : decode cX8_less 111 = .ok (.invokevirtual 102, 3) := by decide +kernel
theorem dX8_less_114 : decode cX8_less 114 = .ok (.ifCond .eq 34, 3) := by decide +kernel
theorem dX8_less_117 : decode cX8_less 117 = .ok (.aload_n 0, 1) := by decide +kernel
theorem dX8_less_118 : decode cX8_less 118 = .ok (.getfield 66, 3) := by decide +kernel
theorem dX8_less_121 : decode cX8_less 121 = .ok (.aload_n 0, 1) := by decide +kernel
theorem dX8_less_122 : decode cX8_less 122 = .ok (.getfield 105, 3) := by decide +kernel
theorem dX8_less_125 : decode cX8_less 125 = .ok (.iload 5, 2) := by decide +kernel
theorem dX8_less_127 : decode cX8_less 127 = .ok (.iastore, 1) := by decide +kernel
theorem dX8_less_128 : decode cX8_less 128 = .ok (.aload_n 0, 1) := by decide +kernel
theorem dX8_less_129 : decode cX8_less 129 = .ok (.getfield 69, 3) := by decide +kernel
theorem dX8_less_132 : decode cX8_less 132 = .ok (.aload_n 0, 1) := by decide +kernel
theorem dX8_less_133 : decode cX8_less 133 = .ok (.getfield 105, 3) := by decide +kernel
theorem dX8_less_136 : decode cX8_less 136 = .ok (.iconst 0, 1) := by decide +kernel
theorem dX8_less_137 : decode cX8_less 137 = .ok (.iastore, 1) := by decide +kernel
theorem dX8_less_138 : decode cX8_less 138 = .ok (.aload_n 0, 1) := by decide +kernel
theorem dX8_less_139 : decode cX8_less 139 = .ok (.dup, 1) := by decide +kernel
theorem dX8_less_140 : decode cX8_less 140 = .ok (.getfield 105, 3) := by decide +kernel
theorem dX8_less_143 : decode cX8_less 143 = .ok (.iconst 1, 1) := by decide +kernel
theorem dX8_less_144 : decode cX8_less 144 = .ok (.iadd, 1) := by decide +kernel
theorem dX8_less_145 : decode cX8_less 145 = .ok (.putfield 105, 3) := by decide +kernel
theorem dX8_less_148 : decode cX8_less 148 = .ok (.goto 43, 3) := by decide +kernel
theorem dX8_less_151 : decode cX8_less 151 = .ok (.aload_n 0, 1) := by decide +kernel
theorem dX8_less_152 : decode cX8_less 152 = .ok (.dup, 1) := by decide +kernel
theorem dX8_less_153 : decode cX8_less 153 = .ok (.getfield 105, 3) := by decide +kernel
theorem dX8_less_156 : decode cX8_less 156 = .ok (.iconst 1, 1) := by decide +kernel
theorem dX8_less_157 : decode cX8_less 157 = .ok (.isub, 1) := by decide +kernel
theorem dX8_less_158 : decode cX8_less 158 = .ok (.putfield 105, 3) := by decide +kernel
theorem dX8_less_161 : decode cX8_less 161 = .ok (.aload_n 0, 1) := by decide +kernel
theorem dX8_less_162 : decode cX8_less 162 = .ok (.iload_n 3, 1) := by decide +kernel
theorem dX8_less_163 : decode cX8_less 163 = .ok (.iconst 0, 1) := by decide +kernel
theorem dX8_less_164 : decode cX8_less 164 = .ok (.invokevirtual 98, 3) := by decide +kernel
theorem dX8_less_167 : decode cX8_less 167 = .ok (.aload_n 0, 1) := by decide +kernel
theorem dX8_less_168 : decode cX8_less 168 = .ok (.getfield 39, 3) := by decide +kernel
theorem dX8_less_171 : decode cX8_less 171 = .ok (.iload_n 3, 1) := by decide +kernel
theorem dX8_less_172 : decode cX8_less 172 = .ok (.baload, 1) := by decide +kernel
theorem dX8_less_173 : decode cX8_less 173 = .ok (.ifCond .eq 13, 3) := by decide +kernel
theorem dX8_less_176 : decode cX8_less 176 = .ok (.aload_n 0, 1) := by decide +kernel
theorem dX8_less_177 : decode cX8_less 177 = .ok (.getfield 45, 3) := by decide +kernel
theorem dX8_less_180 : decode cX8_less 180 = .ok (.iload_n 3, 1) := by decide +kernel
theorem dX8_less_181 : decode cX8_less 181 = .ok (.iconst 1, 1) := by decide +kernel
theorem dX8_less_182 : decode cX8_less 182 = .ok (.bastore, 1) := by decide +kernel
theorem dX8_less_183 : decode cX8_less 183 = .ok (.goto 8, 3) := by decide +kernel
theorem dX8_less_186 : decode cX8_less 186 = .ok (.aload_n 0, 1) := by decide +kernel
theorem dX8_less_187 : decode cX8_less 187 = .ok (.iload_n 3, 1) := by decide +kernel
theorem dX8_less_188 : decode cX8_less 188 = .ok (.invokevirtual 112, 3) := by decide +kernel
theorem dX8_less_191 : decode cX8_less 191 = .ok (.goto (-163), 3) := by decide +kernel
theorem dX8_less_194 : decode cX8_less 194 = .ok (.return_, 1) := by decide +kernel
set_option maxRecDepth 20000 in
theorem ggX8_more_X8_turn : GoodIn wsX8_more wsX8_turn := goodIn_r _ [6, 7, 8, 9, 10, 11, 12, 13, 14, 15, 16, 17, 18, 19, 20, 21, 22, 23, 24, 25, 26, 27, 28, 29, 30, 31, 32, 33, 34, 35, 36, 37, 38] (by decide +kernel) (by decide +kernel)
set_option maxRecDepth 20000 in
theorem gX8_more_X8_turn : GoodIn wsX8_more (wsV RX8 98 RX8 yX8_turn wsX8_turn) := goodIn_app (goodIn_of _ (by decide +kernel)) ggX8_more_X8_turn
theorem dX8_more_0 : decode cX8_more 0 = .ok (.aload_n 0, 1) := by decide +kernel
theorem dX8_more_1 : decode cX8_more 1 = .ok (.getfield 27, 3) := by decide +kernel
theorem dX8_more_4 : decode cX8_more 4 = .ok (.iload_n 1, 1) := by decide +kernel
theorem dX8_more_5 : decode cX8_more 5 = .ok (.dup2, 1) := by decide +kernel
theorem dX8_more_6 : decode cX8_more 6 = .ok (.iaload, 1) := by decide +kernel
theorem dX8_more_7 : decode cX8_more 7 = .ok (.iconst 1, 1) := by decide +kernel
theorem dX8_more_8 : decode cX8_more 8 = .ok (.iadd, 1) := by decide +kernel
theorem dX8_more_9 : decode cX8_more 9 = .ok (.iastore, 1) := by decide +kernel
theorem dX8_more_10 : decode cX8_more 10 = .ok (.aload_n 0, 1) := by decide +kernel
theorem dX8_more_11 : decode cX8_more 11 = .ok (.iload_n 1, 1) := by decide +kernel
theorem dX8_more_12 : decode cX8_more 12 = .ok (.iconst 0, 1) := by decide +kernel
theorem dX8_more_13 : decode cX8_more 13 = .ok (.invokevirtual 98, 3) := by decide +kernel
theorem dX8_more_16 : decode cX8_more 16 = .ok (.return_, 1) := by decide +kernel
set_option maxRecDepth 20000 in
theorem ggX8_gray_X8_grayOne : GoodIn wsX8_gray wsX8_grayOne := goodIn_r _ [10, 4, 11, 2, 1, 18, 19, 20, 21, 22, 23, 24, 25, 26, 27, 28, 29, 30, 31, 32, 33, 34, 35, 36, 37, 38, 39, 40, 41, 42, 43, 44, 45, 46, 47, 48] (by decide +kernel) (by decide +kernel)
set_option maxRecDepth 20000 in
theorem gX8_gray_X8_grayOne : GoodIn wsX8_gray (wsV RX8 115 RX8 yX8_grayOne wsX8_grayOne) := goodIn_app (goodIn_of _ (by decide +kernel)) ggX8_gray_X8_grayOne
set_option maxRecDepth 20000 in
theorem ggX8_gray_X8_fieldsOf : GoodIn wsX8_gray wsX8_fieldsOf := goodIn_r _ [15, 16, 17, 18, 19, 20, 21, 22, 23, 24, 25, 26, 27, 28, 29, 30, 31, 32, 33, 34, 35, 36, 37, 38, 39, 40, 41, 42, 43, 44, 45, 46, 47, 48] (by decide +kernel) (by decide +kernel)
set_option maxRecDepth 20000 in
theorem gX8_gray_X8_fieldsOf : GoodIn wsX8_gray (wsV RX8 108 RX8 yX8_fieldsOf wsX8_fieldsOf) := goodIn_app (goodIn_of _ (by decide +kernel)) ggX8_gray_X8_fieldsOf
theorem dX8_gray_0 : decode cX8_gray 0 = .ok (.aload_n 0, 1) := by decide +kernel
theorem dX8_gray_1 : decode cX8_gray 1 = .ok (.iconst 0, 1) := by decide +kernel
theorem dX8_gray_2 : decode cX8_gray 2 = .ok (.putfield 105, 3) := by decide +kernel
theorem dX8_gray_5 : decode cX8_gray 5 = .ok (.aload_n 0, 1) := by decide +kernel
theorem dX8_gray_6 : decode cX8_gray 6 = .ok (.iload_n 1, 1) := by decide +kernel
theorem dX8_gray_7 : decode cX8_gray 7 = .ok (.invokevirtual 115, 3) := by decide +kernel
theorem dX8_gray_10 : decode cX8_gray 10 = .ok (.aload_n 0, 1) := by decide +kernel
theorem dX8_gray_11 : decode cX8_gray 11 = .ok (.getfield 105, 3) := by decide +kernel
theorem dX8_gray_14 : decode cX8_gray 14 = .ok (.ifCond .le 89, 3) := by decide +kernel
theorem dX8_gray_17 : decode cX8_gray 17 = .ok (.aload_n 0, 1) := by decide +kernel
theorem dX8_gray_18 : decode cX8_gray 18 = .ok (.dup, 1) := by decide +kernel
theorem dX8_gray_19 : decode cX8_gray 19 = .ok (.getfield 105, 3) := by decide +kernel
theorem dX8_gray_22 : decode cX8_gray 22 = .ok (.iconst 1, 1) := by decide +kernel
theorem dX8_gray_23 : decode cX8_gray 23 = .ok (.isub, 1) := by decide +kernel
theorem dX8_gray_24 : decode cX8_gray 24 = .ok (.putfield 105, 3) := by decide +kernel
theorem dX8_gray_27 : decode cX8_gray 27 = .ok (.aload_n 0, 1) := by decide +kernel
theorem dX8_gray_28 : decode cX8_gray 28 = .ok (.getfield 66, 3) := by decide +kernel
theorem dX8_gray_31 : decode cX8_gray 31 = .ok (.aload_n 0, 1) := by decide +kernel
theorem dX8_gray_32 : decode cX8_gray 32 = .ok (.getfield 105, 3) := by decide +kernel
theorem dX8_gray_35 : decode cX8_gray 35 = .ok (.iaload, 1) := by decide +kernel
theorem dX8_gray_36 : decode cX8_gray 36 = .ok (.istore_n 2, 1) := by decide +kernel
theorem dX8_gray_37 : decode cX8_gray 37 = .ok (.iconst 0, 1) := by decide +kernel
theorem dX8_gray_38 : decode cX8_gray 38 = .ok (.istore_n 3, 1) := by decide +kernel
theorem dX8_gray_39 : decode cX8_gray 39 = .ok (.iload_n 3, 1) := by decide +kernel
theorem dX8_gray_40 : decode cX8_gray 40 = .ok (.aload_n 0, 1) := by decide +kernel
theorem dX8_gray_41 : decode cX8_gray 41 = .ok (.iload_n 2, 1) := by decide +kernel
theorem dX8_gray_42 : decode cX8_gray 42 = .ok (.invokevirtual 108, 3) := by decide +kernel
theorem dX8_gray_45 : decode cX8_gray 45 = .ok (.if_icmp .ge 55, 3) := by decide +kernel
theorem dX8_gray_48 : decode cX8_gray 48 = .ok (.aload_n 0, 1) := by decide +kernel
theorem dX8_gray_49 : decode cX8_gray 49 = .ok (.getfield 48, 3) := by decide +kernel
theorem dX8_gray_52 : decode cX8_gray 52 = .ok (.bipush 6, 2) := by decide +kernel
theorem dX8_gray_54 : decode cX8_gray 54 = .ok (.iload_n 2, 1) := by decide +kernel
theorem dX8_gray_55 : decode cX8_gray 55 = .ok (.imul, 1) := by decide +kernel
theorem dX8_gray_56 : decode cX8_gray 56 = .ok (.iload_n 3, 1) := by decide +kernel
theorem dX8_gray_57 : decode cX8_gray 57 = .ok (.iadd, 1) := by decide +kernel
theorem dX8_gray_58 : decode cX8_gray 58 = .ok (.iaload, 1) := by decide +kernel
theorem dX8_gray_59 : decode cX8_gray 59 = .ok (.istore 4, 2) := by decide +kernel
theorem dX8_gray_61 : decode cX8_gray 61 = .ok (.iload 4, 2) := by decide +kernel
theorem dX8_gray_63 : decode cX8_gray 63 = .ok (.ifCond .lt 31, 3) := by decide +kernel
theorem dX8_gray_66 : decode cX8_gray 66 = .ok (.aload_n 0, 1) := by decide +kernel
theorem dX8_gray_67 : decode cX8_gray 67 = .ok (.getfield 30, 3) := by decide +kernel
theorem dX8_gray_70 : decode cX8_gray 70 = .ok (.iload 4, 2) := by decide +kernel
theorem dX8_gray_72 : decode cX8_gray 72 = .ok (.iaload, 1) := by decide +kernel
theorem dX8_gray_73 : decode cX8_gray 73 = .ok (.iconst 4, 1) := by decide +kernel
theorem dX8_gray_74 : decode cX8_gray 74 = .ok (.if_icmp .eq 20, 3) := by decide +kernel
theorem dX8_gray_77 : decode cX8_gray 77 = .ok (.aload_n 0, 1) := by decide +kernel
theorem dX8_gray_78 : decode cX8_gray 78 = .ok (.getfield 27, 3) := by decide +kernel
theorem dX8_gray_81 : decode cX8_gray 81 = .ok (.iload 4, 2) := by decide +kernel
theorem dX8_gray_83 : decode cX8_gray 83 = .ok (.dup2, 1) := by decide +kernel
theorem dX8_gray_84 : decode cX8_gray 84 = .ok (.iaload, 1) := by decide +kernel
theorem dX8_gray_85 : decode cX8_gray 85 = .ok (.iconst 1, 1) := by decide +kernel
theorem dX8_gray_86 : decode cX8_gray 86 = .ok (.isub, 1) := by decide +kernel
theorem dX8_gray_87 : decode cX8_gray 87 = .ok (.iastore, 1) := by decide +kernel
theorem dX8_gray_88 : decode cX8_gray 88 = .ok (.aload_n 0, 1) := by decide +kernel
theorem dX8_gray_89 : decode cX8_gray 89 = .ok (.iload 4, 2) := by decide +kernel
theorem dX8_gray_91 : decode cX8_gray 91 = .ok (.invokevirtual 115, 3) := by decide +kernel
theorem dX8_gray_94 : decode cX8_gray 94 = .ok (.iinc 3 1, 3) := by decide +kernel
theorem dX8_gray_97 : decode cX8_gray 97 = .ok (.goto (-58), 3) := by decide +kernel
theorem dX8_gray_100 : decode cX8_gray 100 = .ok (.goto (-90), 3) := by decide +kernel
theorem dX8_gray_103 : decode cX8_gray 103 = .ok (.return_, 1) := by decide +kernel
theorem dX8_grayOne_0 : decode cX8_grayOne 0 = .ok (.aload_n 0, 1) := by decide +kernel
theorem dX8_grayOne_1 : decode cX8_grayOne 1 = .ok (.getfield 30, 3) := by decide +kernel
theorem dX8_grayOne_4 : decode cX8_grayOne 4 = .ok (.iload_n 1, 1) := by decide +kernel
theorem dX8_grayOne_5 : decode cX8_grayOne 5 = .ok (.iaload, 1) := by decide +kernel
theorem dX8_grayOne_6 : decode cX8_grayOne 6 = .ok (.iconst 1, 1) := by decide +kernel
theorem dX8_grayOne_7 : decode cX8_grayOne 7 = .ok (.if_icmp .eq 50, 3) := by decide +kernel
theorem dX8_grayOne_10 : decode cX8_grayOne 10 = .ok (.aload_n 0, 1) := by decide +kernel
theorem dX8_grayOne_11 : decode cX8_grayOne 11 = .ok (.getfield 30, 3) := by decide +kernel
theorem dX8_grayOne_14 : decode cX8_grayOne 14 = .ok (.iload_n 1, 1) := by decide +kernel
theorem dX8_grayOne_15 : decode cX8_grayOne 15 = .ok (.iaload, 1) := by decide +kernel
theorem dX8_grayOne_16 : decode cX8_grayOne 16 = .ok (.iconst 4, 1) := by decide +kernel
theorem dX8_grayOne_17 : decode cX8_grayOne 17 = .ok (.if_icmp .eq 40, 3) := by decide +kernel
theorem dX8_grayOne_20 : decode cX8_grayOne 20 = .ok (.aload_n 0, 1) := by decide +kernel
theorem dX8_grayOne_21 : decode cX8_grayOne 21 = .ok (.getfield 30, 3) := by decide +kernel
theorem dX8_grayOne_24 : decode cX8_grayOne 24 = .ok (.iload_n 1, 1) := by decide +kernel
theorem dX8_grayOne_25 : decode cX8_grayOne 25 = .ok (.iconst 1, 1) := by decide +kernel
theorem dX8_grayOne_26 : decode cX8_grayOne 26 = .ok (.iastore, 1) := by decide +kernel
theorem dX8_grayOne_27 : decode cX8_grayOne 27 = .ok (.aload_n 0, 1) := by decide +kernel
theorem dX8_grayOne_28 : decode cX8_grayOne 28 = .ok (.dup, 1) := by decide +kernel
theorem dX8_grayOne_29 : decode cX8_grayOne 29 = .ok (.getfield 118, 3) := by decide +kernel
theorem dX8_grayOne_32 : decode cX8_grayOne 32 = .ok (.iconst 1, 1) := by decide +kernel
theorem dX8_grayOne_33 : decode cX8_grayOne 33 = .ok (.iadd, 1) := by decide +kernel
theorem dX8_grayOne_34 : decode cX8_grayOne 34 = .ok (.putfield 118, 3) := by decide +kernel
theorem dX8_grayOne_37 : decode cX8_grayOne 37 = .ok (.aload_n 0, 1) := by decide +kernel
theorem dX8_grayOne_38 : decode cX8_grayOne 38 = .ok (.getfield 66, 3) := by decide +kernel
theorem dX8_grayOne_41 : decode cX8_grayOne 41 = .ok (.aload_n 0, 1) := by decide +kernel
theorem dX8_grayOne_42 : decode cX8_grayOne 42 = .ok (.getfield 105, 3) := by decide +kernel
theorem dX8_grayOne_45 : decode cX8_grayOne 45 = .ok (.iload_n 1, 1) := by decide +kernel
theorem dX8_grayOne_46 : decode cX8_grayOne 46 = .ok (.iastore, 1) := by decide +kernel
theorem dX8_grayOne_47 : decode cX8_grayOne 47 = .ok (.aload_n 0, 1) := by decide +kernel
theorem dX8_grayOne_48 : decode cX8_grayOne 48 = .ok (.dup, 1) := by decide +kernel
theorem dX8_grayOne_49 : decode cX8_grayOne 49 = .ok (.getfield 105, 3) := by decide +kernel
theorem dX8_grayOne_52 : decode cX8_grayOne 52 = .ok (.iconst 1, 1) := by decide +kernel
theorem dX8_grayOne_53 : decode cX8_grayOne 53 = .ok (.iadd, 1) := by decide +kernel
theorem dX8_grayOne_54 : decode cX8_grayOne 54 = .ok (.putfield 105, 3) := by decide +kernel
theorem dX8_grayOne_57 : decode cX8_grayOne 57 = .ok (.return_, 1) := by decide +kernel
set_option maxRecDepth 20000 in
theorem ggX8_blacken_X8_turn : GoodIn wsX8_blacken wsX8_turn := goodIn_r _ [10, 4, 17, 18, 19, 20, 21, 22, 23, 24, 25, 26, 27, 28, 29, 30, 31, 32, 33, 34, 35, 36, 37, 38, 39, 40, 41, 42, 43, 44, 45, 46, 47] (by decide +kernel) (by decide +kernel)
set_option maxRecDepth 20000 in
theorem gX8_blacken_X8_turn : GoodIn wsX8_blacken (wsV RX8 98 RX8 yX8_turn wsX8_turn) := goodIn_app (goodIn_of _ (by decide +kernel)) ggX8_blacken_X8_turn
set_option maxRecDepth 20000 in
theorem ggX8_blacken_X8_fieldsOf : GoodIn wsX8_blacken wsX8_fieldsOf := goodIn_r _ [14, 15, 16, 17, 18, 19, 20, 21, 22, 23, 24, 25, 26, 27, 28, 29, 30, 31, 32, 33, 34, 35, 36, 37, 38, 39, 40, 41, 42, 43, 44, 45, 46, 47] (by decide +kernel) (by decide +kernel)
set_option maxRecDepth 20000 in
theorem gX8_blacken_X8_fieldsOf : GoodIn wsX8_blacken (wsV RX8 108 RX8 yX8_fieldsOf wsX8_fieldsOf) := goodIn_app (goodIn_of _ (by decide +kernel)) ggX8_blacken_X8_fieldsOf
theorem dX8_blacken_0 : decode cX8_blacken 0 = .ok (.iconst 1, 1) := by decide +kernel
theorem dX8_blacken_1 : decode cX8_blacken 1 = .ok (.istore_n 2, 1) := by decide +kernel
theorem dX8_blacken_2 : decode cX8_blacken 2 = .ok (.aload_n 0, 1) := by decide +kernel
theorem dX8_blacken_3 : decode cX8_blacken 3 = .ok (.getfield 75, 3) := by decide +kernel
theorem dX8_blacken_6 : decode cX8_blacken 6 = .ok (.iconst 0, 1) := by decide +kernel
theorem dX8_blacken_7 : decode cX8_blacken 7 = .ok (.iload_n 1, 1) := by decide +kernel
theorem dX8_blacken_8 : decode cX8_blacken 8 = .ok (.iastore, 1) := by decide +kernel
theorem dX8_blacken_9 : decode cX8_blacken 9 = .ok (.aload_n 0, 1) := by decide +kernel
theorem dX8_blacken_10 : decode cX8_blacken 10 = .ok (.iload_n 1, 1) := by decide +kernel
theorem dX8_blacken_11 : decode cX8_blacken 11 = .ok (.iconst 0, 1) := by decide +kernel
theorem dX8_blacken_12 : decode cX8_blacken 12 = .ok (.invokevirtual 98, 3) := by decide +kernel
theorem dX8_blacken_15 : decode cX8_blacken 15 = .ok (.aload_n 0, 1) := by decide +kernel
theorem dX8_blacken_16 : decode cX8_blacken 16 = .ok (.dup, 1) := by decide +kernel
theorem dX8_blacken_17 : decode cX8_blacken 17 = .ok (.getfield 121, 3) := by decide +kernel
theorem dX8_blacken_20 : decode cX8_blacken 20 = .ok (.iconst 1, 1) := by decide +kernel
theorem dX8_blacken_21 : decode cX8_blacken 21 = .ok (.iadd, 1) := by decide +kernel
theorem dX8_blacken_22 : decode cX8_blacken 22 = .ok (.putfield 121, 3) := by decide +kernel
theorem dX8_blacken_25 : decode cX8_blacken 25 = .ok (.iload_n 2, 1) := by decide +kernel
theorem dX8_blacken_26 : decode cX8_blacken 26 = .ok (.ifCond .le 115, 3) := by decide +kernel
theorem dX8_blacken_29 : decode cX8_blacken 29 = .ok (.iinc 2 (-1), 3) := by decide +kernel
theorem dX8_blacken_32 : decode cX8_blacken 32 = .ok (.aload_n 0, 1) := by decide +kernel
theorem dX8_blacken_33 : decode cX8_blacken 33 = .ok (.getfield 75, 3) := by decide +kernel
theorem dX8_blacken_36 : decode cX8_blacken 36 = .ok (.iload_n 2, 1) := by decide +kernel
theorem dX8_blacken_37 : decode cX8_blacken 37 = .ok (.iaload, 1) := by decide +kernel
theorem dX8_blacken_38 : decode cX8_blacken 38 = .ok (.istore_n 3, 1) := by decide +kernel
theorem dX8_blacken_39 : decode cX8_blacken 39 = .ok (.iconst 0, 1) := by decide +kernel
theorem dX8_blacken_40 : decode cX8_blacken 40 = .ok (.istore 4, 2) := by decide +kernel
theorem dX8_blacken_42 : decode cX8_blacken 42 = .ok (.iload 4, 2) := by decide +kernel
theorem dX8_blacken_44 : decode cX8_blacken 44 = .ok (.aload_n 0, 1) := by decide +kernel
theorem dX8_blacken_45 : decode cX8_blacken 45 = .ok (.iload_n 3, 1) := by decide +kernel
theorem dX8_blacken_46 : decode cX8_blacken 46 = .ok (.invokevirtual 108, 3) := by decide +kernel
theorem dX8_blacken_49 : decode cX8_blacken 49 = .ok (.if_icmp .ge 89, 3) := by decide +kernel
theorem dX8_blacken_52 : decode cX8_blacken 52 = .ok (.aload_n 0, 1) := by decide +kernel
theorem dX8_blacken_53 : decode cX8_blacken 53 = .ok (.getfield 48, 3) := by decide +kernel
theorem dX8_blacken_56 : decode cX8_blacken 56 = .ok (.bipush 6, 2) := by decide +kernel
theorem dX8_blacken_58 : decode cX8_blacken 58 = .ok (.iload_n 3, 1) := by decide +kernel
theorem dX8_blacken_59 : decode cX8_blacken 59 = .ok (.imul, 1) := by decide +kernel
theorem dX8_blacken_60 : decode cX8_blacken 60 = .ok (.iload 4, 2) := by decide +kernel
theorem dX8_blacken_62 : decode cX8_blacken 62 = .ok (.iadd, 1) := by decide +kernel
theorem dX8_blacken_63 : decode cX8_blacken 63 = .ok (.iaload, 1) := by decide +kernel
theorem dX8_blacken_64 : decode cX8_blacken 64 = .ok (.istore 5, 2) := by decide +kernel
theorem dX8_blacken_66 : decode cX8_blacken 66 = .ok (.iload 5, 2) := by decide +kernel
theorem dX8_blacken_68 : decode cX8_blacken 68 = .ok (.ifCond .lt 64, 3) := by decide +kernel
theorem dX8_blacken_71 : decode cX8_blacken 71 = .ok (.aload_n 0, 1) := by decide +kernel
theorem dX8_blacken_72 : decode cX8_blacken 72 = .ok (.getfield 30, 3) := by decide +kernel
theorem dX8_blacken_75 : decode cX8_blacken 75 = .ok (.iload 5, 2) := by decide +kernel
theorem dX8_blacken_77 : decode cX8_blacken 77 = .ok (.iaload, 1) := by decide +kernel
theorem dX8_blacken_78 : decode cX8_blacken 78 = .ok (.iconst 4, 1) := by decide +kernel
theorem dX8_blacken_79 : decode cX8_blacken 79 = .ok (.if_icmp .eq 53, 3) := by decide +kernel
theorem dX8_blacken_82 : decode cX8_blacken 82 = .ok (.aload_n 0, 1) := by decide +kernel
theorem dX8_blacken_83 : decode cX8_blacken 83 = .ok (.getfield 27, 3) := by decide +kernel
theorem dX8_blacken_86 : decode cX8_blacken 86 = .ok (.iload 5, 2) := by decide +kernel
theorem dX8_blacken_88 : decode cX8_blacken 88 = .ok (.dup2, 1) := by decide +kernel
theorem dX8_blacken_89 : decode cX8_blacken 89 = .ok (.iaload, 1) := by decide +kernel
theorem dX8_blacken_90 : decode cX8_blacken 90 = .ok (.iconst 1, 1) := by decide +kernel
theorem dX8_blacken_91 : decode cX8_blacken 91 = .ok (.iadd, 1) := by decide +kernel
theorem dX8_blacken_92 : decode cX8_blacken 92 = .ok (.iastore, 1) := by decide +kernel
theorem dX8_blacken_93 : decode cX8_blacken 93 = .ok (.aload_n 0, 1) := by decide +kernel
theorem dX8_blacken_94 : decode cX8_blacken 94 = .ok (.getfield 30, 3) := by decide +kernel
theorem dX8_blacken_97 : decode cX8_blacken 97 = .ok (.iload 5, 2) := by decide +kernel
theorem dX8_blacken_99 : decode cX8_blacken 99 = .ok (.iaload, 1) := by decide +kernel
theorem dX8_blacken_100 : decode cX8_blacken 100 = .ok (.ifCond .eq 32, 3) := by decide +kernel
theorem dX8_blacken_103 : decode cX8_blacken 103 = .ok (.aload_n 0, 1) := by decide +kernel
theorem dX8_blacken_104 : decode cX8_blacken 104 = .ok (.getfield 30, 3) := by decide +kernel
theorem dX8_blacken_107 : decode cX8_blacken 107 = .ok (.iload 5, 2) := by decide +kernel
theorem dX8_blacken_109 : decode cX8_blacken 109 = .ok (.iconst 0, 1) := by decide +kernel
theorem dX8_blacken_110 : decode cX8_blacken 110 = .ok (.iastore, 1) := by decide +kernel
theorem dX8_blacken_111 : decode cX8_blacken 111 = .ok (.aload_n 0, 1) := by decide +kernel
theorem dX8_blacken_112 : decode cX8_blacken 112 = .ok (.dup, 1) := by decide +kernel
theorem dX8_blacken_113 : decode cX8_blacken 113 = .ok (.getfield 121, 3) := by decide +kernel
theorem dX8_blacken_116 : decode cX8_blacken 116 = .ok (.iconst 1, 1) := by decide +kernel
theorem dX8_blacken_117 : decode cX8_blacken 117 = .ok (.iadd, 1) := by decide +kernel
theorem dX8_blacken_118 : decode cX8_blacken 118 = .ok (.putfield 121, 3) := by decide +kernel
theorem dX8_blacken_121 : decode cX8_blacken 121 = .ok (.aload_n 0, 1) := by decide +kernel
theorem dX8_blacken_122 : decode cX8_blacken 122 = .ok (.getfield 75, 3) := by decide +kernel
theorem dX8_blacken_125 : decode cX8_blacken 125 = .ok (.iload_n 2, 1) := by decide +kernel
theorem dX8_blacken_126 : decode cX8_blacken 126 = .ok (.iload 5, 2) := by decide +kernel
theorem dX8_blacken_128 : decode cX8_blacken 128 = .ok (.iastore, 1) := by decide +kernel
theorem dX8_blacken_129 : decode cX8_blacken 129 = .ok (.iinc 2 1, 3) := by decide +kernel
theorem dX8_blacken_132 : decode cX8_blacken 132 = .ok (.iinc 4 1, 3) := by decide +kernel
theorem dX8_blacken_135 : decode cX8_blacken 135 = .ok (.goto (-93), 3) := by decide +kernel
theorem dX8_blacken_138 : decode cX8_blacken 138 = .ok (.goto (-113), 3) := by decide +kernel
theorem dX8_blacken_141 : decode cX8_blacken 141 = .ok (.return_, 1) := by decide +kernel
set_option maxRecDepth 20000 in
theorem ggX8_scan_X8_scanOne : GoodIn wsX8_scan wsX8_scanOne := goodIn_r _ [8, 9, 10, 2, 1, 11, 12, 13, 7, 14, 15, 16, 3, 17, 18, 19, 20, 21, 22, 23, 24, 25, 26, 27, 28, 29, 30, 31, 32, 33, 34, 35, 36, 37, 38, 39, 40, 41, 42, 43, 44, 45, 46, 47, 48, 49, 50, 51, 52, 53, 54, 55, 56, 57] (by decide +kernel) (by decide +kernel)
set_option maxRecDepth 20000 in
theorem gX8_scan_X8_scanOne : GoodIn wsX8_scan (wsV RX8 124 RX8 yX8_scanOne wsX8_scanOne) := goodIn_app (goodIn_of _ (by decide +kernel)) ggX8_scan_X8_scanOne
set_option maxRecDepth 20000 in
theorem ggX8_scan_X8_fieldsOf : GoodIn wsX8_scan wsX8_fieldsOf := goodIn_r _ [24, 25, 26, 27, 28, 29, 30, 31, 32, 33, 34, 35, 36, 37, 38, 39, 40, 41, 42, 43, 44, 45, 46, 47, 48, 49, 50, 51, 52, 53, 54, 55, 56, 57] (by decide +kernel) (by decide +kernel)
set_option maxRecDepth 20000 in
theorem gX8_scan_X8_fieldsOf : GoodIn wsX8_scan (wsV RX8 108 RX8 yX8_fieldsOf wsX8_fieldsOf) := goodIn_app (goodIn_of _ (by decide +kernel)) ggX8_scan_X8_fieldsOf
theorem dX8_scan_0 : decode cX8_scan 0 = .ok (.aload_n 0, 1) := by decide +kernel
theorem dX8_scan_1 : decode cX8_scan 1 = .ok (.iconst 0, 1) := by decide +kernel
theorem dX8_scan_2 : decode cX8_scan 2 = .ok (.putfield 105, 3) := by decide +kernel
theorem dX8_scan_5 : decode cX8_scan 5 = .ok (.aload_n 0, 1) := by decide +kernel
theorem dX8_scan_6 : decode cX8_scan 6 = .ok (.iload_n 1, 1) := by decide +kernel
theorem dX8_scan_7 : decode cX8_scan 7 = .ok (.invokevirtual 124, 3) := by decide +kernel
theorem dX8_scan_10 : decode cX8_scan 10 = .ok (.aload_n 0, 1) := by decide +kernel
theorem dX8_scan_11 : decode cX8_scan 11 = .ok (.getfield 105, 3) := by decide +kernel
theorem dX8_scan_14 : decode cX8_scan 14 = .ok (.ifCond .le 67, 3) := by decide +kernel
theorem dX8_scan_17 : decode cX8_scan 17 = .ok (.aload_n 0, 1) := by decide +kernel
theorem dX8_scan_18 : decode cX8_scan 18 = .ok (.dup, 1) := by decide +kernel
theorem dX8_scan_19 : decode cX8_scan 19 = .ok (.getfield 105, 3) := by decide +kernel
theorem dX8_scan_22 : decode cX8_scan 22 = .ok (.iconst 1, 1) := by decide +kernel
theorem dX8_scan_23 : decode cX8_scan 23 = .ok (.isub, 1) := by decide +kernel
theorem dX8_scan_24 : decode cX8_scan 24 = .ok (.putfield 105, 3) := by decide +kernel
theorem dX8_scan_27 : decode cX8_scan 27 = .ok (.aload_n 0, 1) := by decide +kernel
theorem dX8_scan_28 : decode cX8_scan 28 = .ok (.getfield 66, 3) := by decide +kernel
theorem dX8_scan_31 : decode cX8_scan 31 = .ok (.aload_n 0, 1) := by decide +kernel
theorem dX8_scan_32 : decode cX8_scan 32 = .ok (.getfield 105, 3) := by decide +kernel
theorem dX8_scan_35 : decode cX8_scan 35 = .ok (.iaload, 1) := by decide +kernel
theorem dX8_scan_36 : decode cX8_scan 36 = .ok (.istore_n 2, 1) := by decide +kernel
theorem dX8_scan_37 : decode cX8_scan 37 = .ok (.iconst 0, 1) := by decide +kernel
theorem dX8_scan_38 : decode cX8_scan 38 = .ok (.istore_n 3, 1) := by decide +kernel
theorem dX8_scan_39 : decode cX8_scan 39 = .ok (.iload_n 3, 1) := by decide +kernel
theorem dX8_scan_40 : decode cX8_scan 40 = .ok (.aload_n 0, 1) := by decide +kernel
theorem dX8_scan_41 : decode cX8_scan 41 = .ok (.iload_n 2, 1) := by decide +kernel
theorem dX8_scan_42 : decode cX8_scan 42 = .ok (.invokevirtual 108, 3) := by decide +kernel
theorem dX8_scan_45 : decode cX8_scan 45 = .ok (.if_icmp .ge 33, 3) := by decide +kernel
theorem dX8_scan_48 : decode cX8_scan 48 = .ok (.aload_n 0, 1) := by decide +kernel
theorem dX8_scan_49 : decode cX8_scan 49 = .ok (.getfield 48, 3) := by decide +kernel
theorem dX8_scan_52 : decode cX8_scan 52 = .ok (.bipush 6, 2) := by decide +kernel
theorem dX8_scan_54 : decode cX8_scan 54 = .ok (.iload_n 2, 1) := by decide +kernel
theorem dX8_scan_55 : decode cX8_scan 55 = .ok (.imul, 1) := by decide +kernel
theorem dX8_scan_56 : decode cX8_scan 56 = .ok (.iload_n 3, 1) := by decide +kernel
theorem dX8_scan_57 : decode cX8_scan 57 = .ok (.iadd, 1) := by decide +kernel
theorem dX8_scan_58 : decode cX8_scan 58 = .ok (.iaload, 1) := by decide +kernel
theorem dX8_scan_59 : decode cX8_scan 59 = .ok (.istore 4, 2) := by decide +kernel
theorem dX8_scan_61 : decode cX8_scan 61 = .ok (.iload 4, 2) := by decide +kernel
theorem dX8_scan_63 : decode cX8_scan 63 = .ok (.ifCond .lt 9, 3) := by decide +kernel
theorem dX8_scan_66 : decode cX8_scan 66 = .ok (.aload_n 0, 1) := by decide +kernel
theorem dX8_scan_67 : decode cX8_scan 67 = .ok (.iload 4, 2) := by decide +kernel
theorem dX8_scan_69 : decode cX8_scan 69 = .ok (.invokevirtual 124, 3) := by decide +kernel
theorem dX8_scan_72 : decode cX8_scan 72 = .ok (.iinc 3 1, 3) := by decide +kernel
theorem dX8_scan_75 : decode cX8_scan 75 = .ok (.goto (-36), 3) := by decide +kernel
theorem dX8_scan_78 : decode cX8_scan 78 = .ok (.goto (-68), 3) := by decide +kernel
theorem dX8_scan_81 : decode cX8_scan 81 = .ok (.return_, 1) := by decide +kernel
set_option maxRecDepth 20000 in
theorem ggX8_scanOne_X8_blacken : GoodIn wsX8_scanOne wsX8_blacken := goodIn_r _ [9, 10, 11, 12, 1, 2, 13, 14, 15, 8, 16, 17, 18, 19, 20, 21, 22, 23, 24, 25, 26, 27, 28, 29, 30, 31, 32, 33, 34, 35, 36, 37, 38, 39, 40, 41, 42, 43, 44, 45, 46, 47, 48, 49, 50, 51, 52, 53] (by decide +kernel) (by decide +kernel)
set_option maxRecDepth 20000 in
theorem gX8_scanOne_X8_blacken : GoodIn wsX8_scanOne (wsV RX8 127 RX8 yX8_blacken wsX8_blacken) := goodIn_app (goodIn_of _ (by decide +kernel)) ggX8_scanOne_X8_blacken
theorem dX8_scanOne_0 : decode cX8_scanOne 0 = .ok (.aload_n 0, 1) := by decide +kernel
theorem dX8_scanOne_1 : decode cX8_scanOne 1 = .ok (.getfield 30, 3) := by decide +kernel
theorem dX8_scanOne_4 : decode cX8_scanOne 4 = .ok (.iload_n 1, 1) := by decide +kernel
theorem dX8_scanOne_5 : decode cX8_scanOne 5 = .ok (.iaload, 1) := by decide +kernel
theorem dX8_scanOne_6 : decode cX8_scanOne 6 = .ok (.iconst 1, 1) := by decide +kernel
theorem dX8_scanOne_7 : decode cX8_scanOne 7 = .ok (.if_icmp .ne 47, 3) := by decide +kernel
theorem dX8_scanOne_10 : decode cX8_scanOne 10 = .ok (.aload_n 0, 1) := by decide +kernel
theorem dX8_scanOne_11 : decode cX8_scanOne 11 = .ok (.getfield 27, 3) := by decide +kernel
theorem dX8_scanOne_14 : decode cX8_scanOne 14 = .ok (.iload_n 1, 1) := by decide +kernel
theorem dX8_scanOne_15 : decode cX8_scanOne 15 = .ok (.iaload, 1) := by decide +kernel
theorem dX8_scanOne_16 : decode cX8_scanOne 16 = .ok (.ifCond .le 11, 3) := by decide +kernel
theorem dX8_scanOne_19 : decode cX8_scanOne 19 = .ok (.aload_n 0, 1) := by decide +kernel
theorem dX8_scanOne_20 : decode cX8_scanOne 20 = .ok (.iload_n 1, 1) := by decide +kernel
theorem dX8_scanOne_21 : decode cX8_scanOne 21 = .ok (.invokevirtual 127, 3) := by decide +kernel
theorem dX8_scanOne_24 : decode cX8_scanOne 24 = .ok (.goto 30, 3) := by decide +kernel
theorem dX8_scanOne_27 : decode cX8_scanOne 27 = .ok (.aload_n 0, 1) := by decide +kernel
theorem dX8_scanOne_28 : decode cX8_scanOne 28 = .ok (.getfield 30, 3) := by decide +kernel
theorem dX8_scanOne_31 : decode cX8_scanOne 31 = .ok (.iload_n 1, 1) := by decide +kernel
theorem dX8_scanOne_32 : decode cX8_scanOne 32 = .ok (.iconst 2, 1) := by decide +kernel
theorem dX8_scanOne_33 : decode cX8_scanOne 33 = .ok (.iastore, 1) := by decide +kernel
theorem dX8_scanOne_34 : decode cX8_scanOne 34 = .ok (.aload_n 0, 1) := by decide +kernel
theorem dX8_scanOne_35 : decode cX8_scanOne 35 = .ok (.getfield 66, 3) := by decide +kernel
theorem dX8_scanOne_38 : decode cX8_scanOne 38 = .ok (.aload_n 0, 1) := by decide +kernel
theorem dX8_scanOne_39 : decode cX8_scanOne 39 = .ok (.getfield 105, 3) := by decide +kernel
theorem dX8_scanOne_42 : decode cX8_scanOne 42 = .ok (.iload_n 1, 1) := by decide +kernel
theorem dX8_scanOne_43 : decode cX8_scanOne 43 = .ok (.iastore, 1) := by decide +kernel
theorem dX8_scanOne_44 : decode cX8_scanOne 44 = .ok (.aload_n 0, 1) := by decide +kernel
theorem dX8_scanOne_45 : decode cX8_scanOne 45 = .ok (.dup, 1) := by decide +kernel
theorem dX8_scanOne_46 : decode cX8_scanOne 46 = .ok (.getfield 105, 3) := by decide +kernel
theorem dX8_scanOne_49 : decode cX8_scanOne 49 = .ok (.iconst 1, 1) := by decide +kernel
theorem dX8_scanOne_50 : decode cX8_scanOne 50 = .ok (.iadd, 1) := by decide +kernel
theorem dX8_scanOne_51 : decode cX8_scanOne 51 = .ok (.putfield 105, 3) := by decide +kernel
theorem dX8_scanOne_54 : decode cX8_scanOne 54 = .ok (.return_, 1) := by decide +kernel
theorem dX8_findByAddress_0 : decode cX8_findByAddress 0 = .ok (.aload_n 0, 1) := by decide +kernel
theorem dX8_findByAddress_1 : decode cX8_findByAddress 1 = .ok (.iconst 0, 1) := by decide +kernel
theorem dX8_findByAddress_2 : decode cX8_findByAddress 2 = .ok (.putfield 130, 3) := by decide +kernel
theorem dX8_findByAddress_5 : decode cX8_findByAddress 5 = .ok (.iconst 0, 1) := by decide +kernel
theorem dX8_findByAddress_6 : decode cX8_findByAddress 6 = .ok (.istore_n 1, 1) := by decide +kernel
theorem dX8_findByAddress_7 : decode cX8_findByAddress 7 = .ok (.iload_n 1, 1) := by decide +kernel
theorem dX8_findByAddress_8 : decode cX8_findByAddress 8 = .ok (.sipush 400, 3) := by decide +kernel
theorem dX8_findByAddress_11 : decode cX8_findByAddress 11 = .ok (.if_icmp .ge 50, 3) := by decide +kernel
theorem dX8_findByAddress_14 : decode cX8_findByAddress 14 = .ok (.aload_n 0, 1) := by decide +kernel
theorem dX8_findByAddress_15 : decode cX8_findByAddress 15 = .ok (.getfield 51, 3) := by decide +kernel
theorem dX8_findByAddress_18 : decode cX8_findByAddress 18 = .ok (.iload_n 1, 1) := by decide +kernel
theorem dX8_findByAddress_19 : decode cX8_findByAddress 19 = .ok (.iaload, 1) := by decide +kernel
theorem dX8_findByAddress_20 : decode cX8_findByAddress 20 = .ok (.istore_n 2, 1) := by decide +kernel
theorem dX8_findByAddress_21 : decode cX8_findByAddress 21 = .ok (.iload_n 2, 1) := by decide +kernel
theorem dX8_findByAddress_22 : decode cX8_findByAddress 22 = .ok (.ifCond .lt 33, 3) := by decide +kernel
theorem dX8_findByAddress_25 : decode cX8_findByAddress 25 = .ok (.aload_n 0, 1) := by decide +kernel
theorem dX8_findByAddress_26 : decode cX8_findByAddress 26 = .ok (.getfield 33, 3) := by decide +kernel
theorem dX8_findByAddress_29 : decode cX8_findByAddress 29 = .ok (.iload_n 2, 1) := by decide +kernel
theorem dX8_findByAddress_30 : decode cX8_findByAddress 30 = .ok (.iaload, 1) := by decide +kernel
theorem dX8_findByAddress_31 : decode cX8_findByAddress 31 = .ok (.iload_n 1, 1) := by decide +kernel
theorem dX8_findByAddress_32 : decode cX8_findByAddress 32 = .ok (.if_icmp .ne 23, 3) := by decide +kernel
theorem dX8_findByAddress_35 : decode cX8_findByAddress 35 = .ok (.aload_n 0, 1) := by decide +kernel
theorem dX8_findByAddress_36 : decode cX8_findByAddress 36 = .ok (.getfield 72, 3) := by decide +kernel
theorem dX8_findByAddress_39 : decode cX8_findByAddress 39 = .ok (.aload_n 0, 1) := by decide +kernel
theorem dX8_findByAddress_40 : decode cX8_findByAddress 40 = .ok (.getfield 130, 3) := by decide +kernel
theorem dX8_findByAddress_43 : decode cX8_findByAddress 43 = .ok (.iload_n 2, 1) := by decide +kernel
theorem dX8_findByAddress_44 : decode cX8_findByAddress 44 = .ok (.iastore, 1) := by decide +kernel
theorem dX8_findByAddress_45 : decode cX8_findByAddress 45 = .ok (.aload_n 0, 1) := by decide +kernel
theorem dX8_findByAddress_46 : decode cX8_findByAddress 46 = .ok (.dup, 1) := by decide +kernel
theorem dX8_findByAddress_47 : decode cX8_findByAddress 47 = .ok (.getfield 130, 3) := by decide +kernel
theorem dX8_findByAddress_50 : decode cX8_findByAddress 50 = .ok (.iconst 1, 1) := by decide +kernel
theorem dX8_findByAddress_51 : decode cX8_findByAddress 51 = .ok (.iadd, 1) := by decide +kernel
theorem dX8_findByAddress_52 : decode cX8_findByAddress 52 = .ok (.putfield 130, 3) := by decide +kernel
theorem dX8_findByAddress_55 : decode cX8_findByAddress 55 = .ok (.iinc 1 1, 3) := by decide +kernel
theorem dX8_findByAddress_58 : decode cX8_findByAddress 58 = .ok (.goto (-51), 3) := by decide +kernel
theorem dX8_findByAddress_61 : decode cX8_findByAddress 61 = .ok (.return_, 1) := by decide +kernel
set_option maxRecDepth 20000 in
theorem ggX8_mark_X8_free : GoodIn wsX8_mark wsX8_free := goodIn_r _ [10, 11, 12, 13, 3, 14, 15, 34, 35, 36, 37, 38, 39, 40, 41, 42, 43, 44, 45, 46, 47, 48, 49, 50, 51, 52, 53, 54, 55, 56, 57, 58, 59, 60, 61, 62, 63, 64] (by decide +kernel) (by decide +kernel)
set_option maxRecDepth 20000 in
theorem gX8_mark_X8_free : GoodIn wsX8_mark (wsV RX8 112 RX8 yX8_free wsX8_free) := goodIn_app (goodIn_of _ (by decide +kernel)) ggX8_mark_X8_free
set_option maxRecDepth 20000 in
theorem ggX8_mark_X8_gray : GoodIn wsX8_mark wsX8_gray := goodIn_r _ [19, 20, 21, 22, 5, 23, 24, 25, 26, 9, 27, 28, 29, 30, 31, 32, 33, 13, 34, 35, 36, 37, 38, 39, 40, 41, 42, 43, 44, 45, 46, 47, 48, 49, 50, 51, 52, 53, 54, 55, 56, 57, 58, 59, 60, 61, 62, 63, 64] (by decide +kernel) (by decide +kernel)
set_option maxRecDepth 20000 in
theorem gX8_mark_X8_gray : GoodIn wsX8_mark (wsV RX8 133 RX8 yX8_gray wsX8_gray) := goodIn_app (goodIn_of _ (by decide +kernel)) ggX8_mark_X8_gray
theorem dX8_mark_0 : decode cX8_mark 0 = .ok (.aload_n 0, 1) := by decide +kernel
theorem dX8_mark_1 : decode cX8_mark 1 = .ok (.getfield 88, 3) := by decide +kernel
theorem dX8_mark_4 : decode cX8_mark 4 = .ok (.istore_n 1, 1) := by decide +kernel
theorem dX8_mark_5 : decode cX8_mark 5 = .ok (.aload_n 0, 1) := by decide +kernel
theorem dX8_mark_6 : decode cX8_mark 6 = .ok (.iconst 0, 1) := by decide +kernel
theorem dX8_mark_7 : decode cX8_mark 7 = .ok (.putfield 88, 3) := by decide +kernel
theorem dX8_mark_10 : decode cX8_mark 10 = .ok (.iconst 0, 1) := by decide +kernel
theorem dX8_mark_11 : decode cX8_mark 11 = .ok (.istore_n 2, 1) := by decide +kernel
theorem dX8_mark_12 : decode cX8_mark 12 = .ok (.iload_n 2, 1) := by decide +kernel
theorem dX8_mark_13 : decode cX8_mark 13 = .ok (.iload_n 1, 1) := by decide +kernel
theorem dX8_mark_14 : decode cX8_mark 14 = .ok (.if_icmp .ge 85, 3) := by decide +kernel
theorem dX8_mark_17 : decode cX8_mark 17 = .ok (.aload_n 0, 1) := by decide +kernel
theorem dX8_mark_18 : decode cX8_mark 18 = .ok (.getfield 54, 3) := by decide +kernel
theorem dX8_mark_21 : decode cX8_mark 21 = .ok (.iload_n 2, 1) := by decide +kernel
theorem dX8_mark_22 : decode cX8_mark 22 = .ok (.iaload, 1) := by decide +kernel
theorem dX8_mark_23 : decode cX8_mark 23 = .ok (.istore_n 3, 1) := by decide +kernel
theorem dX8_mark_24 : decode cX8_mark 24 = .ok (.aload_n 0, 1) := by decide +kernel
theorem dX8_mark_25 : decode cX8_mark 25 = .ok (.getfield 45, 3) := by decide +kernel
theorem dX8_mark_28 : decode cX8_mark 28 = .ok (.iload_n 3, 1) := by decide +kernel
theorem dX8_mark_29 : decode cX8_mark 29 = .ok (.baload, 1) := by decide +kernel
theorem dX8_mark_30 : decode cX8_mark 30 = .ok (.ifCond .eq 18, 3) := by decide +kernel
theorem dX8_mark_33 : decode cX8_mark 33 = .ok (.aload_n 0, 1) := by decide +kernel
theorem dX8_mark_34 : decode cX8_mark 34 = .ok (.getfield 39, 3) := by decide +kernel
theorem dX8_mark_37 : decode cX8_mark 37 = .ok (.iload_n 3, 1) := by decide +kernel
theorem dX8_mark_38 : decode cX8_mark 38 = .ok (.iconst 0, 1) := by decide +kernel
theorem dX8_mark_39 : decode cX8_mark 39 = .ok (.bastore, 1) := by decide +kernel
theorem dX8_mark_40 : decode cX8_mark 40 = .ok (.aload_n 0, 1) := by decide +kernel
theorem dX8_mark_41 : decode cX8_mark 41 = .ok (.iload_n 3, 1) := by decide +kernel
theorem dX8_mark_42 : decode cX8_mark 42 = .ok (.invokevirtual 112, 3) := by decide +kernel
theorem dX8_mark_45 : decode cX8_mark 45 = .ok (.goto 48, 3) := by decide +kernel
theorem dX8_mark_48 : decode cX8_mark 48 = .ok (.aload_n 0, 1) := by decide +kernel
theorem dX8_mark_49 : decode cX8_mark 49 = .ok (.getfield 30, 3) := by decide +kernel
theorem dX8_mark_52 : decode cX8_mark 52 = .ok (.iload_n 3, 1) := by decide +kernel
theorem dX8_mark_53 : decode cX8_mark 53 = .ok (.iaload, 1) := by decide +kernel
theorem dX8_mark_54 : decode cX8_mark 54 = .ok (.iconst 1, 1) := by decide +kernel
theorem dX8_mark_55 : decode cX8_mark 55 = .ok (.if_icmp .ne 13, 3) := by decide +kernel
theorem dX8_mark_58 : decode cX8_mark 58 = .ok (.aload_n 0, 1) := by decide +kernel
theorem dX8_mark_59 : decode cX8_mark 59 = .ok (.getfield 39, 3) := by decide +kernel
theorem dX8_mark_62 : decode cX8_mark 62 = .ok (.iload_n 3, 1) := by decide +kernel
theorem dX8_mark_63 : decode cX8_mark 63 = .ok (.iconst 0, 1) := by decide +kernel
theorem dX8_mark_64 : decode cX8_mark 64 = .ok (.bastore, 1) := by decide +kernel
theorem dX8_mark_65 : decode cX8_mark 65 = .ok (.goto 28, 3) := by decide +kernel
theorem dX8_mark_68 : decode cX8_mark 68 = .ok (.aload_n 0, 1) := by decide +kernel
theorem dX8_mark_69 : decode cX8_mark 69 = .ok (.iload_n 3, 1) := by decide +kernel
theorem dX8_mark_70 : decode cX8_mark 70 = .ok (.invokevirtual 133, 3) := by decide +kernel
theorem dX8_mark_73 : decode cX8_mark 73 = .ok (.aload_n 0, 1) := by decide +kernel
theorem dX8_mark_74 : decode cX8_mark 74 = .ok (.getfield 54, 3) := by decide +kernel
theorem dX8_mark_77 : decode cX8_mark 77 = .ok (.aload_n 0, 1) := by decide +kernel
theorem dX8_mark_78 : decode cX8_mark 78 = .ok (.getfield 88, 3) := by decide +kernel
theorem dX8_mark_81 : decode cX8_mark 81 = .ok (.iload_n 3, 1) := by decide +kernel
theorem dX8_mark_82 : decode cX8_mark 82 = .ok (.iastore, 1) := by decide +kernel
theorem dX8_mark_83 : decode cX8_mark 83 = .ok (.aload_n 0, 1) := by decide +kernel
theorem dX8_mark_84 : decode cX8_mark 84 = .ok (.dup, 1) := by decide +kernel
theorem dX8_mark_85 : decode cX8_mark 85 = .ok (.getfield 88, 3) := by decide +kernel
theorem dX8_mark_88 : decode cX8_mark 88 = .ok (.iconst 1, 1) := by decide +kernel
theorem dX8_mark_89 : decode cX8_mark 89 = .ok (.iadd, 1) := by decide +kernel
theorem dX8_mark_90 : decode cX8_mark 90 = .ok (.putfield 88, 3) := by decide +kernel
theorem dX8_mark_93 : decode cX8_mark 93 = .ok (.iinc 2 1, 3) := by decide +kernel
theorem dX8_mark_96 : decode cX8_mark 96 = .ok (.goto (-84), 3) := by decide +kernel
theorem dX8_mark_99 : decode cX8_mark 99 = .ok (.return_, 1) := by decide +kernel
set_option maxRecDepth 20000 in
theorem ggX8_gather_X8_isThere : GoodIn wsX8_gather wsX8_isThere := goodIn_r _ [12, 13, 56, 57, 58, 59, 60, 61, 62, 63, 64, 65, 66, 67, 68, 69, 70, 71, 72, 73, 74, 75, 76, 77, 78, 79, 80, 81, 82, 83, 84, 85, 86] (by decide +kernel) (by decide +kernel)
set_option maxRecDepth 20000 in
theorem gX8_gather_X8_isThere : GoodIn wsX8_gather (wsV RX8 78 RX8 yX8_isThere wsX8_isThere) := goodIn_app (goodIn_of _ (by decide +kernel)) ggX8_gather_X8_isThere
set_option maxRecDepth 20000 in
theorem ggX8_gather_X8_fieldsOf : GoodIn wsX8_gather wsX8_fieldsOf := goodIn_r _ [17, 18, 13, 56, 57, 58, 59, 60, 61, 62, 63, 64, 65, 66, 67, 68, 69, 70, 71, 72, 73, 74, 75, 76, 77, 78, 79, 80, 81, 82, 83, 84, 85, 86] (by decide +kernel) (by decide +kernel)
set_option maxRecDepth 20000 in
theorem gX8_gather_X8_fieldsOf : GoodIn wsX8_gather (wsV RX8 108 RX8 yX8_fieldsOf wsX8_fieldsOf) := goodIn_app (goodIn_of _ (by decide +kernel)) ggX8_gather_X8_fieldsOf
set_option maxRecDepth 20000 in
theorem ggX8_gather_X8_less : GoodIn wsX8_gather wsX8_less := goodIn_r _ [22, 23, 24, 25, 7, 2, 26, 27, 28, 29, 11, 30, 31, 6, 3, 1, 32, 33, 34, 35, 36, 13, 37, 38, 39, 40, 41, 42, 43, 44, 45, 46, 47, 14, 15, 16, 17, 18, 48, 49, 50, 51, 52, 53, 54, 55, 56, 57, 58, 59, 60, 61, 62, 63, 64, 65, 66, 67, 68, 69, 70, 71, 72, 73, 74, 75, 76, 77, 78, 79, 80, 81, 82, 83, 84, 85, 86] (by decide +kernel) (by decide +kernel)
set_option maxRecDepth 20000 in
theorem gX8_gather_X8_less : GoodIn wsX8_gather (wsV RX8 136 RX8 yX8_less wsX8_less) := goodIn_app (goodIn_of _ (by decide +kernel)) ggX8_gather_X8_less
set_option maxRecDepth 20000 in
theorem ggX8_gather_X8_free : GoodIn wsX8_gather wsX8_free := goodIn_r _ [51, 52, 53, 13, 26, 54, 55, 56, 57, 58, 59, 60, 61, 62, 63, 64, 65, 66, 67, 68, 69, 70, 71, 72, 73, 74, 75, 76, 77, 78, 79, 80, 81, 82, 83, 84, 85, 86] (by decide +kernel) (by decide +kernel)
set_option maxRecDepth 20000 in
theorem gX8_gather_X8_free : GoodIn wsX8_gather (wsV RX8 112 RX8 yX8_free wsX8_free) := goodIn_app (goodIn_of _ (by decide +kernel)) ggX8_gather_X8_free
theorem dX8_gather_0 : decode cX8_gather 0 = .ok (.iconst 0, 1) := by decide +kernel
theorem dX8_gather_1 : decode cX8_gather 1 = .ok (.istore_n 1, 1) := by decide +kernel
theorem dX8_gather_2 : decode cX8_gather 2 = .ok (.iload_n 1, 1) := by decide +kernel
theorem dX8_gather_3 : decode cX8_gather 3 = .ok (.aload_n 0, 1) := by decide +kernel
theorem dX8_gather_4 : decode cX8_gather 4 = .ok (.getfield 88, 3) := by decide +kernel
theorem dX8_gather_7 : decode cX8_gather 7 = .ok (.if_icmp .ge 21, 3) := by decide +kernel
theorem dX8_gather_10 : decode cX8_gather 10 = .ok (.aload_n 0, 1) := by decide +kernel
theorem dX8_gather_11 : decode cX8_gather 11 = .ok (.getfield 39, 3) := by decide +kernel
theorem dX8_gather_14 : decode cX8_gather 14 = .ok (.aload_n 0, 1) := by decide +kernel
theorem dX8_gather_15 : decode cX8_gather 15 = .ok (.getfield 54, 3) := by decide +kernel
theorem dX8_gather_18 : decode cX8_gather 18 = .ok (.iload_n 1, 1) := by decide +kernel
theorem dX8_gather_19 : decode cX8_gather 19 = .ok (.iaload, 1) := by decide +kernel
theorem dX8_gather_20 : decode cX8_gather 20 = .ok (.iconst 0, 1) := by decide +kernel
theorem dX8_gather_21 : decode cX8_gather 21 = .ok (.bastore, 1) := by decide +kernel
theorem dX8_gather_22 : decode cX8_gather 22 = .ok (.iinc 1 1, 3) := by decide +kernel
theorem dX8_gather_25 : decode cX8_gather 25 = .ok (.goto (-23), 3) := by decide +kernel
theorem dX8_gather_28 : decode cX8_gather 28 = .ok (.aload_n 0, 1) := by decide +kernel
theorem dX8_gather_29 : decode cX8_gather 29 = .ok (.iconst 0, 1) := by decide +kernel
theorem dX8_gather_30 : decode cX8_gather 30 = .ok (.putfield 88, 3) := by decide +kernel
theorem dX8_gather_33 : decode cX8_gather 33 = .ok (.iconst 0, 1) := by decide +kernel
theorem dX8_gather_34 : decode cX8_gather 34 = .ok (.istore_n 1, 1) := by decide +kernel
theorem dX8_gather_35 : decode cX8_gather 35 = .ok (.iload_n 1, 1) := by decide +kernel
theorem dX8_gather_36 : decode cX8_gather 36 = .ok (.aload_n 0, 1) := by decide +kernel
theorem dX8_gather_37 : decode cX8_gather 37 = .ok (.getfield 130, 3) := by decide +kernel
theorem dX8_gather_40 : decode cX8_gather 40 = .ok (.if_icmp .ge 91, 3) := by decide +kernel
theorem dX8_gather_43 : decode cX8_gather 43 = .ok (.aload_n 0, 1) := by decide +kernel
theorem dX8_gather_44 : decode cX8_gather 44 = .ok (.getfield 72, 3) := by decide +kernel
theorem dX8_gather_47 : decode cX8_gather 47 = .ok (.iload_n 1, 1) := by decide +kernel
theorem dX8_gather_48 : decode cX8_gather 48 = .ok (.iaload, 1) := by decide +kernel
theorem dX8_gather_49 : decode cX8_gather 49 = .ok (.istore_n 2, 1) := by decide +kernel
theorem dX8_gather_50 : decode cX8_gather 50 = .ok (.aload_n 0, 1) := by decide +kernel
theorem dX8_gather_51 : decode cX8_gather 51 = .ok (.iload_n 2, 1) := by decide +kernel
theorem dX8_gather_52 : decode cX8_gather 52 = .ok (.invokevirtual 78, 3) := by decide +kernel
theorem dX8_gather_55 : decode cX8_gather 55 = .ok (.ifCond .eq 70, 3) := by decide +kernel
theorem dX8_gather_58 : decode cX8_gather 58 = .ok (.aload_n 0, 1) := by decide +kernel
theorem dX8_gather_59 : decode cX8_gather 59 = .ok (.getfield 30, 3) := by decide +kernel
theorem dX8_gather_62 : decode cX8_gather 62 = .ok (.iload_n 2, 1) := by decide +kernel
theorem dX8_gather_63 : decode cX8_gather 63 = .ok (.iaload, 1) := by decide +kernel
theorem dX8_gather_64 : decode cX8_gather 64 = .ok (.iconst 2, 1) := by decide +kernel
theorem dX8_gather_65 : decode cX8_gather 65 = .ok (.if_icmp .ne 60, 3) := by decide +kernel
theorem dX8_gather_68 : decode cX8_gather 68 = .ok (.iconst 0, 1) := by decide +kernel
theorem dX8_gather_69 : decode cX8_gather 69 = .ok (.istore_n 3, 1) := by decide +kernel
theorem dX8_gather_70 : decode cX8_gather 70 = .ok (.iload_n 3, 1) := by decide +kernel
theorem dX8_gather_71 : decode cX8_gather 71 = .ok (.aload_n 0, 1) := by decide +kernel
theorem dX8_gather_72 : decode cX8_gather 72 = .ok (.iload_n 2, 1) := by decide +kernel
theorem dX8_gather_73 : decode cX8_gather 73 = .ok (.invokevirtual 108, 3) := by decide +kernel
theorem dX8_gather_76 : decode cX8_gather 76 = .ok (.if_icmp .ge 44, 3) := by decide +kernel
theorem dX8_gather_79 : decode cX8_gather 79 = .ok (.aload_n 0, 1) := by decide +kernel
theorem dX8_gather_80 : decode cX8_gather 80 = .ok (.getfield 48, 3) := by decide +kernel
theorem dX8_gather_83 : decode cX8_gather 83 = .ok (.bipush 6, 2) := by decide +kernel
theorem dX8_gather_85 : decode cX8_gather 85 = .ok (.iload_n 2, 1) := by decide +kernel
theorem dX8_gather_86 : decode cX8_gather 86 = .ok (.imul, 1) := by decide +kernel
theorem dX8_gather_87 : decode cX8_gather 87 = .ok (.iload_n 3, 1) := by decide +kernel
theorem dX8_gather_88 : decode cX8_gather 88 = .ok (.iadd, 1) := by decide +kernel
theorem dX8_gather_89 : decode cX8_gather 89 = .ok (.iaload, 1) := by decide +kernel
theorem dX8_gather_90 : decode cX8_gather 90 = .ok (.istore 4, 2) := by decide +kernel
theorem dX8_gather_92 : decode cX8_gather 92 = .ok (.iload 4, 2) := by decide +kernel
theorem dX8_gather_94 : decode cX8_gather 94 = .ok (.ifCond .lt 20, 3) := by decide +kernel
theorem dX8_gather_97 : decode cX8_gather 97 = .ok (.aload_n 0, 1) := by decide +kernel
theorem dX8_gather_98 : decode cX8_gather 98 = .ok (.getfield 30, 3) := by decide +kernel
theorem dX8_gather_101 : decode cX8_gather 101 = .ok (.iload 4, 2) := by decide +kernel
theorem dX8_gather_103 : decode cX8_gather 103 = .ok (.iaload, 1) := by decide +kernel
theorem dX8_gather_104 : decode cX8_gather 104 = .ok (.iconst 4, 1) := by decide +kernel
theorem dX8_gather_105 : decode cX8_gather 105 = .ok (.if_icmp .ne 9, 3) := by decide +kernel
theorem dX8_gather_108 : decode cX8_gather 108 = .ok (.aload_n 0, 1) := by decide +kernel
theorem dX8_gather_109 : decode cX8_gather 109 = .ok (.iload 4, 2) := by decide +kernel
theorem dX8_gather_111 : decode cX8_gather 111 = .ok (.invokevirtual 136, 3) := by decide +kernel
theorem dX8_gather_114 : decode cX8_gather 114 = .ok (.iinc 3 1, 3) := by decide +kernel
theorem dX8_gather_117 : decode cX8_gather 117 = .ok (.goto (-47), 3) := by decide +kernel
theorem dX8_gather_120 : decode cX8_gather 120 = .ok (.aload_n 0, 1) := by decide +kernel
theorem dX8_gather_121 : decode cX8_gather 121 = .ok (.iload_n 2, 1) := by decide +kernel
theorem dX8_gather_122 : decode cX8_gather 122 = .ok (.invokevirtual 112, 3) := by decide +kernel
theorem dX8_gather_125 : decode cX8_gather 125 = .ok (.iinc 1 1, 3) := by decide +kernel
theorem dX8_gather_128 : decode cX8_gather 128 = .ok (.goto (-93), 3) := by decide +kernel
theorem dX8_gather_131 : decode cX8_gather 131 = .ok (.return_, 1) := by decide +kernel
set_option maxRecDepth 20000 in
theorem ggX8_collect_X8_mark : GoodIn wsX8_collect wsX8_mark := goodIn_r _ [14, 4, 5, 15, 16, 8, 17, 18, 19, 13, 20, 21, 22, 23, 24, 2, 25, 26, 27, 28, 29, 30, 31, 9, 32, 33, 34, 35, 36, 37, 38, 39, 40, 41, 94, 95, 96, 97, 98, 99, 100, 101, 102, 103, 104, 105, 106, 107, 108, 109, 110, 111, 112, 113, 114, 115, 116, 117, 118, 119, 120, 121, 122, 123, 124] (by decide +kernel) (by decide +kernel)
set_option maxRecDepth 20000 in
theorem gX8_collect_X8_mark : GoodIn wsX8_collect (wsV RX8 142 RX8 yX8_mark wsX8_mark) := goodIn_app (goodIn_of _ (by decide +kernel)) ggX8_collect_X8_mark
set_option maxRecDepth 20000 in
theorem ggX8_collect_X8_scan : GoodIn wsX8_collect wsX8_scan := goodIn_r _ [45, 29, 30, 31, 46, 47, 48, 13, 49, 8, 9, 50, 51, 52, 53, 54, 55, 56, 57, 58, 59, 37, 38, 39, 40, 41, 23, 94, 95, 96, 97, 98, 99, 100, 101, 102, 103, 104, 105, 106, 107, 108, 109, 110, 111, 112, 113, 114, 115, 116, 117, 118, 119, 120, 121, 122, 123, 124] (by decide +kernel) (by decide +kernel)
set_option maxRecDepth 20000 in
theorem gX8_collect_X8_scan : GoodIn wsX8_collect (wsV RX8 145 RX8 yX8_scan wsX8_scan) := goodIn_app (goodIn_of _ (by decide +kernel)) ggX8_collect_X8_scan
set_option maxRecDepth 20000 in
theorem ggX8_collect_X8_findByAddress : GoodIn wsX8_collect wsX8_findByAddress := goodIn_r _ [63, 6, 21, 64, 7, 94, 95, 96, 97, 98, 99, 100, 101, 102, 103, 104, 105, 106, 107, 108, 109, 110, 111, 112, 113, 114, 115, 116, 117, 118, 119, 120, 121, 122, 123, 124] (by decide +kernel) (by decide +kernel)
set_option maxRecDepth 20000 in
theorem gX8_collect_X8_findByAddress : GoodIn wsX8_collect (wsV RX8 148 RX8 yX8_findByAddress wsX8_findByAddress) := goodIn_app (goodIn_of _ (by decide +kernel)) ggX8_collect_X8_findByAddress
set_option maxRecDepth 20000 in
theorem ggX8_collect_X8_hasWish : GoodIn wsX8_collect wsX8_hasWish := goodIn_r _ [68, 69, 23, 70, 94, 95, 96, 97, 98, 99, 100, 101, 102, 103, 104, 105, 106, 107, 108, 109, 110, 111, 112, 113, 114, 115, 116, 117, 118, 119, 120, 121, 122, 123, 124] (by decide +kernel) (by decide +kernel)
set_option maxRecDepth 20000 in
theorem gX8_collect_X8_hasWish : GoodIn wsX8_collect (wsV RX8 91 RX8 yX8_hasWish wsX8_hasWish) := goodIn_app (goodIn_of _ (by decide +kernel)) ggX8_collect_X8_hasWish
set_option maxRecDepth 20000 in
theorem ggX8_collect_X8_comesToWishes : GoodIn wsX8_collect wsX8_comesToWishes := goodIn_r _ [74, 70, 75, 76, 94, 95, 96, 97, 98, 99, 100, 101, 102, 103, 104, 105, 106, 107, 108, 109, 110, 111, 112, 113, 114, 115, 116, 117, 118, 119, 120, 121, 122, 123, 124] (by decide +kernel) (by decide +kernel)
set_option maxRecDepth 20000 in
theorem gX8_collect_X8_comesToWishes : GoodIn wsX8_collect (wsV RX8 94 RX8 yX8_comesToWishes wsX8_comesToWishes) := goodIn_app (goodIn_of _ (by decide +kernel)) ggX8_collect_X8_comesToWishes
set_option maxRecDepth 20000 in
theorem ggX8_collect_X8_blacken : GoodIn wsX8_collect wsX8_blacken := goodIn_r _ [53, 54, 55, 31, 8, 9, 56, 57, 58, 13, 59, 37, 38, 39, 40, 41, 23, 94, 95, 96, 97, 98, 99, 100, 101, 102, 103, 104, 105, 106, 107, 108, 109, 110, 111, 112, 113, 114, 115, 116, 117, 118, 119, 120, 121, 122, 123, 124] (by decide +kernel) (by decide +kernel)
set_option maxRecDepth 20000 in
theorem gX8_collect_X8_blacken : GoodIn wsX8_collect (wsV RX8 127 RX8 yX8_blacken wsX8_blacken) := goodIn_app (goodIn_of _ (by decide +kernel)) ggX8_collect_X8_blacken
set_option maxRecDepth 20000 in
theorem ggX8_collect_X8_gather : GoodIn wsX8_collect wsX8_gather := goodIn_r _ [80, 4, 16, 5, 6, 7, 8, 31, 81, 82, 83, 13, 84, 23, 37, 38, 39, 40, 41, 85, 86, 87, 88, 29, 30, 89, 15, 90, 91, 92, 93, 9, 65, 66, 67, 68, 69, 70, 71, 72, 73, 74, 75, 76, 56, 57, 58, 59, 17, 18, 19, 20, 21, 22, 24, 2, 94, 95, 96, 97, 98, 99, 100, 101, 102, 103, 104, 105, 106, 107, 108, 109, 110, 111, 112, 113, 114, 115, 116, 117, 118, 119, 120, 121, 122, 123, 124] (by decide +kernel) (by decide +kernel)
set_option maxRecDepth 20000 in
theorem gX8_collect_X8_gather : GoodIn wsX8_collect (wsV RX8 151 RX8 yX8_gather wsX8_gather) := goodIn_app (goodIn_of _ (by decide +kernel)) ggX8_collect_X8_gather
theorem dX8_collect_0 : decode cX8_collect 0 = .ok (.aload_n 0, 1) := by decide +kernel
theorem dX8_collect_1 : decode cX8_collect 1 = .ok (.iconst 0, 1) := by decide +kernel
theorem dX8_collect_2 : decode cX8_collect 2 = .ok (.putfield 1, 3) := by decide +kernel
theorem dX8_collect_5 : decode cX8_collect 5 = .ok (.aload_n 0, 1) := by decide +kernel
theorem dX8_collect_6 : decode cX8_collect 6 = .ok (.getfield 82, 3) := by decide +kernel
theorem dX8_collect_9 : decode cX8_collect 9 = .ok (.istore_n 1, 1) := by decide +kernel
theorem dX8_collect_10 : decode cX8_collect 10 = .ok (.aload_n 0, 1) := by decide +kernel
theorem dX8_collect_11 : decode cX8_collect 11 = .ok (.dup, 1) := by decide +kernel
theorem dX8_collect_12 : decode cX8_collect 12 = .ok (.getfield 139, 3) := by decide +kernel
theorem dX8_collect_15 : decode cX8_collect 15 = .ok (.iconst 1, 1) := by decide +kernel
theorem dX8_collect_16 : decode cX8_collect 16 = .ok (.iadd, 1) := by decide +kernel
theorem dX8_collect_17 : decode cX8_collect 17 = .ok (.putfield 139, 3) := by decide +kernel
theorem dX8_collect_20 : decode cX8_collect 20 = .ok (.aload_n 0, 1) := by decide +kernel
theorem dX8_collect_21 : decode cX8_collect 21 = .ok (.invokevirtual 142, 3) := by decide +kernel
theorem dX8_collect_24 : decode cX8_collect 24 = .ok (.iconst 0, 1) := by decide +kernel
theorem dX8_collect_25 : decode cX8_collect 25 = .ok (.istore_n 2, 1) := by decide +kernel
theorem dX8_collect_26 : decode cX8_collect 26 = .ok (.iload_n 2, 1) := by decide +kernel
theorem dX8_collect_27 : decode cX8_collect 27 = .ok (.aload_n 0, 1) := by decide +kernel
theorem dX8_collect_28 : decode cX8_collect 28 = .ok (.getfield 88, 3) := by decide +kernel
theorem dX8_collect_31 : decode cX8_collect 31 = .ok (.if_icmp .ge 19, 3) := by decide +kernel
theorem dX8_collect_34 : decode cX8_collect 34 = .ok (.aload_n 0, 1) := by decide +kernel
theorem dX8_collect_35 : decode cX8_collect 35 = .ok (.aload_n 0, 1) := by decide +kernel
theorem dX8_collect_36 : decode cX8_collect 36 = .ok (.getfield 54, 3) := by decide +kernel
theorem dX8_collect_39 : decode cX8_collect 39 = .ok (.iload_n 2, 1) := by decide +kernel
theorem dX8_collect_40 : decode cX8_collect 40 = .ok (.iaload, 1) := by decide +kernel
theorem dX8_collect_41 : decode cX8_collect 41 = .ok (.invokevirtual 145, 3) := by decide +kernel
theorem dX8_collect_44 : decode cX8_collect 44 = .ok (.iinc 2 1, 3) := by decide +kernel
theorem dX8_collect_47 : decode cX8_collect 47 = .ok (.goto (-21), 3) := by decide +kernel
theorem dX8_collect_50 : decode cX8_collect 50 = .ok (.aload_n 0, 1) := by decide +kernel
theorem dX8_collect_51 : decode cX8_collect 51 = .ok (.invokevirtual 148, 3) := by decide +kernel
theorem dX8_collect_54 : decode cX8_collect 54 = .ok (.iconst 0, 1) := by decide +kernel
theorem dX8_collect_55 : decode cX8_collect 55 = .ok (.istore_n 2, 1) := by decide +kernel
theorem dX8_collect_56 : decode cX8_collect 56 = .ok (.iload_n 2, 1) := by decide +kernel
theorem dX8_collect_57 : decode cX8_collect 57 = .ok (.aload_n 0, 1) := by decide +kernel
theorem dX8_collect_58 : decode cX8_collect 58 = .ok (.getfield 130, 3) := by decide +kernel
theorem dX8_collect_61 : decode cX8_collect 61 = .ok (.if_icmp .ge 54, 3) := by decide +kernel
theorem dX8_collect_64 : decode cX8_collect 64 = .ok (.aload_n 0, 1) := by decide +kernel
theorem dX8_collect_65 : decode cX8_collect 65 = .ok (.getfield 72, 3) := by decide +kernel
theorem dX8_collect_68 : decode cX8_collect 68 = .ok (.iload_n 2, 1) := by decide +kernel
theorem dX8_collect_69 : decode cX8_collect 69 = .ok (.iaload, 1) := by decide +kernel
theorem dX8_collect_70 : decode cX8_collect 70 = .ok (.istore_n 3, 1) := by decide +kernel
theorem dX8_collect_71 : decode cX8_collect 71 = .ok (.aload_n 0, 1) := by decide +kernel
theorem dX8_collect_72 : decode cX8_collect 72 = .ok (.getfield 30, 3) := by decide +kernel
theorem dX8_collect_75 : decode cX8_collect 75 = .ok (.iload_n 3, 1) := by decide +kernel
theorem dX8_collect_76 : decode cX8_collect 76 = .ok (.iaload, 1) := by decide +kernel
theorem dX8_collect_77 : decode cX8_collect 77 = .ok (.iconst 2, 1) := by decide +kernel
theorem dX8_collect_78 : decode cX8_collect 78 = .ok (.if_icmp .ne 31, 3) := by decide +kernel
theorem dX8_collect_81 : decode cX8_collect 81 = .ok (.aload_n 0, 1) := by decide +kernel
theorem dX8_collect_82 : decode cX8_collect 82 = .ok (.iload_n 3, 1) := by decide +kernel
theorem dX8_collect_83 : decode cX8_collect 83 = .ok (.invokevirtual 91, 3) := by decide +kernel
theorem dX8_collect_86 : decode cX8_collect 86 = .ok (.ifCond .eq 23, 3) := by decide +kernel
theorem dX8_collect_89 : decode cX8_collect 89 = .ok (.aload_n 0, 1) := by decide +kernel
theorem dX8_collect_90 : decode cX8_collect 90 = .ok (.iload_n 3, 1) := by decide +kernel
theorem dX8_collect_91 : decode cX8_collect 91 = .ok (.invokevirtual 94, 3) := by decide +kernel
theorem dX8_collect_94 : decode cX8_collect 94 = .ok (.aload_n 0, 1) := by decide +kernel
theorem dX8_collect_95 : decode cX8_collect 95 = .ok (.getfield 27, 3) := by decide +kernel
theorem dX8_collect_98 : decode cX8_collect 98 = .ok (.iload_n 3, 1) := by decide +kernel
theorem dX8_collect_99 : decode cX8_collect 99 = .ok (.dup2, 1) := by decide +kernel
theorem dX8_collect_100 : decode cX8_collect 100 = .ok (.iaload, 1) := by decide +kernel
theorem dX8_collect_101 : decode cX8_collect 101 = .ok (.iconst 1, 1) := by decide +kernel
theorem dX8_collect_102 : decode cX8_collect 102 = .ok (.iadd, 1) := by decide +kernel
theorem dX8_collect_103 : decode cX8_collect 103 = .ok (.iastore, 1) := by decide +kernel
theorem dX8_collect_104 : decode cX8_collect 104 = .ok (.aload_n 0, 1) := by decide +kernel
theorem dX8_collect_105 : decode cX8_collect 105 = .ok (.iload_n 3, 1) := by decide +kernel
theorem dX8_collect_106 : decode cX8_collect 106 = .ok (.invokevirtual 127, 3) := by decide +kernel
theorem dX8_collect_109 : decode cX8_collect 109 = .ok (.iinc 2 1, 3) := by decide +kernel
theorem dX8_collect_112 : decode cX8_collect 112 = .ok (.goto (-56), 3) := by decide +kernel
theorem dX8_collect_115 : decode cX8_collect 115 = .ok (.aload_n 0, 1) := by decide +kernel
theorem dX8_collect_116 : decode cX8_collect 116 = .ok (.invokevirtual 151, 3) := by decide +kernel
theorem dX8_collect_119 : decode cX8_collect 119 = .ok (.aload_n 0, 1) := by decide +kernel
theorem dX8_collect_120 : decode cX8_collect 120 = .ok (.getfield 82, 3) := by decide +kernel
theorem dX8_collect_123 : decode cX8_collect 123 = .ok (.iload_n 1, 1) := by decide +kernel
theorem dX8_collect_124 : decode cX8_collect 124 = .ok (.isub, 1) := by decide +kernel
theorem dX8_collect_125 : decode cX8_collect 125 = .ok (.ireturn, 1) := by decide +kernel
theorem dX8_place_0 : decode cX8_place 0 = .ok (.iconst 0, 1) := by decide +kernel
theorem dX8_place_1 : decode cX8_place 1 = .ok (.istore_n 2, 1) := by decide +kernel
theorem dX8_place_2 : decode cX8_place 2 = .ok (.iconst 0, 1) := by decide +kernel
theorem dX8_place_3 : decode cX8_place 3 = .ok (.istore_n 3, 1) := by decide +kernel
theorem dX8_place_4 : decode cX8_place 4 = .ok (.iload_n 3, 1) := by decide +kernel
theorem dX8_place_5 : decode cX8_place 5 = .ok (.sipush 400, 3) := by decide +kernel
theorem dX8_place_8 : decode cX8_place 8 = .ok (.if_icmp .ge 37, 3) := by decide +kernel
theorem dX8_place_11 : decode cX8_place 11 = .ok (.aload_n 0, 1) := by decide +kernel
theorem dX8_place_12 : decode cX8_place 12 = .ok (.getfield 51, 3) := by decide +kernel
theorem dX8_place_15 : decode cX8_place 15 = .ok (.iload_n 3, 1) := by decide +kernel
theorem dX8_place_16 : decode cX8_place 16 = .ok (.iaload, 1) := by decide +kernel
theorem dX8_place_17 : decode cX8_place 17 = .ok (.ifCond .ge 9, 3) := by decide +kernel
theorem dX8_place_20 : decode cX8_place 20 = .ok (.iload_n 2, 1) := by decide +kernel
theorem dX8_place_21 : decode cX8_place 21 = .ok (.iconst 1, 1) := by decide +kernel
theorem dX8_place_22 : decode cX8_place 22 = .ok (.iadd, 1) := by decide +kernel
theorem dX8_place_23 : decode cX8_place 23 = .ok (.goto 4, 3) := by decide +kernel
theorem dX8_place_26 : decode cX8_place 26 = .ok (.iconst 0, 1) := by decide +kernel
theorem dX8_place_27 : decode cX8_place 27 = .ok (.istore_n 2, 1) := by decide +kernel
theorem dX8_place_28 : decode cX8_place 28 = .ok (.iload_n 2, 1) := by decide +kernel
theorem dX8_place_29 : decode cX8_place 29 = .ok (.iload_n 1, 1) := by decide +kernel
theorem dX8_place_30 : decode cX8_place 30 = .ok (.if_icmp .ne 9, 3) := by decide +kernel
theorem dX8_place_33 : decode cX8_place 33 = .ok (.iload_n 3, 1) := by decide +kernel
theorem dX8_place_34 : decode cX8_place 34 = .ok (.iconst 1, 1) := by decide +kernel
theorem dX8_place_35 : decode cX8_place 35 = .ok (.iadd, 1) := by decide +kernel
theorem dX8_place_36 : decode cX8_place 36 = .ok (.iload_n 1, 1) := by decide +kernel
theorem dX8_place_37 : decode cX8_place 37 = .ok (.isub, 1) := by decide +kernel
theorem dX8_place_38 : decode cX8_place 38 = .ok (.ireturn, 1) := by decide +kernel
theorem dX8_place_39 : decode cX8_place 39 = .ok (.iinc 3 1, 3) := by decide +kernel
theorem dX8_place_42 : decode cX8_place 42 = .ok (.goto (-38), 3) := by decide +kernel
theorem dX8_place_45 : decode cX8_place 45 = .ok (.iconst (-1), 1) := by decide +kernel
theorem dX8_place_46 : decode cX8_place 46 = .ok (.ireturn, 1) := by decide +kernel
theorem dX8_number_0 : decode cX8_number 0 = .ok (.iconst 0, 1) := by decide +kernel
theorem dX8_number_1 : decode cX8_number 1 = .ok (.istore_n 1, 1) := by decide +kernel
theorem dX8_number_2 : decode cX8_number 2 = .ok (.iload_n 1, 1) := by decide +kernel
theorem dX8_number_3 : decode cX8_number 3 = .ok (.bipush 80, 2) := by decide +kernel
theorem dX8_number_5 : decode cX8_number 5 = .ok (.if_icmp .ge 18, 3) := by decide +kernel
theorem dX8_number_8 : decode cX8_number 8 = .ok (.aload_n 0, 1) := by decide +kernel
theorem dX8_number_9 : decode cX8_number 9 = .ok (.getfield 24, 3) := by decide +kernel
theorem dX8_number_12 : decode cX8_number 12 = .ok (.iload_n 1, 1) := by decide +kernel
theorem dX8_number_13 : decode cX8_number 13 = .ok (.iaload, 1) := by decide +kernel
theorem dX8_number_14 : decode cX8_number 14 = .ok (.ifCond .lt 9, 3) := by decide +kernel
theorem dX8_number_17 : decode cX8_number 17 = .ok (.iinc 1 1, 3) := by decide +kernel
theorem dX8_number_20 : decode cX8_number 20 = .ok (.goto (-18), 3) := by decide +kernel
theorem dX8_number_23 : decode cX8_number 23 = .ok (.iload_n 1, 1) := by decide +kernel
theorem dX8_number_24 : decode cX8_number 24 = .ok (.bipush 80, 2) := by decide +kernel
theorem dX8_number_26 : decode cX8_number 26 = .ok (.if_icmp .ge 7, 3) := by decide +kernel
theorem dX8_number_29 : decode cX8_number 29 = .ok (.iload_n 1, 1) := by decide +kernel
theorem dX8_number_30 : decode cX8_number 30 = .ok (.goto 4, 3) := by decide +kernel
theorem dX8_number_33 : decode cX8_number 33 = .ok (.iconst (-1), 1) := by decide +kernel
theorem dX8_number_34 : decode cX8_number 34 = .ok (.ireturn, 1) := by decide +kernel
theorem dX8_freeWords_0 : decode cX8_freeWords 0 = .ok (.iconst 0, 1) := by decide +kernel
theorem dX8_freeWords_1 : decode cX8_freeWords 1 = .ok (.istore_n 1, 1) := by decide +kernel
theorem dX8_freeWords_2 : decode cX8_freeWords 2 = .ok (.iconst 0, 1) := by decide +kernel
theorem dX8_freeWords_3 : decode cX8_freeWords 3 = .ok (.istore_n 2, 1) := by decide +kernel
theorem dX8_freeWords_4 : decode cX8_freeWords 4 = .ok (.iload_n 2, 1) := by decide +kernel
theorem dX8_freeWords_5 : decode cX8_freeWords 5 = .ok (.sipush 400, 3) := by decide +kernel
theorem dX8_freeWords_8 : decode cX8_freeWords 8 = .ok (.if_icmp .ge 26, 3) := by decide +kernel
theorem dX8_freeWords_11 : decode cX8_freeWords 11 = .ok (.iload_n 1, 1) := by decide +kernel
theorem dX8_freeWords_12 : decode cX8_freeWords 12 = .ok (.aload_n 0, 1) := by decide +kernel
theorem dX8_freeWords_13 : decode cX8_freeWords 13 = .ok (.getfield 51, 3) := by decide +kernel
theorem dX8_freeWords_16 : decode cX8_freeWords 16 = .ok (.iload_n 2, 1) := by decide +kernel
theorem dX8_freeWords_17 : decode cX8_freeWords 17 = .ok (.iaload, 1) := by decide +kernel
theorem dX8_freeWords_18 : decode cX8_freeWords 18 = .ok (.ifCond .ge 7, 3) := by decide +kernel
theorem dX8_freeWords_21 : decode cX8_freeWords 21 = .ok (.iconst 1, 1) := by decide +kernel
theorem dX8_freeWords_22 : decode cX8_freeWords 22 = .ok (.goto 4, 3) := by decide +kernel
theorem dX8_freeWords_25 : decode cX8_freeWords 25 = .ok (.iconst 0, 1) := by decide +kernel
theorem dX8_freeWords_26 : decode cX8_freeWords 26 = .ok (.iadd, 1) := by decide +kernel
theorem dX8_freeWords_27 : decode cX8_freeWords 27 = .ok (.istore_n 1, 1) := by decide +kernel
theorem dX8_freeWords_28 : decode cX8_freeWords 28 = .ok (.iinc 2 1, 3) := by decide +kernel
theorem dX8_freeWords_31 : decode cX8_freeWords 31 = .ok (.goto (-27), 3) := by decide +kernel
theorem dX8_freeWords_34 : decode cX8_freeWords 34 = .ok (.iload_n 1, 1) := by decide +kernel
theorem dX8_freeWords_35 : decode cX8_freeWords 35 = .ok (.ireturn, 1) := by decide +kernel
set_option maxRecDepth 20000 in
theorem ggX8_pack_X8_findByAddress : GoodIn wsX8_pack wsX8_findByAddress := goodIn_r _ [13, 4, 3, 6, 5, 14, 15, 16, 17, 18, 19, 20, 21, 22, 23, 24, 25, 26, 27, 28, 29, 30, 31, 32, 33, 34, 35, 36, 37, 38, 39, 40, 41, 42, 43, 44] (by decide +kernel) (by decide +kernel)
set_option maxRecDepth 20000 in
theorem gX8_pack_X8_findByAddress : GoodIn wsX8_pack (wsV RX8 148 RX8 yX8_findByAddress wsX8_findByAddress) := goodIn_app (goodIn_of _ (by decide +kernel)) ggX8_pack_X8_findByAddress
theorem dX8_pack_0 : decode cX8_pack 0 = .ok (.aload_n 0, 1) := by decide +kernel
theorem dX8_pack_1 : decode cX8_pack 1 = .ok (.iconst 0, 1) := by decide +kernel
theorem dX8_pack_2 : decode cX8_pack 2 = .ok (.putfield 1, 3) := by decide +kernel
theorem dX8_pack_5 : decode cX8_pack 5 = .ok (.aload_n 0, 1) := by decide +kernel
theorem dX8_pack_6 : decode cX8_pack 6 = .ok (.dup, 1) := by decide +kernel
theorem dX8_pack_7 : decode cX8_pack 7 = .ok (.getfield 154, 3) := by decide +kernel
theorem dX8_pack_10 : decode cX8_pack 10 = .ok (.iconst 1, 1) := by decide +kernel
theorem dX8_pack_11 : decode cX8_pack 11 = .ok (.iadd, 1) := by decide +kernel
theorem dX8_pack_12 : decode cX8_pack 12 = .ok (.putfield 154, 3) := by decide +kernel
theorem dX8_pack_15 : decode cX8_pack 15 = .ok (.aload_n 0, 1) := by decide +kernel
theorem dX8_pack_16 : decode cX8_pack 16 = .ok (.invokevirtual 148, 3) := by decide +kernel
theorem dX8_pack_19 : decode cX8_pack 19 = .ok (.iconst 0, 1) := by decide +kernel
theorem dX8_pack_20 : decode cX8_pack 20 = .ok (.istore_n 1, 1) := by decide +kernel
theorem dX8_pack_21 : decode cX8_pack 21 = .ok (.iload_n 1, 1) := by decide +kernel
theorem dX8_pack_22 : decode cX8_pack 22 = .ok (.sipush 400, 3) := by decide +kernel
theorem dX8_pack_25 : decode cX8_pack 25 = .ok (.if_icmp .ge 16, 3) := by decide +kernel
theorem dX8_pack_28 : decode cX8_pack 28 = .ok (.aload_n 0, 1) := by decide +kernel
theorem dX8_pack_29 : decode cX8_pack 29 = .ok (.getfield 51, 3) := by decide +kernel
theorem dX8_pack_32 : decode cX8_pack 32 = .ok (.iload_n 1, 1) := by decide +kernel
theorem dX8_pack_33 : decode cX8_pack 33 = .ok (.iconst (-1), 1) := by decide +kernel
theorem dX8_pack_34 : decode cX8_pack 34 = .ok (.iastore, 1) := by decide +kernel
theorem dX8_pack_35 : decode cX8_pack 35 = .ok (.iinc 1 1, 3) := by decide +kernel
theorem dX8_pack_38 : decode cX8_pack 38 = .ok (.goto (-17), 3) := by decide +kernel
theorem dX8_pack_41 : decode cX8_pack 41 = .ok (.iconst 0, 1) := by decide +kernel
theorem dX8_pack_42 : decode cX8_pack 42 = .ok (.istore_n 1, 1) := by decide +kernel
theorem dX8_pack_43 : decode cX8_pack 43 = .ok (.iconst 0, 1) := by decide +kernel
theorem dX8_pack_44 : decode cX8_pack 44 = .ok (.istore_n 2, 1) := by decide +kernel
theorem dX8_pack_45 : decode cX8_pack 45 = .ok (.iconst 0, 1) := by decide +kernel
theorem dX8_pack_46 : decode cX8_pack 46 = .ok (.istore_n 3, 1) := by decide +kernel
theorem dX8_pack_47 : decode cX8_pack 47 = .ok (.iload_n 3, 1) := by decide +kernel
theorem dX8_pack_48 : decode cX8_pack 48 = .ok (.aload_n 0, 1) := by decide +kernel
theorem dX8_pack_49 : decode cX8_pack 49 = .ok (.getfield 130, 3) := by decide +kernel
theorem dX8_pack_52 : decode cX8_pack 52 = .ok (.if_icmp .ge 81, 3) := by decide +kernel
theorem dX8_pack_55 : decode cX8_pack 55 = .ok (.aload_n 0, 1) := by decide +kernel
theorem dX8_pack_56 : decode cX8_pack 56 = .ok (.getfield 72, 3) := by decide +kernel
theorem dX8_pack_59 : decode cX8_pack 59 = .ok (.iload_n 3, 1) := by decide +kernel
theorem dX8_pack_60 : decode cX8_pack 60 = .ok (.iaload, 1) := by decide +kernel
theorem dX8_pack_61 : decode cX8_pack 61 = .ok (.istore 4, 2) := by decide +kernel
theorem dX8_pack_63 : decode cX8_pack 63 = .ok (.iload_n 2, 1) := by decide +kernel
theorem dX8_pack_64 : decode cX8_pack 64 = .ok (.aload_n 0, 1) := by decide +kernel
theorem dX8_pack_65 : decode cX8_pack 65 = .ok (.getfield 33, 3) := by decide +kernel
theorem dX8_pack_68 : decode cX8_pack 68 = .ok (.iload 4, 2) := by decide +kernel
theorem dX8_pack_70 : decode cX8_pack 70 = .ok (.iaload, 1) := by decide +kernel
theorem dX8_pack_71 : decode cX8_pack 71 = .ok (.iload_n 1, 1) := by decide +kernel
theorem dX8_pack_72 : decode cX8_pack 72 = .ok (.if_icmp .eq 7, 3) := by decide +kernel
theorem dX8_pack_75 : decode cX8_pack 75 = .ok (.iconst 1, 1) := by decide +kernel
theorem dX8_pack_76 : decode cX8_pack 76 = .ok (.goto 4, 3) := by decide +kernel
theorem dX8_pack_79 : decode cX8_pack 79 = .ok (.iconst 0, 1) := by decide +kernel
theorem dX8_pack_80 : decode cX8_pack 80 = .ok (.iadd, 1) := by decide +kernel
theorem dX8_pack_81 : decode cX8_pack 81 = .ok (.istore_n 2, 1) := by decide +kernel
theorem dX8_pack_82 : decode cX8_pack 82 = .ok (.aload_n 0, 1) := by decide +kernel
theorem dX8_pack_83 : decode cX8_pack 83 = .ok (.getfield 33, 3) := by decide +kernel
theorem dX8_pack_86 : decode cX8_pack 86 = .ok (.iload 4, 2) := by decide +kernel
theorem dX8_pack_88 : decode cX8_pack 88 = .ok (.iload_n 1, 1) := by decide +kernel
theorem dX8_pack_89 : decode cX8_pack 89 = .ok (.iastore, 1) := by decide +kernel
theorem dX8_pack_90 : decode cX8_pack 90 = .ok (.iconst 0, 1) := by decide +kernel
theorem dX8_pack_91 : decode cX8_pack 91 = .ok (.istore 5, 2) := by decide +kernel
theorem dX8_pack_93 : decode cX8_pack 93 = .ok (.iload 5, 2) := by decide +kernel
theorem dX8_pack_95 : decode cX8_pack 95 = .ok (.aload_n 0, 1) := by decide +kernel
theorem dX8_pack_96 : decode cX8_pack 96 = .ok (.getfield 17, 3) := by decide +kernel
theorem dX8_pack_99 : decode cX8_pack 99 = .ok (.aload_n 0, 1) := by decide +kernel
theorem dX8_pack_100 : decode cX8_pack 100 = .ok (.getfield 24, 3) := by decide +kernel
theorem dX8_pack_103 : decode cX8_pack 103 = .ok (.iload 4, 2) := by decide +kernel
theorem dX8_pack_105 : decode cX8_pack 105 = .ok (.iaload, 1) := by decide +kernel
theorem dX8_pack_106 : decode cX8_pack 106 = .ok (.iaload, 1) := by decide +kernel
theorem dX8_pack_107 : decode cX8_pack 107 = .ok (.if_icmp .ge 20, 3) := by decide +kernel
theorem dX8_pack_110 : decode cX8_pack 110 = .ok (.aload_n 0, 1) := by decide +kernel
theorem dX8_pack_111 : decode cX8_pack 111 = .ok (.getfield 51, 3) := by decide +kernel
theorem dX8_pack_114 : decode cX8_pack 114 = .ok (.iload_n 1, 1) := by decide +kernel
theorem dX8_pack_115 : decode cX8_pack 115 = .ok (.iload 4, 2) := by decide +kernel
theorem dX8_pack_117 : decode cX8_pack 117 = .ok (.iastore, 1) := by decide +kernel
theorem dX8_pack_118 : decode cX8_pack 118 = .ok (.iinc 1 1, 3) := by decide +kernel
theorem dX8_pack_121 : decode cX8_pack 121 = .ok (.iinc 5 1, 3) := by decide +kernel
theorem dX8_pack_124 : decode cX8_pack 124 = .ok (.goto (-31), 3) := by decide +kernel
theorem dX8_pack_127 : decode cX8_pack 127 = .ok (.iinc 3 1, 3) := by decide +kernel
theorem dX8_pack_130 : decode cX8_pack 130 = .ok (.goto (-83), 3) := by decide +kernel
theorem dX8_pack_133 : decode cX8_pack 133 = .ok (.iload_n 2, 1) := by decide +kernel
theorem dX8_pack_134 : decode cX8_pack 134 = .ok (.ireturn, 1) := by decide +kernel
set_option maxRecDepth 20000 in
theorem ggX8_make_X8_place : GoodIn wsX8_make wsX8_place := goodIn_r _ [18, 13, 117, 118, 119, 120, 121, 122, 123, 124, 125, 126, 127, 128, 129, 130, 131, 132, 133, 134, 135, 136, 137, 138, 139, 140, 141, 142, 143, 144, 145, 146, 147] (by decide +kernel) (by decide +kernel)
set_option maxRecDepth 20000 in
theorem gX8_make_X8_place : GoodIn wsX8_make (wsV RX8 157 RX8 yX8_place wsX8_place) := goodIn_app (goodIn_of _ (by decide +kernel)) ggX8_make_X8_place
set_option maxRecDepth 20000 in
theorem ggX8_make_X8_number : GoodIn wsX8_make wsX8_number := goodIn_r _ [22, 4, 117, 118, 119, 120, 121, 122, 123, 124, 125, 126, 127, 128, 129, 130, 131, 132, 133, 134, 135, 136, 137, 138, 139, 140, 141, 142, 143, 144, 145, 146, 147] (by decide +kernel) (by decide +kernel)
set_option maxRecDepth 20000 in
theorem gX8_make_X8_number : GoodIn wsX8_make (wsV RX8 160 RX8 yX8_number wsX8_number) := goodIn_app (goodIn_of _ (by decide +kernel)) ggX8_make_X8_number
set_option maxRecDepth 20000 in
theorem ggX8_make_X8_collect : GoodIn wsX8_make wsX8_collect := goodIn_r _ [26, 2, 27, 28, 29, 30, 31, 32, 7, 5, 33, 34, 35, 17, 36, 11, 9, 37, 38, 39, 40, 13, 41, 4, 42, 43, 44, 45, 46, 47, 48, 12, 49, 50, 51, 52, 53, 54, 55, 56, 57, 1, 58, 59, 60, 61, 62, 63, 64, 65, 66, 67, 68, 69, 70, 71, 72, 73, 74, 75, 76, 77, 78, 79, 8, 80, 81, 82, 83, 84, 10, 85, 86, 87, 88, 89, 90, 91, 92, 93, 94, 95, 96, 97, 98, 99, 100, 101, 102, 103, 104, 105, 106, 107, 117, 118, 119, 120, 121, 122, 123, 124, 125, 126, 127, 128, 129, 130, 131, 132, 133, 134, 135, 136, 137, 138, 139, 140, 141, 142, 143, 144, 145, 146, 147] (by decide +kernel) (by decide +kernel)
set_option maxRecDepth 20000 in
theorem gX8_make_X8_collect : GoodIn wsX8_make (wsV RX8 164 RX8 yX8_collect wsX8_collect) := goodIn_app (goodIn_of _ (by decide +kernel)) ggX8_make_X8_collect
set_option maxRecDepth 20000 in
theorem ggX8_make_X8_freeWords : GoodIn wsX8_make wsX8_freeWords := goodIn_r _ [111, 13, 117, 118, 119, 120, 121, 122, 123, 124, 125, 126, 127, 128, 129, 130, 131, 132, 133, 134, 135, 136, 137, 138, 139, 140, 141, 142, 143, 144, 145, 146, 147] (by decide +kernel) (by decide +kernel)
set_option maxRecDepth 20000 in
theorem gX8_make_X8_freeWords : GoodIn wsX8_make (wsV RX8 167 RX8 yX8_freeWords wsX8_freeWords) := goodIn_app (goodIn_of _ (by decide +kernel)) ggX8_make_X8_freeWords
set_option maxRecDepth 20000 in
theorem ggX8_make_X8_pack : GoodIn wsX8_make wsX8_pack := goodIn_r _ [115, 2, 116, 13, 31, 32, 8, 3, 4, 76, 77, 78, 17, 79, 117, 118, 119, 120, 121, 122, 123, 124, 125, 126, 127, 128, 129, 130, 131, 132, 133, 134, 135, 136, 137, 138, 139, 140, 141, 142, 143, 144, 145, 146, 147] (by decide +kernel) (by decide +kernel)
set_option maxRecDepth 20000 in
theorem gX8_make_X8_pack : GoodIn wsX8_make (wsV RX8 170 RX8 yX8_pack wsX8_pack) := goodIn_app (goodIn_of _ (by decide +kernel)) ggX8_make_X8_pack
theorem dX8_make_0 : decode cX8_make 0 = .ok (.aload_n 0, 1) := by decide +kernel
theorem dX8_make_1 : decode cX8_make 1 = .ok (.iload_n 1, 1) := by decide +kernel
theorem dX8_make_2 : decode cX8_make 2 = .ok (.ifCond .lt 18, 3) := by decide +kernel
theorem dX8_make_5 : decode cX8_make 5 = .ok (.iload_n 1, 1) := by decide +kernel
theorem dX8_make_6 : decode cX8_make 6 = .ok (.bipush 10, 2) := by decide +kernel
theorem dX8_make_8 : decode cX8_make 8 = .ok (.if_icmp .ge 12, 3) := by decide +kernel
theorem dX8_make_11 : decode cX8_make 11 = .ok (.aload_n 0, 1) := by decide +kernel
theorem dX8_make_12 : decode cX8_make 12 = .ok (.getfield 13, 3) := by decide +kernel
theorem dX8_make_15 : decode cX8_make 15 = .ok (.iload_n 1, 1) := by decide +kernel
theorem dX8_make_16 : decode cX8_make 16 = .ok (.iaload, 1) := by decide +kernel
theorem dX8_make_17 : decode cX8_make 17 = .ok (.ifCond .ge 7, 3) := by decide +kernel
theorem dX8_make_20 : decode cX8_make 20 = .ok (.iconst 1, 1) := by decide +kernel
theorem dX8_make_21 : decode cX8_make 21 = .ok (.goto 4, 3) := by decide +kernel
theorem dX8_make_24 : decode cX8_make 24 = .ok (.iconst 0, 1) := by decide +kernel
theorem dX8_make_25 : decode cX8_make 25 = .ok (.putfield 1, 3) := by decide +kernel
theorem dX8_make_28 : decode cX8_make 28 = .ok (.aload_n 0, 1) := by decide +kernel
theorem dX8_make_29 : decode cX8_make 29 = .ok (.getfield 1, 3) := by decide +kernel
theorem dX8_make_32 : decode cX8_make 32 = .ok (.ifCond .le 5, 3) := by decide +kernel
theorem dX8_make_35 : decode cX8_make 35 = .ok (.iconst 0, 1) := by decide +kernel
theorem dX8_make_36 : decode cX8_make 36 = .ok (.ireturn, 1) := by decide +kernel
theorem dX8_make_37 : decode cX8_make 37 = .ok (.aload_n 0, 1) := by decide +kernel
theorem dX8_make_38 : decode cX8_make 38 = .ok (.getfield 17, 3) := by decide +kernel
theorem dX8_make_41 : decode cX8_make 41 = .ok (.iload_n 1, 1) := by decide +kernel
theorem dX8_make_42 : decode cX8_make 42 = .ok (.iaload, 1) := by decide +kernel
theorem dX8_make_43 : decode cX8_make 43 = .ok (.istore_n 2, 1) := by decide +kernel
theorem dX8_make_44 : decode cX8_make 44 = .ok (.aload_n 0, 1) := by decide +kernel
theorem dX8_make_45 : decode cX8_make 45 = .ok (.iload_n 2, 1) := by decide +kernel
theorem dX8_make_46 : decode cX8_make 46 = .ok (.invokevirtual 157, 3) := by decide +kernel
theorem dX8_make_49 : decode cX8_make 49 = .ok (.ifCond .lt 10, 3) := by decide +kernel
theorem dX8_make_52 : decode cX8_make 52 = .ok (.aload_n 0, 1) := by decide +kernel
theorem dX8_make_53 : decode cX8_make 53 = .ok (.invokevirtual 160, 3) := by decide +kernel
theorem dX8_make_56 : decode cX8_make 56 = .ok (.ifCond .ge 36, 3) := by decide +kernel
theorem dX8_make_59 : decode cX8_make 59 = .ok (.aload_n 0, 1) := by decide +kernel
theorem dX8_make_60 : decode cX8_make 60 = .ok (.invokevirtual 164, 3) := by decide +kernel
theorem dX8_make_63 : decode cX8_make 63 = .ok (.pop, 1) := by decide +kernel
theorem dX8_make_64 : decode cX8_make 64 = .ok (.aload_n 0, 1) := by decide +kernel
theorem dX8_make_65 : decode cX8_make 65 = .ok (.invokevirtual 160, 3) := by decide +kernel
theorem dX8_make_68 : decode cX8_make 68 = .ok (.ifCond .lt 24, 3) := by decide +kernel
theorem dX8_make_71 : decode cX8_make 71 = .ok (.aload_n 0, 1) := by decide +kernel
theorem dX8_make_72 : decode cX8_make 72 = .ok (.iload_n 2, 1) := by decide +kernel
theorem dX8_make_73 : decode cX8_make 73 = .ok (.invokevirtual 157, 3) := by decide +kernel
theorem dX8_make_76 : decode cX8_make 76 = .ok (.ifCond .ge 16, 3) := by decide +kernel
theorem dX8_make_79 : decode cX8_make 79 = .ok (.aload_n 0, 1) := by decide +kernel
theorem dX8_make_80 : decode cX8_make 80 = .ok (.invokevirtual 167, 3) := by decide +kernel
theorem dX8_make_83 : decode cX8_make 83 = .ok (.iload_n 2, 1) := by decide +kernel
theorem dX8_make_84 : decode cX8_make 84 = .ok (.if_icmp .lt 8, 3) := by decide +kernel
theorem dX8_make_87 : decode cX8_make 87 = .ok (.aload_n 0, 1) := by decide +kernel
theorem dX8_make_88 : decode cX8_make 88 = .ok (.invokevirtual 170, 3) := by decide +kernel
theorem dX8_make_91 : decode cX8_make 91 = .ok (.pop, 1) := by decide +kernel
theorem dX8_make_92 : decode cX8_make 92 = .ok (.aload_n 0, 1) := by decide +kernel
theorem dX8_make_93 : decode cX8_make 93 = .ok (.invokevirtual 160, 3) := by decide +kernel
theorem dX8_make_96 : decode cX8_make 96 = .ok (.istore_n 3, 1) := by decide +kernel
theorem dX8_make_97 : decode cX8_make 97 = .ok (.aload_n 0, 1) := by decide +kernel
theorem dX8_make_98 : decode cX8_make 98 = .ok (.iload_n 2, 1) := by decide +kernel
theorem dX8_make_99 : decode cX8_make 99 = .ok (.invokevirtual 157, 3) := by decide +kernel
theorem dX8_make_102 : decode cX8_make 102 = .ok (.istore 4, 2) := by decide +kernel
theorem dX8_make_104 : decode cX8_make 104 = .ok (.iload_n 3, 1) := by decide +kernel
theorem dX8_make_105 : decode cX8_make 105 = .ok (.ifCond .lt 8, 3) := by decide +kernel
theorem dX8_make_108 : decode cX8_make 108 = .ok (.iload 4, 2) := by decide +kernel
theorem dX8_make_110 : decode cX8_make 110 = .ok (.ifCond .ge 6, 3) := by decide +kernel
theorem dX8_make_113 : decode cX8_make 113 = .ok (.bipush (-2), 2) := by decide +kernel
theorem dX8_make_115 : decode cX8_make 115 = .ok (.ireturn, 1) := by decide +kernel
theorem dX8_make_116 : decode cX8_make 116 = .ok (.aload_n 0, 1) := by decide +kernel
theorem dX8_make_117 : decode cX8_make 117 = .ok (.getfield 24, 3) := by decide +kernel
theorem dX8_make_120 : decode cX8_make 120 = .ok (.iload_n 3, 1) := by decide +kernel
theorem dX8_make_121 : decode cX8_make 121 = .ok (.iload_n 1, 1) := by decide +kernel
theorem dX8_make_122 : decode cX8_make 122 = .ok (.iastore, 1) := by decide +kernel
theorem dX8_make_123 : decode cX8_make 123 = .ok (.aload_n 0, 1) := by decide +kernel
theorem dX8_make_124 : decode cX8_make 124 = .ok (.getfield 27, 3) := by decide +kernel
theorem dX8_make_127 : decode cX8_make 127 = .ok (.iload_n 3, 1) := by decide +kernel
theorem dX8_make_128 : decode cX8_make 128 = .ok (.iconst 1, 1) := by decide +kernel
theorem dX8_make_129 : decode cX8_make 129 = .ok (.iastore, 1) := by decide +kernel
theorem dX8_make_130 : decode cX8_make 130 = .ok (.aload_n 0, 1) := by decide +kernel
theorem dX8_make_131 : decode cX8_make 131 = .ok (.getfield 36, 3) := by decide +kernel
theorem dX8_make_134 : decode cX8_make 134 = .ok (.iload_n 3, 1) := by decide +kernel
theorem dX8_make_135 : decode cX8_make 135 = .ok (.iconst 1, 1) := by decide +kernel
theorem dX8_make_136 : decode cX8_make 136 = .ok (.iastore, 1) := by decide +kernel
theorem dX8_make_137 : decode cX8_make 137 = .ok (.aload_n 0, 1) := by decide +kernel
theorem dX8_make_138 : decode cX8_make 138 = .ok (.getfield 30, 3) := by decide +kernel
theorem dX8_make_141 : decode cX8_make 141 = .ok (.iload_n 3, 1) := by decide +kernel
theorem dX8_make_142 : decode cX8_make 142 = .ok (.aload_n 0, 1) := by decide +kernel
theorem dX8_make_143 : decode cX8_make 143 = .ok (.getfield 13, 3) := by decide +kernel
theorem dX8_make_146 : decode cX8_make 146 = .ok (.iload_n 1, 1) := by decide +kernel
theorem dX8_make_147 : decode cX8_make 147 = .ok (.iaload, 1) := by decide +kernel
theorem dX8_make_148 : decode cX8_make 148 = .ok (.ifCond .ne 7, 3) := by decide +kernel
theorem dX8_make_151 : decode cX8_make 151 = .ok (.iconst 4, 1) := by decide +kernel
theorem dX8_make_152 : decode cX8_make 152 = .ok (.goto 4, 3) := by decide +kernel
theorem dX8_make_155 : decode cX8_make 155 = .ok (.iconst 0, 1) := by decide +kernel
theorem dX8_make_156 : decode cX8_make 156 = .ok (.iastore, 1) := by decide +kernel
theorem dX8_make_157 : decode cX8_make 157 = .ok (.aload_n 0, 1) := by decide +kernel
theorem dX8_make_158 : decode cX8_make 158 = .ok (.getfield 33, 3) := by decide +kernel
theorem dX8_make_161 : decode cX8_make 161 = .ok (.iload_n 3, 1) := by decide +kernel
theorem dX8_make_162 : decode cX8_make 162 = .ok (.iload 4, 2) := by decide +kernel
theorem dX8_make_164 : decode cX8_make 164 = .ok (.iastore, 1) := by decide +kernel
theorem dX8_make_165 : decode cX8_make 165 = .ok (.aload_n 0, 1) := by decide +kernel
theorem dX8_make_166 : decode cX8_make 166 = .ok (.getfield 39, 3) := by decide +kernel
theorem dX8_make_169 : decode cX8_make 169 = .ok (.iload_n 3, 1) := by decide +kernel
theorem dX8_make_170 : decode cX8_make 170 = .ok (.iconst 0, 1) := by decide +kernel
theorem dX8_make_171 : decode cX8_make 171 = .ok (.bastore, 1) := by decide +kernel
theorem dX8_make_172 : decode cX8_make 172 = .ok (.aload_n 0, 1) := by decide +kernel
theorem dX8_make_173 : decode cX8_make 173 = .ok (.getfield 42, 3) := by decide +kernel
theorem dX8_make_176 : decode cX8_make 176 = .ok (.iload_n 3, 1) := by decide +kernel
theorem dX8_make_177 : decode cX8_make 177 = .ok (.iconst 0, 1) := by decide +kernel
theorem dX8_make_178 : decode cX8_make 178 = .ok (.bastore, 1) := by decide +kernel
theorem dX8_make_179 : decode cX8_make 179 = .ok (.aload_n 0, 1) := by decide +kernel
theorem dX8_make_180 : decode cX8_make 180 = .ok (.getfield 45, 3) := by decide +kernel
theorem dX8_make_183 : decode cX8_make 183 = .ok (.iload_n 3, 1) := by decide +kernel
theorem dX8_make_184 : decode cX8_make 184 = .ok (.iconst 0, 1) := by decide +kernel
theorem dX8_make_185 : decode cX8_make 185 = .ok (.bastore, 1) := by decide +kernel
theorem dX8_make_186 : decode cX8_make 186 = .ok (.iconst 0, 1) := by decide +kernel
theorem dX8_make_187 : decode cX8_make 187 = .ok (.istore 5, 2) := by decide +kernel
theorem dX8_make_189 : decode cX8_make 189 = .ok (.iload 5, 2) := by decide +kernel
theorem dX8_make_191 : decode cX8_make 191 = .ok (.bipush 6, 2) := by decide +kernel
theorem dX8_make_193 : decode cX8_make 193 = .ok (.if_icmp .ge 22, 3) := by decide +kernel
theorem dX8_make_196 : decode cX8_make 196 = .ok (.aload_n 0, 1) := by decide +kernel
theorem dX8_make_197 : decode cX8_make 197 = .ok (.getfield 48, 3) := by decide +kernel
theorem dX8_make_200 : decode cX8_make 200 = .ok (.bipush 6, 2) := by decide +kernel
theorem dX8_make_202 : decode cX8_make 202 = .ok (.iload_n 3, 1) := by decide +kernel
theorem dX8_make_203 : decode cX8_make 203 = .ok (.imul, 1) := by decide +kernel
theorem dX8_make_204 : decode cX8_make 204 = .ok (.iload 5, 2) := by decide +kernel
theorem dX8_make_206 : decode cX8_make 206 = .ok (.iadd, 1) := by decide +kernel
theorem dX8_make_207 : decode cX8_make 207 = .ok (.iconst (-1), 1) := by decide +kernel
theorem dX8_make_208 : decode cX8_make 208 = .ok (.iastore, 1) := by decide +kernel
theorem dX8_make_209 : decode cX8_make 209 = .ok (.iinc 5 1, 3) := by decide +kernel
theorem dX8_make_212 : decode cX8_make 212 = .ok (.goto (-23), 3) := by decide +kernel
theorem dX8_make_215 : decode cX8_make 215 = .ok (.iconst 0, 1) := by decide +kernel
theorem dX8_make_216 : decode cX8_make 216 = .ok (.istore 5, 2) := by decide +kernel
theorem dX8_make_218 : decode cX8_make 218 = .ok (.iload 5, 2) := by decide +kernel
theorem dX8_make_220 : decode cX8_make 220 = .ok (.iload_n 2, 1) := by decide +kernel
theorem dX8_make_221 : decode cX8_make 221 = .ok (.if_icmp .ge 20, 3) := by decide +kernel
theorem dX8_make_224 : decode cX8_make 224 = .ok (.aload_n 0, 1) := by decide +kernel
theorem dX8_make_225 : decode cX8_make 225 = .ok (.getfield 51, 3) := by decide +kernel
theorem dX8_make_228 : decode cX8_make 228 = .ok (.iload 4, 2) := by decide +kernel
theorem dX8_make_230 : decode cX8_make 230 = .ok (.iload 5, 2) := by decide +kernel
theorem dX8_make_232 : decode cX8_make 232 = .ok (.iadd, 1) := by decide +kernel
theorem dX8_make_233 : decode cX8_make 233 = .ok (.iload_n 3, 1) := by decide +kernel
theorem dX8_make_234 : decode cX8_make 234 = .ok (.iastore, 1) := by decide +kernel
theorem dX8_make_235 : decode cX8_make 235 = .ok (.iinc 5 1, 3) := by decide +kernel
theorem dX8_make_238 : decode cX8_make 238 = .ok (.goto (-20), 3) := by decide +kernel
theorem dX8_make_241 : decode cX8_make 241 = .ok (.iload_n 3, 1) := by decide +kernel
theorem dX8_make_242 : decode cX8_make 242 = .ok (.ireturn, 1) := by decide +kernel
set_option maxRecDepth 20000 in
theorem ggX8_hold_X8_isWhole : GoodIn wsX8_hold wsX8_isWhole := goodIn_r _ [8, 9, 10, 11, 12, 7, 13, 14, 24, 25, 26, 27, 28, 29, 30, 31, 32, 33, 34, 35, 36, 37, 38, 39, 40, 41, 42, 43, 44, 45, 46, 47, 48, 49, 50, 51, 52, 53, 54] (by decide +kernel) (by decide +kernel)
set_option maxRecDepth 20000 in
theorem gX8_hold_X8_isWhole : GoodIn wsX8_hold (wsV RX8 173 RX8 yX8_isWhole wsX8_isWhole) := goodIn_app (goodIn_of _ (by decide +kernel)) ggX8_hold_X8_isWhole
set_option maxRecDepth 20000 in
theorem ggX8_hold_X8_more : GoodIn wsX8_hold wsX8_more := goodIn_r _ [18, 3, 19, 20, 21, 7, 22, 23, 24, 25, 26, 27, 28, 29, 30, 31, 32, 33, 34, 35, 36, 37, 38, 39, 40, 41, 42, 43, 44, 45, 46, 47, 48, 49, 50, 51, 52, 53, 54] (by decide +kernel) (by decide +kernel)
set_option maxRecDepth 20000 in
theorem gX8_hold_X8_more : GoodIn wsX8_hold (wsV RX8 176 RX8 yX8_more wsX8_more) := goodIn_app (goodIn_of _ (by decide +kernel)) ggX8_hold_X8_more
theorem dX8_hold_0 : decode cX8_hold 0 = .ok (.aload_n 0, 1) := by decide +kernel
theorem dX8_hold_1 : decode cX8_hold 1 = .ok (.iconst 0, 1) := by decide +kernel
theorem dX8_hold_2 : decode cX8_hold 2 = .ok (.putfield 1, 3) := by decide +kernel
theorem dX8_hold_5 : decode cX8_hold 5 = .ok (.aload_n 0, 1) := by decide +kernel
theorem dX8_hold_6 : decode cX8_hold 6 = .ok (.iload_n 1, 1) := by decide +kernel
theorem dX8_hold_7 : decode cX8_hold 7 = .ok (.invokevirtual 173, 3) := by decide +kernel
theorem dX8_hold_10 : decode cX8_hold 10 = .ok (.ifCond .ne 5, 3) := by decide +kernel
theorem dX8_hold_13 : decode cX8_hold 13 = .ok (.iconst (-1), 1) := by decide +kernel
theorem dX8_hold_14 : decode cX8_hold 14 = .ok (.ireturn, 1) := by decide +kernel
theorem dX8_hold_15 : decode cX8_hold 15 = .ok (.aload_n 0, 1) := by decide +kernel
theorem dX8_hold_16 : decode cX8_hold 16 = .ok (.getfield 36, 3) := by decide +kernel
theorem dX8_hold_19 : decode cX8_hold 19 = .ok (.iload_n 1, 1) := by decide +kernel
theorem dX8_hold_20 : decode cX8_hold 20 = .ok (.dup2, 1) := by decide +kernel
theorem dX8_hold_21 : decode cX8_hold 21 = .ok (.iaload, 1) := by decide +kernel
theorem dX8_hold_22 : decode cX8_hold 22 = .ok (.iconst 1, 1) := by decide +kernel
theorem dX8_hold_23 : decode cX8_hold 23 = .ok (.iadd, 1) := by decide +kernel
theorem dX8_hold_24 : decode cX8_hold 24 = .ok (.iastore, 1) := by decide +kernel
theorem dX8_hold_25 : decode cX8_hold 25 = .ok (.aload_n 0, 1) := by decide +kernel
theorem dX8_hold_26 : decode cX8_hold 26 = .ok (.iload_n 1, 1) := by decide +kernel
theorem dX8_hold_27 : decode cX8_hold 27 = .ok (.invokevirtual 176, 3) := by decide +kernel
theorem dX8_hold_30 : decode cX8_hold 30 = .ok (.aload_n 0, 1) := by decide +kernel
theorem dX8_hold_31 : decode cX8_hold 31 = .ok (.getfield 27, 3) := by decide +kernel
theorem dX8_hold_34 : decode cX8_hold 34 = .ok (.iload_n 1, 1) := by decide +kernel
theorem dX8_hold_35 : decode cX8_hold 35 = .ok (.iaload, 1) := by decide +kernel
theorem dX8_hold_36 : decode cX8_hold 36 = .ok (.ireturn, 1) := by decide +kernel
set_option maxRecDepth 20000 in
theorem ggX8_loose_X8_isWhole : GoodIn wsX8_loose wsX8_isWhole := goodIn_r _ [8, 9, 10, 11, 12, 7, 13, 14, 60, 61, 62, 63, 64, 65, 66, 67, 68, 69, 70, 71, 72, 73, 74, 75, 76, 77, 78, 79, 80, 81, 82, 83, 84, 85, 86, 87, 88, 89, 90] (by decide +kernel) (by decide +kernel)
set_option maxRecDepth 20000 in
theorem gX8_loose_X8_isWhole : GoodIn wsX8_loose (wsV RX8 173 RX8 yX8_isWhole wsX8_isWhole) := goodIn_app (goodIn_of _ (by decide +kernel)) ggX8_loose_X8_isWhole
set_option maxRecDepth 20000 in
theorem ggX8_loose_X8_less : GoodIn wsX8_loose wsX8_less := goodIn_r _ [18, 19, 20, 21, 22, 23, 9, 24, 25, 26, 7, 27, 28, 29, 30, 31, 32, 33, 34, 35, 36, 14, 37, 38, 39, 40, 41, 42, 43, 44, 45, 46, 47, 48, 49, 50, 51, 52, 53, 54, 55, 56, 57, 58, 59, 3, 60, 61, 62, 63, 64, 65, 66, 67, 68, 69, 70, 71, 72, 73, 74, 75, 76, 77, 78, 79, 80, 81, 82, 83, 84, 85, 86, 87, 88, 89, 90] (by decide +kernel) (by decide +kernel)
set_option maxRecDepth 20000 in
theorem gX8_loose_X8_less : GoodIn wsX8_loose (wsV RX8 136 RX8 yX8_less wsX8_less) := goodIn_app (goodIn_of _ (by decide +kernel)) ggX8_loose_X8_less
theorem dX8_loose_0 : decode cX8_loose 0 = .ok (.aload_n 0, 1) := by decide +kernel
theorem dX8_loose_1 : decode cX8_loose 1 = .ok (.iconst 0, 1) := by decide +kernel
theorem dX8_loose_2 : decode cX8_loose 2 = .ok (.putfield 1, 3) := by decide +kernel
theorem dX8_loose_5 : decode cX8_loose 5 = .ok (.aload_n 0, 1) := by decide +kernel
theorem dX8_loose_6 : decode cX8_loose 6 = .ok (.iload_n 1, 1) := by decide +kernel
theorem dX8_loose_7 : decode cX8_loose 7 = .ok (.invokevirtual 173, 3) := by decide +kernel
theorem dX8_loose_10 : decode cX8_loose 10 = .ok (.ifCond .eq 12, 3) := by decide +kernel
theorem dX8_loose_13 : decode cX8_loose 13 = .ok (.aload_n 0, 1) := by decide +kernel
theorem dX8_loose_14 : decode cX8_loose 14 = .ok (.getfield 36, 3) := by decide +kernel
theorem dX8_loose_17 : decode cX8_loose 17 = .ok (.iload_n 1, 1) := by decide +kernel
theorem dX8_loose_18 : decode cX8_loose 18 = .ok (.iaload, 1) := by decide +kernel
theorem dX8_loose_19 : decode cX8_loose 19 = .ok (.ifCond .ne 5, 3) := by decide +kernel
theorem dX8_loose_22 : decode cX8_loose 22 = .ok (.iconst (-1), 1) := by decide +kernel
theorem dX8_loose_23 : decode cX8_loose 23 = .ok (.ireturn, 1) := by decide +kernel
theorem dX8_loose_24 : decode cX8_loose 24 = .ok (.aload_n 0, 1) := by decide +kernel
theorem dX8_loose_25 : decode cX8_loose 25 = .ok (.getfield 82, 3) := by decide +kernel
theorem dX8_loose_28 : decode cX8_loose 28 = .ok (.istore_n 2, 1) := by decide +kernel
theorem dX8_loose_29 : decode cX8_loose 29 = .ok (.aload_n 0, 1) := by decide +kernel
theorem dX8_loose_30 : decode cX8_loose 30 = .ok (.getfield 36, 3) := by decide +kernel
theorem dX8_loose_33 : decode cX8_loose 33 = .ok (.iload_n 1, 1) := by decide +kernel
theorem dX8_loose_34 : decode cX8_loose 34 = .ok (.dup2, 1) := by decide +kernel
theorem dX8_loose_35 : decode cX8_loose 35 = .ok (.iaload, 1) := by decide +kernel
theorem dX8_loose_36 : decode cX8_loose 36 = .ok (.iconst 1, 1) := by decide +kernel
theorem dX8_loose_37 : decode cX8_loose 37 = .ok (.isub, 1) := by decide +kernel
theorem dX8_loose_38 : decode cX8_loose 38 = .ok (.iastore, 1) := by decide +kernel
theorem dX8_loose_39 : decode cX8_loose 39 = .ok (.aload_n 0, 1) := by decide +kernel
theorem dX8_loose_40 : decode cX8_loose 40 = .ok (.iload_n 1, 1) := by decide +kernel
theorem dX8_loose_41 : decode cX8_loose 41 = .ok (.invokevirtual 136, 3) := by decide +kernel
theorem dX8_loose_44 : decode cX8_loose 44 = .ok (.aload_n 0, 1) := by decide +kernel
theorem dX8_loose_45 : decode cX8_loose 45 = .ok (.getfield 82, 3) := by decide +kernel
theorem dX8_loose_48 : decode cX8_loose 48 = .ok (.iload_n 2, 1) := by decide +kernel
theorem dX8_loose_49 : decode cX8_loose 49 = .ok (.isub, 1) := by decide +kernel
theorem dX8_loose_50 : decode cX8_loose 50 = .ok (.ireturn, 1) := by decide +kernel
set_option maxRecDepth 20000 in
theorem ggX8_set_X8_isWhole : GoodIn wsX8_set wsX8_isWhole := goodIn_r _ [8, 9, 10, 11, 12, 7, 13, 14, 63, 64, 65, 66, 67, 68, 69, 70, 71, 72, 73, 74, 75, 76, 77, 78, 79, 80, 81, 82, 83, 84, 85, 86, 87, 88, 89, 90, 91, 92, 93] (by decide +kernel) (by decide +kernel)
set_option maxRecDepth 20000 in
theorem gX8_set_X8_isWhole : GoodIn wsX8_set (wsV RX8 173 RX8 yX8_isWhole wsX8_isWhole) := goodIn_app (goodIn_of _ (by decide +kernel)) ggX8_set_X8_isWhole
set_option maxRecDepth 20000 in
theorem ggX8_set_X8_fieldsOf : GoodIn wsX8_set wsX8_fieldsOf := goodIn_r _ [18, 19, 14, 63, 64, 65, 66, 67, 68, 69, 70, 71, 72, 73, 74, 75, 76, 77, 78, 79, 80, 81, 82, 83, 84, 85, 86, 87, 88, 89, 90, 91, 92, 93] (by decide +kernel) (by decide +kernel)
set_option maxRecDepth 20000 in
theorem gX8_set_X8_fieldsOf : GoodIn wsX8_set (wsV RX8 108 RX8 yX8_fieldsOf wsX8_fieldsOf) := goodIn_app (goodIn_of _ (by decide +kernel)) ggX8_set_X8_fieldsOf
set_option maxRecDepth 20000 in
theorem ggX8_set_X8_more : GoodIn wsX8_set wsX8_more := goodIn_r _ [23, 24, 25, 26, 27, 7, 28, 29, 63, 64, 65, 66, 67, 68, 69, 70, 71, 72, 73, 74, 75, 76, 77, 78, 79, 80, 81, 82, 83, 84, 85, 86, 87, 88, 89, 90, 91, 92, 93] (by decide +kernel) (by decide +kernel)
set_option maxRecDepth 20000 in
theorem gX8_set_X8_more : GoodIn wsX8_set (wsV RX8 176 RX8 yX8_more wsX8_more) := goodIn_app (goodIn_of _ (by decide +kernel)) ggX8_set_X8_more
set_option maxRecDepth 20000 in
theorem ggX8_set_X8_less : GoodIn wsX8_set wsX8_less := goodIn_r _ [33, 34, 35, 36, 3, 37, 9, 38, 39, 40, 7, 41, 24, 29, 42, 43, 44, 45, 46, 47, 48, 14, 49, 50, 51, 52, 53, 54, 55, 25, 26, 27, 28, 15, 16, 17, 18, 19, 56, 57, 58, 59, 60, 61, 62, 2, 63, 64, 65, 66, 67, 68, 69, 70, 71, 72, 73, 74, 75, 76, 77, 78, 79, 80, 81, 82, 83, 84, 85, 86, 87, 88, 89, 90, 91, 92, 93] (by decide +kernel) (by decide +kernel)
set_option maxRecDepth 20000 in
theorem gX8_set_X8_less : GoodIn wsX8_set (wsV RX8 136 RX8 yX8_less wsX8_less) := goodIn_app (goodIn_of _ (by decide +kernel)) ggX8_set_X8_less
theorem dX8_set_0 : decode cX8_set 0 = .ok (.aload_n 0, 1) := by decide +kernel
theorem dX8_set_1 : decode cX8_set 1 = .ok (.iconst 0, 1) := by decide +kernel
theorem dX8_set_2 : decode cX8_set 2 = .ok (.putfield 1, 3) := by decide +kernel
theorem dX8_set_5 : decode cX8_set 5 = .ok (.aload_n 0, 1) := by decide +kernel
theorem dX8_set_6 : decode cX8_set 6 = .ok (.iload_n 1, 1) := by decide +kernel
theorem dX8_set_7 : decode cX8_set 7 = .ok (.invokevirtual 173, 3) := by decide +kernel
theorem dX8_set_10 : decode cX8_set 10 = .ok (.ifCond .ne 5, 3) := by decide +kernel
theorem dX8_set_13 : decode cX8_set 13 = .ok (.iconst (-1), 1) := by decide +kernel
theorem dX8_set_14 : decode cX8_set 14 = .ok (.ireturn, 1) := by decide +kernel
theorem dX8_set_15 : decode cX8_set 15 = .ok (.aload_n 0, 1) := by decide +kernel
theorem dX8_set_16 : decode cX8_set 16 = .ok (.iload_n 2, 1) := by decide +kernel
theorem dX8_set_17 : decode cX8_set 17 = .ok (.ifCond .lt 12, 3) := by decide +kernel
theorem dX8_set_20 : decode cX8_set 20 = .ok (.iload_n 2, 1) := by decide +kernel
theorem dX8_set_21 : decode cX8_set 21 = .ok (.aload_n 0, 1) := by decide +kernel
theorem dX8_set_22 : decode cX8_set 22 = .ok (.iload_n 1, 1) := by decide +kernel
theorem dX8_set_23 : decode cX8_set 23 = .ok (.invokevirtual 108, 3) := by decide +kernel
theorem dX8_set_26 : decode cX8_set 26 = .ok (.if_icmp .lt 7, 3) := by decide +kernel
theorem dX8_set_29 : decode cX8_set 29 = .ok (.iconst 1, 1) := by decide +kernel
theorem dX8_set_30 : decode cX8_set 30 = .ok (.goto 4, 3) := by decide +kernel
theorem dX8_set_33 : decode cX8_set 33 = .ok (.iconst 0, 1) := by decide +kernel
theorem dX8_set_34 : decode cX8_set 34 = .ok (.putfield 1, 3) := by decide +kernel
theorem dX8_set_37 : decode cX8_set 37 = .ok (.aload_n 0, 1) := by decide +kernel
theorem dX8_set_38 : decode cX8_set 38 = .ok (.getfield 1, 3) := by decide +kernel
theorem dX8_set_41 : decode cX8_set 41 = .ok (.ifCond .le 5, 3) := by decide +kernel
theorem dX8_set_44 : decode cX8_set 44 = .ok (.iconst 0, 1) := by decide +kernel
theorem dX8_set_45 : decode cX8_set 45 = .ok (.ireturn, 1) := by decide +kernel
theorem dX8_set_46 : decode cX8_set 46 = .ok (.iload_n 3, 1) := by decide +kernel
theorem dX8_set_47 : decode cX8_set 47 = .ok (.iconst (-1), 1) := by decide +kernel
theorem dX8_set_48 : decode cX8_set 48 = .ok (.if_icmp .eq 13, 3) := by decide +kernel
theorem dX8_set_51 : decode cX8_set 51 = .ok (.aload_n 0, 1) := by decide +kernel
theorem dX8_set_52 : decode cX8_set 52 = .ok (.iload_n 3, 1) := by decide +kernel
theorem dX8_set_53 : decode cX8_set 53 = .ok (.invokevirtual 173, 3) := by decide +kernel
theorem dX8_set_56 : decode cX8_set 56 = .ok (.ifCond .ne 5, 3) := by decide +kernel
theorem dX8_set_59 : decode cX8_set 59 = .ok (.iconst (-1), 1) := by decide +kernel
theorem dX8_set_60 : decode cX8_set 60 = .ok (.ireturn, 1) := by decide +kernel
theorem dX8_set_61 : decode cX8_set 61 = .ok (.aload_n 0, 1) := by decide +kernel
theorem dX8_set_62 : decode cX8_set 62 = .ok (.getfield 82, 3) := by decide +kernel
theorem dX8_set_65 : decode cX8_set 65 = .ok (.istore 4, 2) := by decide +kernel
theorem dX8_set_67 : decode cX8_set 67 = .ok (.iload_n 3, 1) := by decide +kernel
theorem dX8_set_68 : decode cX8_set 68 = .ok (.iconst (-1), 1) := by decide +kernel
theorem dX8_set_69 : decode cX8_set 69 = .ok (.if_icmp .eq 8, 3) := by decide +kernel
theorem dX8_set_72 : decode cX8_set 72 = .ok (.aload_n 0, 1) := by decide +kernel
theorem dX8_set_73 : decode cX8_set 73 = .ok (.iload_n 3, 1) := by decide +kernel
theorem dX8_set_74 : decode cX8_set 74 = .ok (.invokevirtual 176, 3) := by decide +kernel
theorem dX8_set_77 : decode cX8_set 77 = .ok (.aload_n 0, 1) := by decide +kernel
theorem dX8_set_78 : decode cX8_set 78 = .ok (.getfield 48, 3) := by decide +kernel
theorem dX8_set_81 : decode cX8_set 81 = .ok (.bipush 6, 2) := by decide +kernel
theorem dX8_set_83 : decode cX8_set 83 = .ok (.iload_n 1, 1) := by decide +kernel
theorem dX8_set_84 : decode cX8_set 84 = .ok (.imul, 1) := by decide +kernel
theorem dX8_set_85 : decode cX8_set 85 = .ok (.iload_n 2, 1) := by decide +kernel
theorem dX8_set_86 : decode cX8_set 86 = .ok (.iadd, 1) := by decide +kernel
theorem dX8_set_87 : decode cX8_set 87 = .ok (.iaload, 1) := by decide +kernel
theorem dX8_set_88 : decode cX8_set 88 = .ok (.istore 5, 2) := by decide +kernel
theorem dX8_set_90 : decode cX8_set 90 = .ok (.aload_n 0, 1) := by decide +kernel
theorem dX8_set_91 : decode cX8_set 91 = .ok (.getfield 48, 3) := by decide +kernel
theorem dX8_set_94 : decode cX8_set 94 = .ok (.bipush 6, 2) := by decide +kernel
theorem dX8_set_96 : decode cX8_set 96 = .ok (.iload_n 1, 1) := by decide +kernel
theorem dX8_set_97 : decode cX8_set 97 = .ok (.imul, 1) := by decide +kernel
theorem dX8_set_98 : decode cX8_set 98 = .ok (.iload_n 2, 1) := by decide +kernel
theorem dX8_set_99 : decode cX8_set 99 = .ok (.iadd, 1) := by decide +kernel
theorem dX8_set_100 : decode cX8_set 100 = .ok (.iload_n 3, 1) := by decide +kernel
theorem dX8_set_101 : decode cX8_set 101 = .ok (.iastore, 1) := by decide +kernel
theorem dX8_set_102 : decode cX8_set 102 = .ok (.iload 5, 2) := by decide +kernel
theorem dX8_set_104 : decode cX8_set 104 = .ok (.ifCond .lt 9, 3) := by decide +kernel
theorem dX8_set_107 : decode cX8_set 107 = .ok (.aload_n 0, 1) := by decide +kernel
theorem dX8_set_108 : decode cX8_set 108 = .ok (.iload 5, 2) := by decide +kernel
theorem dX8_set_110 : decode cX8_set 110 = .ok (.invokevirtual 136, 3) := by decide +kernel
theorem dX8_set_113 : decode cX8_set 113 = .ok (.aload_n 0, 1) := by decide +kernel
theorem dX8_set_114 : decode cX8_set 114 = .ok (.getfield 82, 3) := by decide +kernel
theorem dX8_set_117 : decode cX8_set 117 = .ok (.iload 4, 2) := by decide +kernel
theorem dX8_set_119 : decode cX8_set 119 = .ok (.isub, 1) := by decide +kernel
theorem dX8_set_120 : decode cX8_set 120 = .ok (.ireturn, 1) := by decide +kernel
set_option maxRecDepth 20000 in
theorem ggX8_get_X8_isThere : GoodIn wsX8_get wsX8_isThere := goodIn_r _ [7, 8, 14, 15, 16, 17, 18, 19, 20, 21, 22, 23, 24, 25, 26, 27, 28, 29, 30, 31, 32, 33, 34, 35, 36, 37, 38, 39, 40, 41, 42, 43, 44] (by decide +kernel) (by decide +kernel)
set_option maxRecDepth 20000 in
theorem gX8_get_X8_isThere : GoodIn wsX8_get (wsV RX8 78 RX8 yX8_isThere wsX8_isThere) := goodIn_app (goodIn_of _ (by decide +kernel)) ggX8_get_X8_isThere
set_option maxRecDepth 20000 in
theorem ggX8_get_X8_fieldsOf : GoodIn wsX8_get wsX8_fieldsOf := goodIn_r _ [12, 13, 8, 14, 15, 16, 17, 18, 19, 20, 21, 22, 23, 24, 25, 26, 27, 28, 29, 30, 31, 32, 33, 34, 35, 36, 37, 38, 39, 40, 41, 42, 43, 44] (by decide +kernel) (by decide +kernel)
set_option maxRecDepth 20000 in
theorem gX8_get_X8_fieldsOf : GoodIn wsX8_get (wsV RX8 108 RX8 yX8_fieldsOf wsX8_fieldsOf) := goodIn_app (goodIn_of _ (by decide +kernel)) ggX8_get_X8_fieldsOf
theorem dX8_get_0 : decode cX8_get 0 = .ok (.aload_n 0, 1) := by decide +kernel
theorem dX8_get_1 : decode cX8_get 1 = .ok (.aload_n 0, 1) := by decide +kernel
theorem dX8_get_2 : decode cX8_get 2 = .ok (.iload_n 1, 1) := by decide +kernel
theorem dX8_get_3 : decode cX8_get 3 = .ok (.invokevirtual 78, 3) := by decide +kernel
theorem dX8_get_6 : decode cX8_get 6 = .ok (.ifCond .eq 16, 3) := by decide +kernel
theorem dX8_get_9 : decode cX8_get 9 = .ok (.iload_n 2, 1) := by decide +kernel
theorem dX8_get_10 : decode cX8_get 10 = .ok (.ifCond .lt 12, 3) := by decide +kernel
theorem dX8_get_13 : decode cX8_get 13 = .ok (.iload_n 2, 1) := by decide +kernel
theorem dX8_get_14 : decode cX8_get 14 = .ok (.aload_n 0, 1) := by decide +kernel
theorem dX8_get_15 : decode cX8_get 15 = .ok (.iload_n 1, 1) := by decide +kernel
theorem dX8_get_16 : decode cX8_get 16 = .ok (.invokevirtual 108, 3) := by decide +kernel
theorem dX8_get_19 : decode cX8_get 19 = .ok (.if_icmp .lt 7, 3) := by decide +kernel
theorem dX8_get_22 : decode cX8_get 22 = .ok (.iconst 1, 1) := by decide +kernel
theorem dX8_get_23 : decode cX8_get 23 = .ok (.goto 4, 3) := by decide +kernel
theorem dX8_get_26 : decode cX8_get 26 = .ok (.iconst 0, 1) := by decide +kernel
theorem dX8_get_27 : decode cX8_get 27 = .ok (.putfield 1, 3) := by decide +kernel
theorem dX8_get_30 : decode cX8_get 30 = .ok (.aload_n 0, 1) := by decide +kernel
theorem dX8_get_31 : decode cX8_get 31 = .ok (.getfield 1, 3) := by decide +kernel
theorem dX8_get_34 : decode cX8_get 34 = .ok (.ifCond .le 7, 3) := by decide +kernel
theorem dX8_get_37 : decode cX8_get 37 = .ok (.iconst 0, 1) := by decide +kernel
theorem dX8_get_38 : decode cX8_get 38 = .ok (.goto 14, 3) := by decide +kernel
theorem dX8_get_41 : decode cX8_get 41 = .ok (.aload_n 0, 1) := by decide +kernel
theorem dX8_get_42 : decode cX8_get 42 = .ok (.getfield 48, 3) := by decide +kernel
theorem dX8_get_45 : decode cX8_get 45 = .ok (.bipush 6, 2) := by decide +kernel
theorem dX8_get_47 : decode cX8_get 47 = .ok (.iload_n 1, 1) := by decide +kernel
theorem dX8_get_48 : decode cX8_get 48 = .ok (.imul, 1) := by decide +kernel
theorem dX8_get_49 : decode cX8_get 49 = .ok (.iload_n 2, 1) := by decide +kernel
theorem dX8_get_50 : decode cX8_get 50 = .ok (.iadd, 1) := by decide +kernel
theorem dX8_get_51 : decode cX8_get 51 = .ok (.iaload, 1) := by decide +kernel
theorem dX8_get_52 : decode cX8_get 52 = .ok (.ireturn, 1) := by decide +kernel
theorem dX8_wish_0 : decode cX8_wish 0 = .ok (.aload_n 0, 1) := by decide +kernel
theorem dX8_wish_1 : decode cX8_wish 1 = .ok (.iconst 0, 1) := by decide +kernel
theorem dX8_wish_2 : decode cX8_wish 2 = .ok (.putfield 1, 3) := by decide +kernel
theorem dX8_wish_5 : decode cX8_wish 5 = .ok (.aload_n 0, 1) := by decide +kernel
theorem dX8_wish_6 : decode cX8_wish 6 = .ok (.getfield 85, 3) := by decide +kernel
theorem dX8_wish_9 : decode cX8_wish 9 = .ok (.ifCond .ne 5, 3) := by decide +kernel
theorem dX8_wish_12 : decode cX8_wish 12 = .ok (.iconst (-1), 1) := by decide +kernel
theorem dX8_wish_13 : decode cX8_wish 13 = .ok (.ireturn, 1) := by decide +kernel
theorem dX8_wish_14 : decode cX8_wish 14 = .ok (.aload_n 0, 1) := by decide +kernel
theorem dX8_wish_15 : decode cX8_wish 15 = .ok (.getfield 57, 3) := by decide +kernel
theorem dX8_wish_18 : decode cX8_wish 18 = .ok (.iconst 0, 1) := by decide +kernel
theorem dX8_wish_19 : decode cX8_wish 19 = .ok (.iaload, 1) := by decide +kernel
theorem dX8_wish_20 : decode cX8_wish 20 = .ok (.istore_n 1, 1) := by decide +kernel
theorem dX8_wish_21 : decode cX8_wish 21 = .ok (.aload_n 0, 1) := by decide +kernel
theorem dX8_wish_22 : decode cX8_wish 22 = .ok (.dup, 1) := by decide +kernel
theorem dX8_wish_23 : decode cX8_wish 23 = .ok (.getfield 85, 3) := by decide +kernel
theorem dX8_wish_26 : decode cX8_wish 26 = .ok (.iconst 1, 1) := by decide +kernel
theorem dX8_wish_27 : decode cX8_wish 27 = .ok (.isub, 1) := by decide +kernel
theorem dX8_wish_28 : decode cX8_wish 28 = .ok (.putfield 85, 3) := by decide +kernel
theorem dX8_wish_31 : decode cX8_wish 31 = .ok (.iconst 0, 1) := by decide +kernel
theorem dX8_wish_32 : decode cX8_wish 32 = .ok (.istore_n 2, 1) := by decide +kernel
theorem dX8_wish_33 : decode cX8_wish 33 = .ok (.iload_n 2, 1) := by decide +kernel
theorem dX8_wish_34 : decode cX8_wish 34 = .ok (.aload_n 0, 1) := by decide +kernel
theorem dX8_wish_35 : decode cX8_wish 35 = .ok (.getfield 85, 3) := by decide +kernel
theorem dX8_wish_38 : decode cX8_wish 38 = .ok (.if_icmp .ge 23, 3) := by decide +kernel
theorem dX8_wish_41 : decode cX8_wish 41 = .ok (.aload_n 0, 1) := by decide +kernel
theorem dX8_wish_42 : decode cX8_wish 42 = .ok (.getfield 57, 3) := by decide +kernel
theorem dX8_wish_45 : decode cX8_wish 45 = .ok (.iload_n 2, 1) := by decide +kernel
theorem dX8_wish_46 : decode cX8_wish 46 = .ok (.aload_n 0, 1) := by decide +kernel
theorem dX8_wish_47 : decode cX8_wish 47 = .ok (.getfield 57, 3) := by decide +kernel
theorem dX8_wish_50 : decode cX8_wish 50 = .ok (.iload_n 2, 1) := by decide +kernel
theorem dX8_wish_51 : decode cX8_wish 51 = .ok (.iconst 1, 1) := by decide +kernel
theorem dX8_wish_52 : decode cX8_wish 52 = .ok (.iadd, 1) := by decide +kernel
theorem dX8_wish_53 : decode cX8_wish 53 = .ok (.iaload, 1) := by decide +kernel
theorem dX8_wish_54 : decode cX8_wish 54 = .ok (.iastore, 1) := by decide +kernel
theorem dX8_wish_55 : decode cX8_wish 55 = .ok (.iinc 2 1, 3) := by decide +kernel
theorem dX8_wish_58 : decode cX8_wish 58 = .ok (.goto (-25), 3) := by decide +kernel
theorem dX8_wish_61 : decode cX8_wish 61 = .ok (.aload_n 0, 1) := by decide +kernel
theorem dX8_wish_62 : decode cX8_wish 62 = .ok (.getfield 36, 3) := by decide +kernel
theorem dX8_wish_65 : decode cX8_wish 65 = .ok (.iload_n 1, 1) := by decide +kernel
theorem dX8_wish_66 : decode cX8_wish 66 = .ok (.dup2, 1) := by decide +kernel
theorem dX8_wish_67 : decode cX8_wish 67 = .ok (.iaload, 1) := by decide +kernel
theorem dX8_wish_68 : decode cX8_wish 68 = .ok (.iconst 1, 1) := by decide +kernel
theorem dX8_wish_69 : decode cX8_wish 69 = .ok (.iadd, 1) := by decide +kernel
theorem dX8_wish_70 : decode cX8_wish 70 = .ok (.iastore, 1) := by decide +kernel
theorem dX8_wish_71 : decode cX8_wish 71 = .ok (.iload_n 1, 1) := by decide +kernel
theorem dX8_wish_72 : decode cX8_wish 72 = .ok (.ireturn, 1) := by decide +kernel
set_option maxRecDepth 20000 in
theorem ggX8_weak_X8_isWhole : GoodIn wsX8_weak wsX8_isWhole := goodIn_r _ [7, 8, 9, 10, 11, 6, 12, 13, 14, 15, 16, 17, 18, 19, 20, 21, 22, 23, 24, 25, 26, 27, 28, 29, 30, 31, 32, 33, 34, 35, 36, 37, 38, 39, 40, 41, 42, 43, 44] (by decide +kernel) (by decide +kernel)
set_option maxRecDepth 20000 in
theorem gX8_weak_X8_isWhole : GoodIn wsX8_weak (wsV RX8 173 RX8 yX8_isWhole wsX8_isWhole) := goodIn_app (goodIn_of _ (by decide +kernel)) ggX8_weak_X8_isWhole
theorem dX8_weak_0 : decode cX8_weak 0 = .ok (.aload_n 0, 1) := by decide +kernel
theorem dX8_weak_1 : decode cX8_weak 1 = .ok (.iload_n 1, 1) := by decide +kernel
theorem dX8_weak_2 : decode cX8_weak 2 = .ok (.ifCond .lt 9, 3) := by decide +kernel
theorem dX8_weak_5 : decode cX8_weak 5 = .ok (.iload_n 1, 1) := by decide +kernel
theorem dX8_weak_6 : decode cX8_weak 6 = .ok (.bipush 20, 2) := by decide +kernel
theorem dX8_weak_8 : decode cX8_weak 8 = .ok (.if_icmp .lt 7, 3) := by decide +kernel
theorem dX8_weak_11 : decode cX8_weak 11 = .ok (.iconst 1, 1) := by decide +kernel
theorem dX8_weak_12 : decode cX8_weak 12 = .ok (.goto 4, 3) := by decide +kernel
theorem dX8_weak_15 : decode cX8_weak 15 = .ok (.iconst 0, 1) := by decide +kernel
theorem dX8_weak_16 : decode cX8_weak 16 = .ok (.putfield 1, 3) := by decide +kernel
theorem dX8_weak_19 : decode cX8_weak 19 = .ok (.aload_n 0, 1) := by decide +kernel
theorem dX8_weak_20 : decode cX8_weak 20 = .ok (.getfield 1, 3) := by decide +kernel
theorem dX8_weak_23 : decode cX8_weak 23 = .ok (.ifCond .gt 16, 3) := by decide +kernel
theorem dX8_weak_26 : decode cX8_weak 26 = .ok (.iload_n 2, 1) := by decide +kernel
theorem dX8_weak_27 : decode cX8_weak 27 = .ok (.iconst (-1), 1) := by decide +kernel
theorem dX8_weak_28 : decode cX8_weak 28 = .ok (.if_icmp .eq 13, 3) := by decide +kernel
theorem dX8_weak_31 : decode cX8_weak 31 = .ok (.aload_n 0, 1) := by decide +kernel
theorem dX8_weak_32 : decode cX8_weak 32 = .ok (.iload_n 2, 1) := by decide +kernel
theorem dX8_weak_33 : decode cX8_weak 33 = .ok (.invokevirtual 173, 3) := by decide +kernel
theorem dX8_weak_36 : decode cX8_weak 36 = .ok (.ifCond .ne 5, 3) := by decide +kernel
theorem dX8_weak_39 : decode cX8_weak 39 = .ok (.iconst (-1), 1) := by decide +kernel
theorem dX8_weak_40 : decode cX8_weak 40 = .ok (.ireturn, 1) := by decide +kernel
theorem dX8_weak_41 : decode cX8_weak 41 = .ok (.aload_n 0, 1) := by decide +kernel
theorem dX8_weak_42 : decode cX8_weak 42 = .ok (.getfield 60, 3) := by decide +kernel
theorem dX8_weak_45 : decode cX8_weak 45 = .ok (.iload_n 1, 1) := by decide +kernel
theorem dX8_weak_46 : decode cX8_weak 46 = .ok (.iaload, 1) := by decide +kernel
theorem dX8_weak_47 : decode cX8_weak 47 = .ok (.istore_n 3, 1) := by decide +kernel
theorem dX8_weak_48 : decode cX8_weak 48 = .ok (.aload_n 0, 1) := by decide +kernel
theorem dX8_weak_49 : decode cX8_weak 49 = .ok (.getfield 60, 3) := by decide +kernel
theorem dX8_weak_52 : decode cX8_weak 52 = .ok (.iload_n 1, 1) := by decide +kernel
theorem dX8_weak_53 : decode cX8_weak 53 = .ok (.iload_n 2, 1) := by decide +kernel
theorem dX8_weak_54 : decode cX8_weak 54 = .ok (.iastore, 1) := by decide +kernel
theorem dX8_weak_55 : decode cX8_weak 55 = .ok (.iload_n 3, 1) := by decide +kernel
theorem dX8_weak_56 : decode cX8_weak 56 = .ok (.ireturn, 1) := by decide +kernel
theorem dX8_seen_0 : decode cX8_seen 0 = .ok (.aload_n 0, 1) := by decide +kernel
theorem dX8_seen_1 : decode cX8_seen 1 = .ok (.iload_n 1, 1) := by decide +kernel
theorem dX8_seen_2 : decode cX8_seen 2 = .ok (.ifCond .lt 9, 3) := by decide +kernel
theorem dX8_seen_5 : decode cX8_seen 5 = .ok (.iload_n 1, 1) := by decide +kernel
theorem dX8_seen_6 : decode cX8_seen 6 = .ok (.bipush 20, 2) := by decide +kernel
theorem dX8_seen_8 : decode cX8_seen 8 = .ok (.if_icmp .lt 7, 3) := by decide +kernel
theorem dX8_seen_11 : decode cX8_seen 11 = .ok (.iconst 1, 1) := by decide +kernel
theorem dX8_seen_12 : decode cX8_seen 12 = .ok (.goto 4, 3) := by decide +kernel
theorem dX8_seen_15 : decode cX8_seen 15 = .ok (.iconst 0, 1) := by decide +kernel
theorem dX8_seen_16 : decode cX8_seen 16 = .ok (.putfield 1, 3) := by decide +kernel
theorem dX8_seen_19 : decode cX8_seen 19 = .ok (.aload_n 0, 1) := by decide +kernel
theorem dX8_seen_20 : decode cX8_seen 20 = .ok (.getfield 1, 3) := by decide +kernel
theorem dX8_seen_23 : decode cX8_seen 23 = .ok (.ifCond .le 7, 3) := by decide +kernel
theorem dX8_seen_26 : decode cX8_seen 26 = .ok (.iconst 0, 1) := by decide +kernel
theorem dX8_seen_27 : decode cX8_seen 27 = .ok (.goto 9, 3) := by decide +kernel
theorem dX8_seen_30 : decode cX8_seen 30 = .ok (.aload_n 0, 1) := by decide +kernel
theorem dX8_seen_31 : decode cX8_seen 31 = .ok (.getfield 60, 3) := by decide +kernel
theorem dX8_seen_34 : decode cX8_seen 34 = .ok (.iload_n 1, 1) := by decide +kernel
theorem dX8_seen_35 : decode cX8_seen 35 = .ok (.iaload, 1) := by decide +kernel
theorem dX8_seen_36 : decode cX8_seen 36 = .ok (.ireturn, 1) := by decide +kernel
set_option maxRecDepth 20000 in
theorem ggX8_object_X8_isThere : GoodIn wsX8_object wsX8_isThere := goodIn_r _ [13, 2, 20, 21, 22, 23, 24, 25, 26, 27, 28, 29, 30, 31, 32, 33, 34, 35, 36, 37, 38, 39, 40, 41, 42, 43, 44, 45, 46, 47, 48, 49, 50] (by decide +kernel) (by decide +kernel)
set_option maxRecDepth 20000 in
theorem gX8_object_X8_isThere : GoodIn wsX8_object (wsV RX8 78 RX8 yX8_isThere wsX8_isThere) := goodIn_app (goodIn_of _ (by decide +kernel)) ggX8_object_X8_isThere
set_option maxRecDepth 20000 in
theorem ggX8_object_X8_hasWish : GoodIn wsX8_object wsX8_hasWish := goodIn_r _ [17, 18, 2, 19, 20, 21, 22, 23, 24, 25, 26, 27, 28, 29, 30, 31, 32, 33, 34, 35, 36, 37, 38, 39, 40, 41, 42, 43, 44, 45, 46, 47, 48, 49, 50] (by decide +kernel) (by decide +kernel)
set_option maxRecDepth 20000 in
theorem gX8_object_X8_hasWish : GoodIn wsX8_object (wsV RX8 91 RX8 yX8_hasWish wsX8_hasWish) := goodIn_app (goodIn_of _ (by decide +kernel)) ggX8_object_X8_hasWish
theorem dX8_object_0 : decode cX8_object 0 = .ok (.aload_n 0, 1) := by decide +kernel
theorem dX8_object_1 : decode cX8_object 1 = .ok (.iload_n 2, 1) := by decide +kernel
theorem dX8_object_2 : decode cX8_object 2 = .ok (.ifCond .lt 9, 3) := by decide +kernel
theorem dX8_object_5 : decode cX8_object 5 = .ok (.iload_n 2, 1) := by decide +kernel
theorem dX8_object_6 : decode cX8_object 6 = .ok (.bipush 7, 2) := by decide +kernel
theorem dX8_object_8 : decode cX8_object 8 = .ok (.if_icmp .le 7, 3) := by decide +kernel
theorem dX8_object_11 : decode cX8_object 11 = .ok (.iconst 1, 1) := by decide +kernel
theorem dX8_object_12 : decode cX8_object 12 = .ok (.goto 4, 3) := by decide +kernel
theorem dX8_object_15 : decode cX8_object 15 = .ok (.iconst 0, 1) := by decide +kernel
theorem dX8_object_16 : decode cX8_object 16 = .ok (.putfield 1, 3) := by decide +kernel
theorem dX8_object_19 : decode cX8_object 19 = .ok (.aload_n 0, 1) := by decide +kernel
theorem dX8_object_20 : decode cX8_object 20 = .ok (.getfield 1, 3) := by decide +kernel
theorem dX8_object_23 : decode cX8_object 23 = .ok (.ifCond .gt 11, 3) := by decide +kernel
theorem dX8_object_26 : decode cX8_object 26 = .ok (.aload_n 0, 1) := by decide +kernel
theorem dX8_object_27 : decode cX8_object 27 = .ok (.iload_n 1, 1) := by decide +kernel
theorem dX8_object_28 : decode cX8_object 28 = .ok (.invokevirtual 78, 3) := by decide +kernel
theorem dX8_object_31 : decode cX8_object 31 = .ok (.ifCond .ne 5, 3) := by decide +kernel
theorem dX8_object_34 : decode cX8_object 34 = .ok (.iconst (-1), 1) := by decide +kernel
theorem dX8_object_35 : decode cX8_object 35 = .ok (.ireturn, 1) := by decide +kernel
theorem dX8_object_36 : decode cX8_object 36 = .ok (.iload_n 2, 1) := by decide +kernel
theorem dX8_object_37 : decode cX8_object 37 = .ok (.tableswitch 107 0 6 #[43, 50, 57, 64, 71, 86, 100], 43) := by decide +kernel
theorem dX8_object_80 : decode cX8_object 80 = .ok (.aload_n 0, 1) := by decide +kernel
theorem dX8_object_81 : decode cX8_object 81 = .ok (.getfield 24, 3) := by decide +kernel
theorem dX8_object_84 : decode cX8_object 84 = .ok (.iload_n 1, 1) := by decide +kernel
theorem dX8_object_85 : decode cX8_object 85 = .ok (.iaload, 1) := by decide +kernel
theorem dX8_object_86 : decode cX8_object 86 = .ok (.ireturn, 1) := by decide +kernel
theorem dX8_object_87 : decode cX8_object 87 = .ok (.aload_n 0, 1) := by decide +kernel
theorem dX8_object_88 : decode cX8_object 88 = .ok (.getfield 27, 3) := by decide +kernel
theorem dX8_object_91 : decode cX8_object 91 = .ok (.iload_n 1, 1) := by decide +kernel
theorem dX8_object_92 : decode cX8_object 92 = .ok (.iaload, 1) := by decide +kernel
theorem dX8_object_93 : decode cX8_object 93 = .ok (.ireturn, 1) := by decide +kernel
theorem dX8_object_94 : decode cX8_object 94 = .ok (.aload_n 0, 1) := by decide +kernel
theorem dX8_object_95 : decode cX8_object 95 = .ok (.getfield 30, 3) := by decide +kernel
theorem dX8_object_98 : decode cX8_object 98 = .ok (.iload_n 1, 1) := by decide +kernel
theorem dX8_object_99 : decode cX8_object 99 = .ok (.iaload, 1) := by decide +kernel
theorem dX8_object_100 : decode cX8_object 100 = .ok (.ireturn, 1) := by decide +kernel
theorem dX8_object_101 : decode cX8_object 101 = .ok (.aload_n 0, 1) := by decide +kernel
theorem dX8_object_102 : decode cX8_object 102 = .ok (.getfield 33, 3) := by decide +kernel
theorem dX8_object_105 : decode cX8_object 105 = .ok (.iload_n 1, 1) := by decide +kernel
theorem dX8_object_106 : decode cX8_object 106 = .ok (.iaload, 1) := by decide +kernel
theorem dX8_object_107 : decode cX8_object 107 = .ok (.ireturn, 1) := by decide +kernel
theorem dX8_object_108 : decode cX8_object 108 = .ok (.aload_n 0, 1) := by decide +kernel
theorem dX8_object_109 : decode cX8_object 109 = .ok (.getfield 39, 3) := by decide +kernel
theorem dX8_object_112 : decode cX8_object 112 = .ok (.iload_n 1, 1) := by decide +kernel
theorem dX8_object_113 : decode cX8_object 113 = .ok (.baload, 1) := by decide +kernel
theorem dX8_object_114 : decode cX8_object 114 = .ok (.ifCond .eq 7, 3) := by decide +kernel
theorem dX8_object_117 : decode cX8_object 117 = .ok (.iconst 1, 1) := by decide +kernel
theorem dX8_object_118 : decode cX8_object 118 = .ok (.goto 4, 3) := by decide +kernel
theorem dX8_object_121 : decode cX8_object 121 = .ok (.iconst 0, 1) := by decide +kernel
theorem dX8_object_122 : decode cX8_object 122 = .ok (.ireturn, 1) := by decide +kernel
theorem dX8_object_123 : decode cX8_object 123 = .ok (.aload_n 0, 1) := by decide +kernel
theorem dX8_object_124 : decode cX8_object 124 = .ok (.iload_n 1, 1) := by decide +kernel
theorem dX8_object_125 : decode cX8_object 125 = .ok (.invokevirtual 91, 3) := by decide +kernel
theorem dX8_object_128 : decode cX8_object 128 = .ok (.ifCond .eq 7, 3) := by decide +kernel
theorem dX8_object_131 : decode cX8_object 131 = .ok (.iconst 1, 1) := by decide +kernel
theorem dX8_object_132 : decode cX8_object 132 = .ok (.goto 4, 3) := by decide +kernel
theorem dX8_object_135 : decode cX8_object 135 = .ok (.iconst 0, 1) := by decide +kernel
theorem dX8_object_136 : decode cX8_object 136 = .ok (.ireturn, 1) := by decide +kernel
theorem dX8_object_137 : decode cX8_object 137 = .ok (.aload_n 0, 1) := by decide +kernel
theorem dX8_object_138 : decode cX8_object 138 = .ok (.getfield 36, 3) := by decide +kernel
theorem dX8_object_141 : decode cX8_object 141 = .ok (.iload_n 1, 1) := by decide +kernel
theorem dX8_object_142 : decode cX8_object 142 = .ok (.iaload, 1) := by decide +kernel
theorem dX8_object_143 : decode cX8_object 143 = .ok (.ireturn, 1) := by decide +kernel
theorem dX8_object_144 : decode cX8_object 144 = .ok (.aload_n 0, 1) := by decide +kernel
theorem dX8_object_145 : decode cX8_object 145 = .ok (.getfield 45, 3) := by decide +kernel
theorem dX8_object_148 : decode cX8_object 148 = .ok (.iload_n 1, 1) := by decide +kernel
theorem dX8_object_149 : decode cX8_object 149 = .ok (.baload, 1) := by decide +kernel
theorem dX8_object_150 : decode cX8_object 150 = .ok (.ifCond .eq 7, 3) := by decide +kernel
theorem dX8_object_153 : decode cX8_object 153 = .ok (.iconst 1, 1) := by decide +kernel
theorem dX8_object_154 : decode cX8_object 154 = .ok (.goto 4, 3) := by decide +kernel
theorem dX8_object_157 : decode cX8_object 157 = .ok (.iconst 0, 1) := by decide +kernel
theorem dX8_object_158 : decode cX8_object 158 = .ok (.ireturn, 1) := by decide +kernel
set_option maxRecDepth 20000 in
theorem ggX8_count_X8_findByAddress : GoodIn wsX8_count wsX8_findByAddress := goodIn_r _ [14, 2, 15, 16, 17, 22, 23, 24, 25, 26, 27, 28, 29, 30, 31, 32, 33, 34, 35, 36, 37, 38, 39, 40, 41, 42, 43, 44, 45, 46, 47, 48, 49, 50, 51, 52] (by decide +kernel) (by decide +kernel)
set_option maxRecDepth 20000 in
theorem gX8_count_X8_findByAddress : GoodIn wsX8_count (wsV RX8 148 RX8 yX8_findByAddress wsX8_findByAddress) := goodIn_app (goodIn_of _ (by decide +kernel)) ggX8_count_X8_findByAddress
set_option maxRecDepth 20000 in
theorem ggX8_count_X8_freeWords : GoodIn wsX8_count wsX8_freeWords := goodIn_r _ [21, 15, 22, 23, 24, 25, 26, 27, 28, 29, 30, 31, 32, 33, 34, 35, 36, 37, 38, 39, 40, 41, 42, 43, 44, 45, 46, 47, 48, 49, 50, 51, 52] (by decide +kernel) (by decide +kernel)
set_option maxRecDepth 20000 in
theorem gX8_count_X8_freeWords : GoodIn wsX8_count (wsV RX8 167 RX8 yX8_freeWords wsX8_freeWords) := goodIn_app (goodIn_of _ (by decide +kernel)) ggX8_count_X8_freeWords
theorem dX8_count_0 : decode cX8_count 0 = .ok (.aload_n 0, 1) := by decide +kernel
theorem dX8_count_1 : decode cX8_count 1 = .ok (.iload_n 1, 1) := by decide +kernel
theorem dX8_count_2 : decode cX8_count 2 = .ok (.ifCond .lt 9, 3) := by decide +kernel
theorem dX8_count_5 : decode cX8_count 5 = .ok (.iload_n 1, 1) := by decide +kernel
theorem dX8_count_6 : decode cX8_count 6 = .ok (.bipush 8, 2) := by decide +kernel
theorem dX8_count_8 : decode cX8_count 8 = .ok (.if_icmp .le 7, 3) := by decide +kernel
theorem dX8_count_11 : decode cX8_count 11 = .ok (.iconst 1, 1) := by decide +kernel
theorem dX8_count_12 : decode cX8_count 12 = .ok (.goto 4, 3) := by decide +kernel
theorem dX8_count_15 : decode cX8_count 15 = .ok (.iconst 0, 1) := by decide +kernel
theorem dX8_count_16 : decode cX8_count 16 = .ok (.putfield 1, 3) := by decide +kernel
theorem dX8_count_19 : decode cX8_count 19 = .ok (.iload_n 1, 1) := by decide +kernel
theorem dX8_count_20 : decode cX8_count 20 = .ok (.tableswitch 101 0 8 #[52, 61, 66, 71, 76, 81, 86, 91, 96], 52) := by decide +kernel
theorem dX8_count_72 : decode cX8_count 72 = .ok (.aload_n 0, 1) := by decide +kernel
theorem dX8_count_73 : decode cX8_count 73 = .ok (.invokevirtual 148, 3) := by decide +kernel
theorem dX8_count_76 : decode cX8_count 76 = .ok (.aload_n 0, 1) := by decide +kernel
theorem dX8_count_77 : decode cX8_count 77 = .ok (.getfield 130, 3) := by decide +kernel
theorem dX8_count_80 : decode cX8_count 80 = .ok (.ireturn, 1) := by decide +kernel
theorem dX8_count_81 : decode cX8_count 81 = .ok (.aload_n 0, 1) := by decide +kernel
theorem dX8_count_82 : decode cX8_count 82 = .ok (.getfield 88, 3) := by decide +kernel
theorem dX8_count_85 : decode cX8_count 85 = .ok (.ireturn, 1) := by decide +kernel
theorem dX8_count_86 : decode cX8_count 86 = .ok (.aload_n 0, 1) := by decide +kernel
theorem dX8_count_87 : decode cX8_count 87 = .ok (.getfield 85, 3) := by decide +kernel
theorem dX8_count_90 : decode cX8_count 90 = .ok (.ireturn, 1) := by decide +kernel
theorem dX8_count_91 : decode cX8_count 91 = .ok (.aload_n 0, 1) := by decide +kernel
theorem dX8_count_92 : decode cX8_count 92 = .ok (.invokevirtual 167, 3) := by decide +kernel
theorem dX8_count_95 : decode cX8_count 95 = .ok (.ireturn, 1) := by decide +kernel
theorem dX8_count_96 : decode cX8_count 96 = .ok (.aload_n 0, 1) := by decide +kernel
theorem dX8_count_97 : decode cX8_count 97 = .ok (.getfield 82, 3) := by decide +kernel
theorem dX8_count_100 : decode cX8_count 100 = .ok (.ireturn, 1) := by decide +kernel
theorem dX8_count_101 : decode cX8_count 101 = .ok (.aload_n 0, 1) := by decide +kernel
theorem dX8_count_102 : decode cX8_count 102 = .ok (.getfield 139, 3) := by decide +kernel
theorem dX8_count_105 : decode cX8_count 105 = .ok (.ireturn, 1) := by decide +kernel
theorem dX8_count_106 : decode cX8_count 106 = .ok (.aload_n 0, 1) := by decide +kernel
theorem dX8_count_107 : decode cX8_count 107 = .ok (.getfield 154, 3) := by decide +kernel
theorem dX8_count_110 : decode cX8_count 110 = .ok (.ireturn, 1) := by decide +kernel
theorem dX8_count_111 : decode cX8_count 111 = .ok (.aload_n 0, 1) := by decide +kernel
theorem dX8_count_112 : decode cX8_count 112 = .ok (.getfield 118, 3) := by decide +kernel
theorem dX8_count_115 : decode cX8_count 115 = .ok (.ireturn, 1) := by decide +kernel
theorem dX8_count_116 : decode cX8_count 116 = .ok (.aload_n 0, 1) := by decide +kernel
theorem dX8_count_117 : decode cX8_count 117 = .ok (.getfield 121, 3) := by decide +kernel
theorem dX8_count_120 : decode cX8_count 120 = .ok (.ireturn, 1) := by decide +kernel
theorem dX8_count_121 : decode cX8_count 121 = .ok (.iconst 0, 1) := by decide +kernel
theorem dX8_count_122 : decode cX8_count 122 = .ok (.ireturn, 1) := by decide +kernel
theorem dX8_listed_0 : decode cX8_listed 0 = .ok (.aload_n 0, 1) := by decide +kernel
theorem dX8_listed_1 : decode cX8_listed 1 = .ok (.iconst 0, 1) := by decide +kernel
theorem dX8_listed_2 : decode cX8_listed 2 = .ok (.putfield 1, 3) := by decide +kernel
theorem dX8_listed_5 : decode cX8_listed 5 = .ok (.iload_n 1, 1) := by decide +kernel
theorem dX8_listed_6 : decode cX8_listed 6 = .ok (.ifCond .lt 20, 3) := by decide +kernel
theorem dX8_listed_9 : decode cX8_listed 9 = .ok (.iload_n 1, 1) := by decide +kernel
theorem dX8_listed_10 : decode cX8_listed 10 = .ok (.aload_n 0, 1) := by decide +kernel
theorem dX8_listed_11 : decode cX8_listed 11 = .ok (.getfield 88, 3) := by decide +kernel
theorem dX8_listed_14 : decode cX8_listed 14 = .ok (.if_icmp .ge 12, 3) := by decide +kernel
theorem dX8_listed_17 : decode cX8_listed 17 = .ok (.aload_n 0, 1) := by decide +kernel
theorem dX8_listed_18 : decode cX8_listed 18 = .ok (.getfield 54, 3) := by decide +kernel
theorem dX8_listed_21 : decode cX8_listed 21 = .ok (.iload_n 1, 1) := by decide +kernel
theorem dX8_listed_22 : decode cX8_listed 22 = .ok (.iaload, 1) := by decide +kernel
theorem dX8_listed_23 : decode cX8_listed 23 = .ok (.goto 4, 3) := by decide +kernel
theorem dX8_listed_26 : decode cX8_listed 26 = .ok (.iconst (-1), 1) := by decide +kernel
theorem dX8_listed_27 : decode cX8_listed 27 = .ok (.ireturn, 1) := by decide +kernel
theorem dX8_freed_0 : decode cX8_freed 0 = .ok (.aload_n 0, 1) := by decide +kernel
theorem dX8_freed_1 : decode cX8_freed 1 = .ok (.iconst 0, 1) := by decide +kernel
theorem dX8_freed_2 : decode cX8_freed 2 = .ok (.putfield 1, 3) := by decide +kernel
theorem dX8_freed_5 : decode cX8_freed 5 = .ok (.iload_n 1, 1) := by decide +kernel
theorem dX8_freed_6 : decode cX8_freed 6 = .ok (.ifCond .lt 34, 3) := by decide +kernel
theorem dX8_freed_9 : decode cX8_freed 9 = .ok (.iload_n 1, 1) := by decide +kernel
theorem dX8_freed_10 : decode cX8_freed 10 = .ok (.aload_n 0, 1) := by decide +kernel
theorem dX8_freed_11 : decode cX8_freed 11 = .ok (.getfield 82, 3) := by decide +kernel
theorem dX8_freed_14 : decode cX8_freed 14 = .ok (.if_icmp .ge 26, 3) := by decide +kernel
theorem dX8_freed_17 : decode cX8_freed 17 = .ok (.iload_n 1, 1) := by decide +kernel
theorem dX8_freed_18 : decode cX8_freed 18 = .ok (.aload_n 0, 1) := by decide +kernel
theorem dX8_freed_19 : decode cX8_freed 19 = .ok (.getfield 82, 3) := by decide +kernel
theorem dX8_freed_22 : decode cX8_freed 22 = .ok (.bipush 100, 2) := by decide +kernel
theorem dX8_freed_24 : decode cX8_freed 24 = .ok (.isub, 1) := by decide +kernel
theorem dX8_freed_25 : decode cX8_freed 25 = .ok (.if_icmp .lt 15, 3) := by decide +kernel
theorem dX8_freed_28 : decode cX8_freed 28 = .ok (.aload_n 0, 1) := by decide +kernel
theorem dX8_freed_29 : decode cX8_freed 29 = .ok (.getfield 63, 3) := by decide +kernel
theorem dX8_freed_32 : decode cX8_freed 32 = .ok (.iload_n 1, 1) := by decide +kernel
theorem dX8_freed_33 : decode cX8_freed 33 = .ok (.bipush 100, 2) := by decide +kernel
theorem dX8_freed_35 : decode cX8_freed 35 = .ok (.irem, 1) := by decide +kernel
theorem dX8_freed_36 : decode cX8_freed 36 = .ok (.iaload, 1) := by decide +kernel
theorem dX8_freed_37 : decode cX8_freed 37 = .ok (.goto 4, 3) := by decide +kernel
theorem dX8_freed_40 : decode cX8_freed 40 = .ok (.iconst (-1), 1) := by decide +kernel
theorem dX8_freed_41 : decode cX8_freed 41 = .ok (.ireturn, 1) := by decide +kernel
theorem dX8_at_0 : decode cX8_at 0 = .ok (.aload_n 0, 1) := by decide +kernel
theorem dX8_at_1 : decode cX8_at 1 = .ok (.iload_n 1, 1) := by decide +kernel
theorem dX8_at_2 : decode cX8_at 2 = .ok (.ifCond .lt 10, 3) := by decide +kernel
theorem dX8_at_5 : decode cX8_at 5 = .ok (.iload_n 1, 1) := by decide +kernel
theorem dX8_at_6 : decode cX8_at 6 = .ok (.sipush 400, 3) := by decide +kernel
theorem dX8_at_9 : decode cX8_at 9 = .ok (.if_icmp .lt 7, 3) := by decide +kernel
theorem dX8_at_12 : decode cX8_at 12 = .ok (.iconst 1, 1) := by decide +kernel
theorem dX8_at_13 : decode cX8_at 13 = .ok (.goto 4, 3) := by decide +kernel
theorem dX8_at_16 : decode cX8_at 16 = .ok (.iconst 0, 1) := by decide +kernel
theorem dX8_at_17 : decode cX8_at 17 = .ok (.putfield 1, 3) := by decide +kernel
theorem dX8_at_20 : decode cX8_at 20 = .ok (.aload_n 0, 1) := by decide +kernel
theorem dX8_at_21 : decode cX8_at 21 = .ok (.getfield 1, 3) := by decide +kernel
theorem dX8_at_24 : decode cX8_at 24 = .ok (.ifCond .le 7, 3) := by decide +kernel
theorem dX8_at_27 : decode cX8_at 27 = .ok (.iconst 0, 1) := by decide +kernel
theorem dX8_at_28 : decode cX8_at 28 = .ok (.goto 9, 3) := by decide +kernel
theorem dX8_at_31 : decode cX8_at 31 = .ok (.aload_n 0, 1) := by decide +kernel
theorem dX8_at_32 : decode cX8_at 32 = .ok (.getfield 51, 3) := by decide +kernel
theorem dX8_at_35 : decode cX8_at 35 = .ok (.iload_n 1, 1) := by decide +kernel
theorem dX8_at_36 : decode cX8_at 36 = .ok (.iaload, 1) := by decide +kernel
theorem dX8_at_37 : decode cX8_at 37 = .ok (.ireturn, 1) := by decide +kernel
end
section
theorem vr_some {L : List Nat} {t a : Nat} (h : vn L t a) : vr L t (some a) := fun b q => by
  cases q
  exact h
theorem vr_none {L : List Nat} {t : Nat} : vr L t none := fun b q => by cases q
theorem va_re_cat {ad : Nat → Nat} {r : Option Nat} : (va_re ad r).category = 1 := by
  cases r <;> rfl
theorem i32_ne {x y : Int32} (h : ¬ x = y) : x.toInt ≠ y.toInt := fun q => h (Int32.toInt_inj.mp q)
theorem i32_0 : (0 : Int32).toInt = 0 := rfl
theorem i32_1 : (1 : Int32).toInt = 1 := rfl
theorem i32_2 : (2 : Int32).toInt = 2 := rfl
theorem i32_3 : (3 : Int32).toInt = 3 := rfl
theorem i32_4 : (4 : Int32).toInt = 4 := rfl
theorem i32_5 : (5 : Int32).toInt = 5 := rfl
theorem i32_6 : (6 : Int32).toInt = 6 := rfl
theorem i32_7 : (7 : Int32).toInt = 7 := rfl
theorem i32_8 : (8 : Int32).toInt = 8 := rfl
theorem i32_9 : (9 : Int32).toInt = 9 := rfl
theorem i32_10 : (10 : Int32).toInt = 10 := rfl
theorem i32_11 : (11 : Int32).toInt = 11 := rfl
theorem i32_12 : (12 : Int32).toInt = 12 := rfl
theorem i32_13 : (13 : Int32).toInt = 13 := rfl
theorem i32_14 : (14 : Int32).toInt = 14 := rfl
theorem i32_15 : (15 : Int32).toInt = 15 := rfl
section HLP
variable {p : Program} {l : Launch} {e : Env} {R : Room} {s : State} {m : MethodId} {args : Array Value} {below : List Frame} {meth : Method} {c : Code} {H : Heap} {locs : List Loc} {cells slots : Nat} {Q : State → Prop}
variable {cc : ByteArray} {pc : Nat} {ls : Array Slot} {rest : List Value}
theorem r_tin (hx : p.tables.exec = Jvm.exec) (hb : c.code = cc) {dflt lo hi : Int} {offs : Array Int} {len : Nat} {x : Int32} {off : Int} {tgt : Nat} {k : Int32} (hdg : decode cc pc = .ok (.tableswitch dflt lo hi offs, len)) (hk : x = k) (h1 : ¬ k.toInt < lo) (h2 : ¬ hi < k.toInt) (ho : offs[(k.toInt - lo).toNat]? = some off) (ht : (pc : Int) + off = (tgt : Int)) (kk : W p l e R s m args below meth c H locs cells slots Q (F0 m tgt ls rest)) : W p l e R s m args below meth c H locs cells slots Q (F0 m pc ls (.int x :: rest)) := by
  subst hk
  exact lv_tableIn hx hb hdg h1 h2 ho ht kk
end HLP
end
section
/-! RingHeap$Row.append -/
theorem k_X3_append_1 : Cond.fieldLink RX3 17 "RingHeap$Row" "length" "I" ∈ wsX3_append := List.mem_of_getElem? (i := 1) (by rfl)
theorem n_X3_append_X3 : ∀ w ∈ u_ws RX3 TX3 2, w ∈ wsX3_append := fun _ h => List.mem_cons_of_mem _ (List.mem_append_right _ h)
theorem k_X3_append_2 : Cond.fieldLink RX3 11 "RingHeap$Row" "things" "[LRingHeap$Thing;" ∈ wsX3_append := List.mem_of_getElem? (i := 2) (by rfl)

def f_X3_append (N : Nat) (a0 : Nat) (p0 : Nat) (u : Mm) : Option (Mm) :=
  pt (u.1 a0 1) (fun x1 => if 80 ≤ x1 then (some u) else (pt (u.1 a0 1) (fun x4 => ck (bI x4 80) (pt (sR u (a0 + 1) (ix x4) (some p0)) (fun u => pt (u.1 a0 1) (fun x5 => pt (sI u a0 1 (x5 + 1)) (fun u => some u)))))))
set_option maxHeartbeats 4000000 in
set_option maxRecDepth 100000 in
theorem c_X3_append (l : Launch) (D : va_G) (cy : Nat → ClassId) (L : List Nat) (ad : Nat → Nat) (N : Nat) (a0 : Nat) (p0 : Nat) (u : Mm) (o : Mm) (h_a0 : vn L 3 a0) (h_p0 : vn L 5 p0) (h : f_X3_append N a0 p0 u = some o) : MtV l yX3_append wsX3_append ({ frames := 0, cells := 0, slots := 0, locals := 0 } : Room) D cy L ad [.ref (ad a0), .ref (ad p0)] u o := by
  intro sz
  refine Met.ofW (cc := cX3_append) (maxL := 2) (ret := none) (by decide) rfl ?_
  intro p e s m args below meth c s₁ B hml hv
  obtain ⟨rfl, hsz, hP, hK, hD0, hok⟩ := hv
  have hx := B.exec
  have hb := B.bytes
  have hr := B.returns
  have hts := atoms_spec (ws := wsX3_append) B.pre
  have hown : s.vm.findClass RX3 = some m.cls := findClass_of_methodNamed B.named
  have hlocks := B.notSynchronized
  subst hsz
  have hw := wd_start hP hD0 hok
  have hA : ∀ q : Nat, s.heap.size ≤ q → va_A (wl cy L ad u) s.heap.size q := fun q h => Or.inr h
  generalize va_A (wl cy L ad u) s.heap.size = A at hw hA ⊢
  have C0 : Cx p m meth c cX3_append none 2 s _ wsX3_append RX3 D cy := ⟨hx, hb, hr, hml, hown, hts, hlocks, hK⟩
  have hl := lv_entry ([.ref (ad a0), .ref (ad p0)]) (n := 2) (Nat.le_of_ble_eq_true rfl)
  rw [lg_entry_eq]
  generalize (lg_sl ([.ref (ad a0), .ref (ad p0)]) ++ List.replicate (2 - (lg_sl ([.ref (ad a0), .ref (ad p0)])).length) Slot.unset).toArray = ls at hl ⊢
  have hl : lv_has ls 2 [(0, .ref (ad a0)), (1, .ref (ad p0))] := hl
  unfold f_X3_append at h
  refine lv_aload_n hx hb dX3_append_0 rfl (lv_at hl 0 rfl) ?_
  refine r_getI hx hb hts n_X3_append_X3 hown hK hw h_a0 (by decide) rfl 1 (by decide) rfl (hts _ k_X3_append_1) (fun _ q => q) dX3_append_1 h (fun x1 h => ?_)
  refine lv_aload_n hx hb dX3_append_4 rfl (lv_at hl 0 rfl) ?_
  refine r_getC (t2 := 12) (d := (a0 + 1)) hx hb hts n_X3_append_X3 hown hK hw h_a0 (by decide) rfl 0 (by decide) rfl (cst3 h_a0.2) (hts _ k_X3_append_2) (fun _ q => q) dX3_append_5 (fun hv2 => ?_)
  refine r_alen (n := 80) (v := 80) hx hb hK hw hv2 (by decide) (ln3s h_a0.2) rfl dX3_append_8 ?_
  refine lv_icmp_ge (tgt := 32) hx hb dX3_append_9 (by decide) (fun hc => ?_) (fun hc => ?_)
  · rw [if_pos hc] at h
    exact r_vret hx hb hr hlocks hK hw h dX3_append_32
  · rw [if_neg hc] at h
    refine lv_aload_n hx hb dX3_append_12 rfl (lv_at hl 0 rfl) ?_
    refine r_getC (t2 := 12) (d := (a0 + 1)) hx hb hts n_X3_append_X3 hown hK hw h_a0 (by decide) rfl 0 (by decide) rfl (cst3 h_a0.2) (hts _ k_X3_append_2) (fun _ q => q) dX3_append_13 (fun hv3 => ?_)
    refine lv_aload_n hx hb dX3_append_16 rfl (lv_at hl 0 rfl) ?_
    refine r_getI hx hb hts n_X3_append_X3 hown hK hw h_a0 (by decide) rfl 1 (by decide) rfl (hts _ k_X3_append_1) (fun _ q => q) dX3_append_17 h (fun x4 h => ?_)
    refine lv_aload_n hx hb dX3_append_20 rfl (lv_at hl 1 rfl) ?_
    refine r_tast (n := 80) (v := (some p0)) hx hb hK hw hv3 (ln3s h_a0.2) (vr_some h_p0) dX3_append_21 h (fun u H locs hw h => ?_)
    refine lv_aload_n hx hb dX3_append_22 rfl (lv_at hl 0 rfl) ?_
    refine lv_dup hx hb dX3_append_23 rfl ?_
    refine r_getI hx hb hts n_X3_append_X3 hown hK hw h_a0 (by decide) rfl 1 (by decide) rfl (hts _ k_X3_append_1) (fun _ q => q) dX3_append_24 h (fun x5 h => ?_)
    refine lv_iconst (v := 1) hx hb dX3_append_27 (by decide) ?_
    refine lv_iadd hx hb dX3_append_28 ?_
    refine r_putI (ty := .int) hx hb hts n_X3_append_X3 tyX3 tyX3_ok nmX3 hown hK hw h_a0 (by decide) rfl 1 (by decide) rfl (hts _ k_X3_append_1) (fun _ q => q) rfl rfl rfl rfl dX3_append_29 h (fun u H locs hw h => ?_)
    exact r_vret hx hb hr hlocks hK hw h dX3_append_32
/-! RingHeap$Row.item -/
theorem k_X3_item_1 : Cond.fieldLink RX3 17 "RingHeap$Row" "length" "I" ∈ wsX3_item := List.mem_of_getElem? (i := 1) (by rfl)
theorem n_X3_item_X3 : ∀ w ∈ u_ws RX3 TX3 2, w ∈ wsX3_item := fun _ h => List.mem_cons_of_mem _ (List.mem_append_right _ h)
theorem k_X3_item_2 : Cond.fieldLink RX3 11 "RingHeap$Row" "things" "[LRingHeap$Thing;" ∈ wsX3_item := List.mem_of_getElem? (i := 2) (by rfl)

def f_X3_item (N : Nat) (a0 : Nat) (p0 : Int32) (u : Mm) : Option (Option Nat × Mm) :=
  if p0 < 0 then (some (none, u)) else (pt (u.1 a0 1) (fun x1 => if x1 ≤ p0 then (some (none, u)) else (if 80 ≤ p0 then (some (none, u)) else (ck (bI p0 80) (pt (u.2 (a0 + 1) (ix p0)) (fun r4 => some (r4, u)))))))
set_option maxHeartbeats 4000000 in
set_option maxRecDepth 100000 in
theorem c_X3_item (l : Launch) (D : va_G) (cy : Nat → ClassId) (L : List Nat) (ad : Nat → Nat) (N : Nat) (a0 : Nat) (p0 : Int32) (u : Mm) (o : Option Nat × Mm) (h_a0 : vn L 3 a0) (h : f_X3_item N a0 p0 u = some o) : MtQ l yX3_item wsX3_item ({ frames := 0, cells := 0, slots := 0, locals := 0 } : Room) D cy L ad 5 [.ref (ad a0), .int p0] u o := by
  intro sz
  refine Met.ofW (cc := cX3_item) (maxL := 2) (ret := (some (.object "RingHeap$Thing"))) (by decide) rfl ?_
  intro p e s m args below meth c s₁ B hml hv
  obtain ⟨rfl, hsz, hP, hK, hD0, hok⟩ := hv
  have hx := B.exec
  have hb := B.bytes
  have hr := B.returns
  have hts := atoms_spec (ws := wsX3_item) B.pre
  have hown : s.vm.findClass RX3 = some m.cls := findClass_of_methodNamed B.named
  have hlocks := B.notSynchronized
  subst hsz
  have hw := wd_start hP hD0 hok
  have hA : ∀ q : Nat, s.heap.size ≤ q → va_A (wl cy L ad u) s.heap.size q := fun q h => Or.inr h
  generalize va_A (wl cy L ad u) s.heap.size = A at hw hA ⊢
  have C0 : Cx p m meth c cX3_item (some (.object "RingHeap$Thing")) 2 s _ wsX3_item RX3 D cy := ⟨hx, hb, hr, hml, hown, hts, hlocks, hK⟩
  have hl := lv_entry ([.ref (ad a0), .int p0]) (n := 2) (Nat.le_of_ble_eq_true rfl)
  rw [lg_entry_eq]
  generalize (lg_sl ([.ref (ad a0), .int p0]) ++ List.replicate (2 - (lg_sl ([.ref (ad a0), .int p0])).length) Slot.unset).toArray = ls at hl ⊢
  have hl : lv_has ls 2 [(0, .ref (ad a0)), (1, .int p0)] := hl
  unfold f_X3_item at h
  refine lv_iload_n hx hb dX3_item_0 rfl (lv_at hl 1 rfl) ?_
  refine lv_if_lt (tgt := 30) hx hb dX3_item_1 (by decide) (fun hc => ?_) (fun hc => ?_)
  · rw [if_pos hc] at h
    refine lv_null hx hb dX3_item_30 ?_
    exact r_qret (v := none) hx hb hr hlocks hK hw vr_none h dX3_item_31
  · rw [if_neg hc] at h
    refine lv_iload_n hx hb dX3_item_4 rfl (lv_at hl 1 rfl) ?_
    refine lv_aload_n hx hb dX3_item_5 rfl (lv_at hl 0 rfl) ?_
    refine r_getI hx hb hts n_X3_item_X3 hown hK hw h_a0 (by decide) rfl 1 (by decide) rfl (hts _ k_X3_item_1) (fun _ q => q) dX3_item_6 h (fun x1 h => ?_)
    refine lv_icmp_ge (tgt := 30) hx hb dX3_item_9 (by decide) (fun hc => ?_) (fun hc => ?_)
    · rw [if_pos hc] at h
      refine lv_null hx hb dX3_item_30 ?_
      exact r_qret (v := none) hx hb hr hlocks hK hw vr_none h dX3_item_31
    · rw [if_neg hc] at h
      refine lv_iload_n hx hb dX3_item_12 rfl (lv_at hl 1 rfl) ?_
      refine lv_aload_n hx hb dX3_item_13 rfl (lv_at hl 0 rfl) ?_
      refine r_getC (t2 := 12) (d := (a0 + 1)) hx hb hts n_X3_item_X3 hown hK hw h_a0 (by decide) rfl 0 (by decide) rfl (cst3 h_a0.2) (hts _ k_X3_item_2) (fun _ q => q) dX3_item_14 (fun hv2 => ?_)
      refine r_alen (n := 80) (v := 80) hx hb hK hw hv2 (by decide) (ln3s h_a0.2) rfl dX3_item_17 ?_
      refine lv_icmp_ge (tgt := 30) hx hb dX3_item_18 (by decide) (fun hc => ?_) (fun hc => ?_)
      · rw [if_pos hc] at h
        refine lv_null hx hb dX3_item_30 ?_
        exact r_qret (v := none) hx hb hr hlocks hK hw vr_none h dX3_item_31
      · rw [if_neg hc] at h
        refine lv_aload_n hx hb dX3_item_21 rfl (lv_at hl 0 rfl) ?_
        refine r_getC (t2 := 12) (d := (a0 + 1)) hx hb hts n_X3_item_X3 hown hK hw h_a0 (by decide) rfl 0 (by decide) rfl (cst3 h_a0.2) (hts _ k_X3_item_2) (fun _ q => q) dX3_item_22 (fun hv3 => ?_)
        refine lv_iload_n hx hb dX3_item_25 rfl (lv_at hl 1 rfl) ?_
        refine r_tald (n := 80) hx hb hK hw hv3 (ln3s h_a0.2) dX3_item_26 h (fun r4 hv_r4 h => ?_)
        refine lv_goto (tgt := 31) hx hb dX3_item_27 (by decide) ?_
        exact r_qret (v := r4) hx hb hr hlocks hK hw hv_r4 h dX3_item_31
/-! RingHeap$Row.last -/
theorem k_X3_last_1 : Cond.fieldLink RX3 17 "RingHeap$Row" "length" "I" ∈ wsX3_last := List.mem_of_getElem? (i := 1) (by rfl)
theorem n_X3_last_X3 : ∀ w ∈ u_ws RX3 TX3 2, w ∈ wsX3_last := fun _ h => List.mem_cons_of_mem _ (List.mem_append_right _ h)

def f_X3_last (N : Nat) (a0 : Nat) (u : Mm) : Option (Option Nat × Mm) :=
  pt (u.1 a0 1) (fun x1 => bd (f_X3_item N a0 (x1 - 1) u) (fun r2 u => some (r2, u)))
set_option maxHeartbeats 4000000 in
set_option maxRecDepth 100000 in
theorem c_X3_last (l : Launch) (D : va_G) (cy : Nat → ClassId) (L : List Nat) (ad : Nat → Nat) (N : Nat) (a0 : Nat) (u : Mm) (o : Option Nat × Mm) (h_a0 : vn L 3 a0) (h : f_X3_last N a0 u = some o) : MtQ l yX3_last wsX3_last ({ frames := 1, cells := 0, slots := 0, locals := 21 } : Room) D cy L ad 5 [.ref (ad a0)] u o := by
  intro sz
  refine Met.ofW (cc := cX3_last) (maxL := 1) (ret := (some (.object "RingHeap$Thing"))) (by decide) rfl ?_
  intro p e s m args below meth c s₁ B hml hv
  obtain ⟨rfl, hsz, hP, hK, hD0, hok⟩ := hv
  have hx := B.exec
  have hb := B.bytes
  have hr := B.returns
  have hts := atoms_spec (ws := wsX3_last) B.pre
  have hown : s.vm.findClass RX3 = some m.cls := findClass_of_methodNamed B.named
  have hlocks := B.notSynchronized
  subst hsz
  have hw := wd_start hP hD0 hok
  have hA : ∀ q : Nat, s.heap.size ≤ q → va_A (wl cy L ad u) s.heap.size q := fun q h => Or.inr h
  generalize va_A (wl cy L ad u) s.heap.size = A at hw hA ⊢
  have C0 : Cx p m meth c cX3_last (some (.object "RingHeap$Thing")) 1 s _ wsX3_last RX3 D cy := ⟨hx, hb, hr, hml, hown, hts, hlocks, hK⟩
  have hl := lv_entry ([.ref (ad a0)]) (n := 1) (Nat.le_of_ble_eq_true rfl)
  rw [lg_entry_eq]
  generalize (lg_sl ([.ref (ad a0)]) ++ List.replicate (1 - (lg_sl ([.ref (ad a0)])).length) Slot.unset).toArray = ls at hl ⊢
  have hl : lv_has ls 1 [(0, .ref (ad a0))] := hl
  unfold f_X3_last at h
  refine lv_aload_n hx hb dX3_last_0 rfl (lv_at hl 0 rfl) ?_
  refine lv_aload_n hx hb dX3_last_1 rfl (lv_at hl 0 rfl) ?_
  refine r_getI hx hb hts n_X3_last_X3 hown hK hw h_a0 (by decide) rfl 1 (by decide) rfl (hts _ k_X3_last_1) (fun _ q => q) dX3_last_2 h (fun x1 h => ?_)
  refine lv_iconst (v := 1) hx hb dX3_last_5 (by decide) ?_
  refine lv_isub hx hb dX3_last_6 ?_
  refine r_bQ (fun o ho => r_vQ (As := [.int (x1 - 1)]) (rest := []) ⟨hx, hb, hml, hown, hts⟩ (c_X3_item l D cy L ad N a0 (x1 - 1) u o h_a0 ho) (cwV 1 hts gX3_last_X3_item rfl rfl rfl (by decide +kernel) ⟨Nat.le_of_ble_eq_true rfl, Nat.le_of_ble_eq_true rfl⟩) hw hK h_a0 (by decide) rfl rfl hl.1 rfl (Nat.le_of_ble_eq_true rfl) dX3_last_7 ⟨Nat.zero_le _, Nat.zero_le _⟩) hw hA h (fun r2 u H locs hw hv_r2 h => ?_)
  exact r_qret (v := r2) hx hb hr hlocks hK hw hv_r2 h dX3_last_10
/-! RingHeap$Row.removeLast -/
theorem k_X3_removeLast_1 : Cond.fieldLink RX3 17 "RingHeap$Row" "length" "I" ∈ wsX3_removeLast := List.mem_of_getElem? (i := 1) (by rfl)
theorem n_X3_removeLast_X3 : ∀ w ∈ u_ws RX3 TX3 2, w ∈ wsX3_removeLast := fun _ h => List.mem_cons_of_mem _ (List.mem_append_right _ h)

def f_X3_removeLast (N : Nat) (a0 : Nat) (u : Mm) : Option (Mm) :=
  pt (u.1 a0 1) (fun x1 => if x1 ≤ 0 then (some u) else (pt (u.1 a0 1) (fun x2 => pt (sI u a0 1 (x2 - 1)) (fun u => some u))))
set_option maxHeartbeats 4000000 in
set_option maxRecDepth 100000 in
theorem c_X3_removeLast (l : Launch) (D : va_G) (cy : Nat → ClassId) (L : List Nat) (ad : Nat → Nat) (N : Nat) (a0 : Nat) (u : Mm) (o : Mm) (h_a0 : vn L 3 a0) (h : f_X3_removeLast N a0 u = some o) : MtV l yX3_removeLast wsX3_removeLast ({ frames := 0, cells := 0, slots := 0, locals := 0 } : Room) D cy L ad [.ref (ad a0)] u o := by
  intro sz
  refine Met.ofW (cc := cX3_removeLast) (maxL := 1) (ret := none) (by decide) rfl ?_
  intro p e s m args below meth c s₁ B hml hv
  obtain ⟨rfl, hsz, hP, hK, hD0, hok⟩ := hv
  have hx := B.exec
  have hb := B.bytes
  have hr := B.returns
  have hts := atoms_spec (ws := wsX3_removeLast) B.pre
  have hown : s.vm.findClass RX3 = some m.cls := findClass_of_methodNamed B.named
  have hlocks := B.notSynchronized
  subst hsz
  have hw := wd_start hP hD0 hok
  have hA : ∀ q : Nat, s.heap.size ≤ q → va_A (wl cy L ad u) s.heap.size q := fun q h => Or.inr h
  generalize va_A (wl cy L ad u) s.heap.size = A at hw hA ⊢
  have C0 : Cx p m meth c cX3_removeLast none 1 s _ wsX3_removeLast RX3 D cy := ⟨hx, hb, hr, hml, hown, hts, hlocks, hK⟩
  have hl := lv_entry ([.ref (ad a0)]) (n := 1) (Nat.le_of_ble_eq_true rfl)
  rw [lg_entry_eq]
  generalize (lg_sl ([.ref (ad a0)]) ++ List.replicate (1 - (lg_sl ([.ref (ad a0)])).length) Slot.unset).toArray = ls at hl ⊢
  have hl : lv_has ls 1 [(0, .ref (ad a0))] := hl
  unfold f_X3_removeLast at h
  refine lv_aload_n hx hb dX3_removeLast_0 rfl (lv_at hl 0 rfl) ?_
  refine r_getI hx hb hts n_X3_removeLast_X3 hown hK hw h_a0 (by decide) rfl 1 (by decide) rfl (hts _ k_X3_removeLast_1) (fun _ q => q) dX3_removeLast_1 h (fun x1 h => ?_)
  refine lv_if_le (tgt := 17) hx hb dX3_removeLast_4 (by decide) (fun hc => ?_) (fun hc => ?_)
  · rw [if_pos hc] at h
    exact r_vret hx hb hr hlocks hK hw h dX3_removeLast_17
  · rw [if_neg hc] at h
    refine lv_aload_n hx hb dX3_removeLast_7 rfl (lv_at hl 0 rfl) ?_
    refine lv_dup hx hb dX3_removeLast_8 rfl ?_
    refine r_getI hx hb hts n_X3_removeLast_X3 hown hK hw h_a0 (by decide) rfl 1 (by decide) rfl (hts _ k_X3_removeLast_1) (fun _ q => q) dX3_removeLast_9 h (fun x2 h => ?_)
    refine lv_iconst (v := 1) hx hb dX3_removeLast_12 (by decide) ?_
    refine lv_isub hx hb dX3_removeLast_13 ?_
    refine r_putI (ty := .int) hx hb hts n_X3_removeLast_X3 tyX3 tyX3_ok nmX3 hown hK hw h_a0 (by decide) rfl 1 (by decide) rfl (hts _ k_X3_removeLast_1) (fun _ q => q) rfl rfl rfl rfl dX3_removeLast_14 h (fun u H locs hw h => ?_)
    exact r_vret hx hb hr hlocks hK hw h dX3_removeLast_17
/-! RingHeap$Row.clear -/
theorem k_X3_clear_1 : Cond.fieldLink RX3 17 "RingHeap$Row" "length" "I" ∈ wsX3_clear := List.mem_of_getElem? (i := 1) (by rfl)
theorem n_X3_clear_X3 : ∀ w ∈ u_ws RX3 TX3 2, w ∈ wsX3_clear := fun _ h => List.mem_cons_of_mem _ (List.mem_append_right _ h)

def f_X3_clear (N : Nat) (a0 : Nat) (u : Mm) : Option (Mm) :=
  pt (sI u a0 1 0) (fun u => some u)
set_option maxHeartbeats 4000000 in
set_option maxRecDepth 100000 in
theorem c_X3_clear (l : Launch) (D : va_G) (cy : Nat → ClassId) (L : List Nat) (ad : Nat → Nat) (N : Nat) (a0 : Nat) (u : Mm) (o : Mm) (h_a0 : vn L 3 a0) (h : f_X3_clear N a0 u = some o) : MtV l yX3_clear wsX3_clear ({ frames := 0, cells := 0, slots := 0, locals := 0 } : Room) D cy L ad [.ref (ad a0)] u o := by
  intro sz
  refine Met.ofW (cc := cX3_clear) (maxL := 1) (ret := none) (by decide) rfl ?_
  intro p e s m args below meth c s₁ B hml hv
  obtain ⟨rfl, hsz, hP, hK, hD0, hok⟩ := hv
  have hx := B.exec
  have hb := B.bytes
  have hr := B.returns
  have hts := atoms_spec (ws := wsX3_clear) B.pre
  have hown : s.vm.findClass RX3 = some m.cls := findClass_of_methodNamed B.named
  have hlocks := B.notSynchronized
  subst hsz
  have hw := wd_start hP hD0 hok
  have hA : ∀ q : Nat, s.heap.size ≤ q → va_A (wl cy L ad u) s.heap.size q := fun q h => Or.inr h
  generalize va_A (wl cy L ad u) s.heap.size = A at hw hA ⊢
  have C0 : Cx p m meth c cX3_clear none 1 s _ wsX3_clear RX3 D cy := ⟨hx, hb, hr, hml, hown, hts, hlocks, hK⟩
  have hl := lv_entry ([.ref (ad a0)]) (n := 1) (Nat.le_of_ble_eq_true rfl)
  rw [lg_entry_eq]
  generalize (lg_sl ([.ref (ad a0)]) ++ List.replicate (1 - (lg_sl ([.ref (ad a0)])).length) Slot.unset).toArray = ls at hl ⊢
  have hl : lv_has ls 1 [(0, .ref (ad a0))] := hl
  unfold f_X3_clear at h
  refine lv_aload_n hx hb dX3_clear_0 rfl (lv_at hl 0 rfl) ?_
  refine lv_iconst (v := 0) hx hb dX3_clear_1 (by decide) ?_
  refine r_putI (ty := .int) hx hb hts n_X3_clear_X3 tyX3 tyX3_ok nmX3 hown hK hw h_a0 (by decide) rfl 1 (by decide) rfl (hts _ k_X3_clear_1) (fun _ q => q) rfl rfl rfl rfl dX3_clear_2 h (fun u H locs hw h => ?_)
  exact r_vret hx hb hr hlocks hK hw h dX3_clear_5
/-! RingHeap$Row.takeFirst -/
theorem k_X3_takeFirst_1 : Cond.fieldLink RX3 17 "RingHeap$Row" "length" "I" ∈ wsX3_takeFirst := List.mem_of_getElem? (i := 1) (by rfl)
theorem n_X3_takeFirst_X3 : ∀ w ∈ u_ws RX3 TX3 2, w ∈ wsX3_takeFirst := fun _ h => List.mem_cons_of_mem _ (List.mem_append_right _ h)
theorem k_X3_takeFirst_2 : Cond.fieldLink RX3 11 "RingHeap$Row" "things" "[LRingHeap$Thing;" ∈ wsX3_takeFirst := List.mem_of_getElem? (i := 2) (by rfl)
def g_X3_takeFirst_22 (N : Nat) (a0 : Nat) (K22 : Nat → Int32 → Mm → Option (Option Nat × Mm)) (t1 : Nat) (v2 : Int32) (u : Mm) : Option (Option Nat × Mm) :=
  pt (u.1 a0 1) (fun x5 => if x5 ≤ v2 then (some ((some t1), u)) else (if 80 ≤ (v2 + 1) then (some ((some t1), u)) else (ck (bI (v2 + 1) 80) (pt (u.2 (a0 + 1) (ix (v2 + 1))) (fun r9 => ck (bI v2 80) (pt (sR u (a0 + 1) (ix v2) r9) (fun u => K22 t1 (v2 + 1) u)))))))
def f_X3_takeFirst_22 (N : Nat) (a0 : Nat)  : Nat → Nat → Int32 → Mm → Option (Option Nat × Mm)
  | 0 => fun _ _ _ => none
  | n + 1 => g_X3_takeFirst_22 N a0  (f_X3_takeFirst_22 N a0  n)
set_option maxHeartbeats 4000000 in
set_option maxRecDepth 100000 in
theorem jg_X3_takeFirst_22 {p : Program} {l : Launch} {e : Env} {s : State} {m : MethodId} {args : Array Value} {below : List Frame} {meth : Method} {c : Code} {D : va_G} {cy : Nat → ClassId} {L : List Nat} {ad : Nat → Nat} {A : Nat → Prop} {o : Option Nat × Mm} (N : Nat) (a0 : Nat) (h_a0 : vn L 3 a0) (C0 : Cx p m meth c cX3_takeFirst (some (.object "RingHeap$Thing")) 3 s args wsX3_takeFirst RX3 D cy) (hA : ∀ q : Nat, s.heap.size ≤ q → A q)  (K22 : Nat → Int32 → Mm → Option (Option Nat × Mm)) (hK22 : ∀ (t1 : Nat) (v2 : Int32) (u : Mm) (H : Heap) (locs : List Loc) (ls : Array Slot), vn L 3 a0 → vn L 5 t1 → Wd D cy L ad A s.heap u H locs → lv_has ls 3 [(0, .ref (ad a0)), (1, .ref (ad t1)), (2, .int v2)] → K22 t1 v2 u = some o → W p l e ({ frames := 1, cells := 0, slots := 0, locals := 21 } : Room) s m args below meth c H locs 0 0 (MQ below (QcQ D cy L ad A 5 o) args s 0 0 A) (F0 m 22 ls [])) : ∀ (t1 : Nat) (v2 : Int32) (u : Mm) (H : Heap) (locs : List Loc) (ls : Array Slot), vn L 3 a0 → vn L 5 t1 → Wd D cy L ad A s.heap u H locs → lv_has ls 3 [(0, .ref (ad a0)), (1, .ref (ad t1)), (2, .int v2)] → g_X3_takeFirst_22 N a0  K22 t1 v2 u = some o → W p l e ({ frames := 1, cells := 0, slots := 0, locals := 21 } : Room) s m args below meth c H locs 0 0 (MQ below (QcQ D cy L ad A 5 o) args s 0 0 A) (F0 m 22 ls []) := by
  obtain ⟨hx, hb, hr, hml, hown, hts, hlocks, hK⟩ := id C0
  intro t1 v2 u H locs ls hv_t0 hv_t1 hw hl h
  unfold g_X3_takeFirst_22 at h
  refine lv_iload_n hx hb dX3_takeFirst_22 rfl (lv_at hl 2 rfl) ?_
  refine lv_aload_n hx hb dX3_takeFirst_23 rfl (lv_at hl 0 rfl) ?_
  refine r_getI hx hb hts n_X3_takeFirst_X3 hown hK hw hv_t0 (by decide) rfl 1 (by decide) rfl (hts _ k_X3_takeFirst_1) (fun _ q => q) dX3_takeFirst_24 h (fun x5 h => ?_)
  refine lv_icmp_ge (tgt := 61) hx hb dX3_takeFirst_27 (by decide) (fun hc => ?_) (fun hc => ?_)
  · rw [if_pos hc] at h
    refine lv_aload_n hx hb dX3_takeFirst_61 rfl (lv_at hl 1 rfl) ?_
    exact r_qret (v := (some t1)) hx hb hr hlocks hK hw (vr_some hv_t1) h dX3_takeFirst_62
  · rw [if_neg hc] at h
    refine lv_iload_n hx hb dX3_takeFirst_30 rfl (lv_at hl 2 rfl) ?_
    refine lv_iconst (v := 1) hx hb dX3_takeFirst_31 (by decide) ?_
    refine lv_iadd hx hb dX3_takeFirst_32 ?_
    refine lv_aload_n hx hb dX3_takeFirst_33 rfl (lv_at hl 0 rfl) ?_
    refine r_getC (t2 := 12) (d := (a0 + 1)) hx hb hts n_X3_takeFirst_X3 hown hK hw hv_t0 (by decide) rfl 0 (by decide) rfl (cst3 hv_t0.2) (hts _ k_X3_takeFirst_2) (fun _ q => q) dX3_takeFirst_34 (fun hv6 => ?_)
    refine r_alen (n := 80) (v := 80) hx hb hK hw hv6 (by decide) (ln3s hv_t0.2) rfl dX3_takeFirst_37 ?_
    refine lv_icmp_ge (tgt := 61) hx hb dX3_takeFirst_38 (by decide) (fun hc => ?_) (fun hc => ?_)
    · rw [if_pos hc] at h
      refine lv_aload_n hx hb dX3_takeFirst_61 rfl (lv_at hl 1 rfl) ?_
      exact r_qret (v := (some t1)) hx hb hr hlocks hK hw (vr_some hv_t1) h dX3_takeFirst_62
    · rw [if_neg hc] at h
      refine lv_aload_n hx hb dX3_takeFirst_41 rfl (lv_at hl 0 rfl) ?_
      refine r_getC (t2 := 12) (d := (a0 + 1)) hx hb hts n_X3_takeFirst_X3 hown hK hw hv_t0 (by decide) rfl 0 (by decide) rfl (cst3 hv_t0.2) (hts _ k_X3_takeFirst_2) (fun _ q => q) dX3_takeFirst_42 (fun hv7 => ?_)
      refine lv_iload_n hx hb dX3_takeFirst_45 rfl (lv_at hl 2 rfl) ?_
      refine lv_aload_n hx hb dX3_takeFirst_46 rfl (lv_at hl 0 rfl) ?_
      refine r_getC (t2 := 12) (d := (a0 + 1)) hx hb hts n_X3_takeFirst_X3 hown hK hw hv_t0 (by decide) rfl 0 (by decide) rfl (cst3 hv_t0.2) (hts _ k_X3_takeFirst_2) (fun _ q => q) dX3_takeFirst_47 (fun hv8 => ?_)
      refine lv_iload_n hx hb dX3_takeFirst_50 rfl (lv_at hl 2 rfl) ?_
      refine lv_iconst (v := 1) hx hb dX3_takeFirst_51 (by decide) ?_
      refine lv_iadd hx hb dX3_takeFirst_52 ?_
      refine r_tald (n := 80) hx hb hK hw hv8 (ln3s hv_t0.2) dX3_takeFirst_53 h (fun r9 hv_r9 h => ?_)
      refine r_tast (n := 80) (v := r9) hx hb hK hw hv7 (ln3s hv_t0.2) hv_r9 dX3_takeFirst_54 h (fun u H locs hw h => ?_)
      refine lv_iinc (v := v2 + 1) (lv' := [(2, .int (v2 + 1)), (0, .ref (ad a0)), (1, .ref (ad t1))]) hx hb dX3_takeFirst_55 hl (k := 2) rfl rfl (by decide) rfl (fun ls hl => ?_)
      refine lv_goto (tgt := 22) hx hb dX3_takeFirst_58 (by decide) ?_
      exact hK22 t1 (v2 + 1) u _ _ _ hv_t0 hv_t1 hw (lv_sub hl [1, 2, 0] rfl) h
set_option maxHeartbeats 4000000 in
set_option maxRecDepth 100000 in
theorem j_X3_takeFirst_22 {p : Program} {l : Launch} {e : Env} {s : State} {m : MethodId} {args : Array Value} {below : List Frame} {meth : Method} {c : Code} {D : va_G} {cy : Nat → ClassId} {L : List Nat} {ad : Nat → Nat} {A : Nat → Prop} {o : Option Nat × Mm} (N : Nat) (a0 : Nat) (h_a0 : vn L 3 a0) (C0 : Cx p m meth c cX3_takeFirst (some (.object "RingHeap$Thing")) 3 s args wsX3_takeFirst RX3 D cy) (hA : ∀ q : Nat, s.heap.size ≤ q → A q)  : ∀ (n : Nat), ∀ (t1 : Nat) (v2 : Int32) (u : Mm) (H : Heap) (locs : List Loc) (ls : Array Slot), vn L 3 a0 → vn L 5 t1 → Wd D cy L ad A s.heap u H locs → lv_has ls 3 [(0, .ref (ad a0)), (1, .ref (ad t1)), (2, .int v2)] → f_X3_takeFirst_22 N a0  n t1 v2 u = some o → W p l e ({ frames := 1, cells := 0, slots := 0, locals := 21 } : Room) s m args below meth c H locs 0 0 (MQ below (QcQ D cy L ad A 5 o) args s 0 0 A) (F0 m 22 ls []) := by
  intro n
  induction n with
  | zero =>
    intro t1 v2 u H locs ls hv_t0 hv_t1 hw hl h
    cases h
  | succ n ih => exact jg_X3_takeFirst_22 N a0 h_a0 C0 hA  _ ih
def f_X3_takeFirst (N : Nat) (a0 : Nat) (u : Mm) : Option (Option Nat × Mm) :=
  bd (f_X3_item N a0 0 u) (fun r1 u => nl r1 (some (none, u)) (fun t2 => pt (u.1 a0 1) (fun x4 => pt (sI u a0 1 (x4 - 1)) (fun u => f_X3_takeFirst_22 N a0 N t2 0 u))))
set_option maxHeartbeats 4000000 in
set_option maxRecDepth 100000 in
theorem c_X3_takeFirst (l : Launch) (D : va_G) (cy : Nat → ClassId) (L : List Nat) (ad : Nat → Nat) (N : Nat) (a0 : Nat) (u : Mm) (o : Option Nat × Mm) (h_a0 : vn L 3 a0) (h : f_X3_takeFirst N a0 u = some o) : MtQ l yX3_takeFirst wsX3_takeFirst ({ frames := 1, cells := 0, slots := 0, locals := 21 } : Room) D cy L ad 5 [.ref (ad a0)] u o := by
  intro sz
  refine Met.ofW (cc := cX3_takeFirst) (maxL := 3) (ret := (some (.object "RingHeap$Thing"))) (by decide) rfl ?_
  intro p e s m args below meth c s₁ B hml hv
  obtain ⟨rfl, hsz, hP, hK, hD0, hok⟩ := hv
  have hx := B.exec
  have hb := B.bytes
  have hr := B.returns
  have hts := atoms_spec (ws := wsX3_takeFirst) B.pre
  have hown : s.vm.findClass RX3 = some m.cls := findClass_of_methodNamed B.named
  have hlocks := B.notSynchronized
  subst hsz
  have hw := wd_start hP hD0 hok
  have hA : ∀ q : Nat, s.heap.size ≤ q → va_A (wl cy L ad u) s.heap.size q := fun q h => Or.inr h
  generalize va_A (wl cy L ad u) s.heap.size = A at hw hA ⊢
  have C0 : Cx p m meth c cX3_takeFirst (some (.object "RingHeap$Thing")) 3 s _ wsX3_takeFirst RX3 D cy := ⟨hx, hb, hr, hml, hown, hts, hlocks, hK⟩
  have hl := lv_entry ([.ref (ad a0)]) (n := 3) (Nat.le_of_ble_eq_true rfl)
  rw [lg_entry_eq]
  generalize (lg_sl ([.ref (ad a0)]) ++ List.replicate (3 - (lg_sl ([.ref (ad a0)])).length) Slot.unset).toArray = ls at hl ⊢
  have hl : lv_has ls 3 [(0, .ref (ad a0))] := hl
  unfold f_X3_takeFirst at h
  refine lv_aload_n hx hb dX3_takeFirst_0 rfl (lv_at hl 0 rfl) ?_
  refine lv_iconst (v := 0) hx hb dX3_takeFirst_1 (by decide) ?_
  refine r_bQ (fun o ho => r_vQ (As := [.int 0]) (rest := []) ⟨hx, hb, hml, hown, hts⟩ (c_X3_item l D cy L ad N a0 0 u o h_a0 ho) (cwV 1 hts gX3_takeFirst_X3_item rfl rfl rfl (by decide +kernel) ⟨Nat.le_of_ble_eq_true rfl, Nat.le_of_ble_eq_true rfl⟩) hw hK h_a0 (by decide) rfl rfl hl.1 rfl (Nat.le_of_ble_eq_true rfl) dX3_takeFirst_2 ⟨Nat.zero_le _, Nat.zero_le _⟩) hw hA h (fun r1 u H locs hw hv_r1 h => ?_)
  refine r_astoren (lv' := [(1, va_re ad r1), (0, .ref (ad a0))]) hx hb dX3_takeFirst_5 rfl hl (by decide) rfl (fun ls hl => ?_)
  refine r_aloadn hx hb dX3_takeFirst_6 rfl (lv_at hl 0 rfl) ?_
  refine r_ifnull (tgt := 61) hx hb hv_r1 dX3_takeFirst_7 (by decide) h (fun e3 h9 => ?_) (fun t2 e3 hv_t2 h9 => ?_)
  · clear h
    subst e3
    have h := h9
    have hl : lv_has ls 3 [(1, va_re ad none), (0, .ref (ad a0))] := hl
    refine r_aloadn hx hb dX3_takeFirst_61 rfl (lv_at hl 0 rfl) ?_
    exact r_qret (v := none) hx hb hr hlocks hK hw vr_none h dX3_takeFirst_62
  · clear h
    subst e3
    have h := h9
    have hl : lv_has ls 3 [(1, .ref (ad t2)), (0, .ref (ad a0))] := hl
    refine lv_aload_n hx hb dX3_takeFirst_10 rfl (lv_at hl 1 rfl) ?_
    refine lv_dup hx hb dX3_takeFirst_11 rfl ?_
    refine r_getI hx hb hts n_X3_takeFirst_X3 hown hK hw h_a0 (by decide) rfl 1 (by decide) rfl (hts _ k_X3_takeFirst_1) (fun _ q => q) dX3_takeFirst_12 h (fun x4 h => ?_)
    refine lv_iconst (v := 1) hx hb dX3_takeFirst_15 (by decide) ?_
    refine lv_isub hx hb dX3_takeFirst_16 ?_
    refine r_putI (ty := .int) hx hb hts n_X3_takeFirst_X3 tyX3 tyX3_ok nmX3 hown hK hw h_a0 (by decide) rfl 1 (by decide) rfl (hts _ k_X3_takeFirst_1) (fun _ q => q) rfl rfl rfl rfl dX3_takeFirst_17 h (fun u H locs hw h => ?_)
    refine lv_iconst (v := 0) hx hb dX3_takeFirst_20 (by decide) ?_
    refine lv_istore_n (lv' := [(2, .int 0), (1, .ref (ad t2)), (0, .ref (ad a0))]) hx hb dX3_takeFirst_21 rfl hl (by decide) rfl (fun ls hl => ?_)
    exact j_X3_takeFirst_22 N a0 h_a0 C0 hA N t2 0 u _ _ _ h_a0 hv_t2 hw (lv_sub hl [2, 1, 0] rfl) h
end
section
/-! RingHeap$Thing.hasField -/
theorem k_X5_hasField_1 : Cond.fieldLink RX5 21 "RingHeap$Thing" "kind" "LRingHeap$Kind;" ∈ wsX5_hasField := List.mem_of_getElem? (i := 1) (by rfl)
theorem n_X5_hasField_X5 : ∀ w ∈ u_ws RX5 TX5 11, w ∈ wsX5_hasField := fun _ h => List.mem_cons_of_mem _ (List.mem_append_left _ (List.mem_append_right _ h))
theorem k_X5_hasField_2 : Cond.fieldLink RX5 29 "RingHeap$Kind" "fields" "I" ∈ wsX5_hasField := List.mem_of_getElem? (i := 2) (by rfl)
theorem n_X5_hasField_X2 : ∀ w ∈ u_ws RX2 TX2 4, w ∈ wsX5_hasField := fun _ h => List.mem_cons_of_mem _ (List.mem_append_right _ h)
theorem k_X5_hasField_3 : Cond.fieldLink RX5 25 "RingHeap$Thing" "held" "[LRingHeap$Thing;" ∈ wsX5_hasField := List.mem_of_getElem? (i := 3) (by rfl)

def f_X5_hasField (N : Nat) (a0 : Nat) (p0 : Int32) (u : Mm) : Option (Int32 × Mm) :=
  if p0 < 0 then (some (0, u)) else (pt (u.2 a0 1) (fun r1 => nl r1 none (fun t2 => pt (u.1 t2 1) (fun x4 => if x4 ≤ p0 then (some (0, u)) else (if 6 ≤ p0 then (some (0, u)) else (some (1, u)))))))
set_option maxHeartbeats 4000000 in
set_option maxRecDepth 100000 in
theorem c_X5_hasField (l : Launch) (D : va_G) (cy : Nat → ClassId) (L : List Nat) (ad : Nat → Nat) (N : Nat) (a0 : Nat) (p0 : Int32) (u : Mm) (o : Int32 × Mm) (h_a0 : vn L 5 a0) (h : f_X5_hasField N a0 p0 u = some o) : MtI l yX5_hasField wsX5_hasField ({ frames := 0, cells := 0, slots := 0, locals := 0 } : Room) D cy L ad [.ref (ad a0), .int p0] u o := by
  intro sz
  refine Met.ofW (cc := cX5_hasField) (maxL := 2) (ret := (some .boolean)) (by decide) rfl ?_
  intro p e s m args below meth c s₁ B hml hv
  obtain ⟨rfl, hsz, hP, hK, hD0, hok⟩ := hv
  have hx := B.exec
  have hb := B.bytes
  have hr := B.returns
  have hts := atoms_spec (ws := wsX5_hasField) B.pre
  have hown : s.vm.findClass RX5 = some m.cls := findClass_of_methodNamed B.named
  have hlocks := B.notSynchronized
  subst hsz
  have hw := wd_start hP hD0 hok
  have hA : ∀ q : Nat, s.heap.size ≤ q → va_A (wl cy L ad u) s.heap.size q := fun q h => Or.inr h
  generalize va_A (wl cy L ad u) s.heap.size = A at hw hA ⊢
  have C0 : Cx p m meth c cX5_hasField (some .boolean) 2 s _ wsX5_hasField RX5 D cy := ⟨hx, hb, hr, hml, hown, hts, hlocks, hK⟩
  have hl := lv_entry ([.ref (ad a0), .int p0]) (n := 2) (Nat.le_of_ble_eq_true rfl)
  rw [lg_entry_eq]
  generalize (lg_sl ([.ref (ad a0), .int p0]) ++ List.replicate (2 - (lg_sl ([.ref (ad a0), .int p0])).length) Slot.unset).toArray = ls at hl ⊢
  have hl : lv_has ls 2 [(0, .ref (ad a0)), (1, .int p0)] := hl
  unfold f_X5_hasField at h
  refine lv_iload_n hx hb dX5_hasField_0 rfl (lv_at hl 1 rfl) ?_
  refine lv_if_lt (tgt := 28) hx hb dX5_hasField_1 (by decide) (fun hc => ?_) (fun hc => ?_)
  · rw [if_pos hc] at h
    refine lv_iconst (v := 0) hx hb dX5_hasField_28 (by decide) ?_
    exact r_zret hx hb hr hlocks hK hw (by decide) h dX5_hasField_29
  · rw [if_neg hc] at h
    refine lv_iload_n hx hb dX5_hasField_4 rfl (lv_at hl 1 rfl) ?_
    refine lv_aload_n hx hb dX5_hasField_5 rfl (lv_at hl 0 rfl) ?_
    refine r_getR (t2 := 2) hx hb hts n_X5_hasField_X5 hown hK hw h_a0 (by decide) rfl 1 (by decide) rfl (hts _ k_X5_hasField_1) (fun _ q => q) dX5_hasField_6 h (fun r1 hv_r1 h => ?_)
    refine r_nn hv_r1 h (fun t2 e3 hv_t2 h9 => ?_)
    clear h
    subst e3
    have h := h9
    have hl : lv_has ls 2 [(0, .ref (ad a0)), (1, .int p0)] := hl
    refine r_getI hx hb hts n_X5_hasField_X2 hown hK hw hv_t2 (by decide) rfl 1 (by decide) rfl (hts _ k_X5_hasField_2) (fun _ q => q) dX5_hasField_9 h (fun x4 h => ?_)
    refine lv_icmp_ge (tgt := 28) hx hb dX5_hasField_12 (by decide) (fun hc => ?_) (fun hc => ?_)
    · rw [if_pos hc] at h
      refine lv_iconst (v := 0) hx hb dX5_hasField_28 (by decide) ?_
      exact r_zret hx hb hr hlocks hK hw (by decide) h dX5_hasField_29
    · rw [if_neg hc] at h
      refine lv_iload_n hx hb dX5_hasField_15 rfl (lv_at hl 1 rfl) ?_
      refine lv_aload_n hx hb dX5_hasField_16 rfl (lv_at hl 0 rfl) ?_
      refine r_getC (t2 := 12) (d := (a0 + 1)) hx hb hts n_X5_hasField_X5 hown hK hw h_a0 (by decide) rfl 2 (by decide) rfl (cst5 h_a0.2) (hts _ k_X5_hasField_3) (fun _ q => q) dX5_hasField_17 (fun hv5 => ?_)
      refine r_alen (n := 6) (v := 6) hx hb hK hw hv5 (by decide) (ln5s h_a0.2) rfl dX5_hasField_20 ?_
      refine lv_icmp_ge (tgt := 28) hx hb dX5_hasField_21 (by decide) (fun hc => ?_) (fun hc => ?_)
      · rw [if_pos hc] at h
        refine lv_iconst (v := 0) hx hb dX5_hasField_28 (by decide) ?_
        exact r_zret hx hb hr hlocks hK hw (by decide) h dX5_hasField_29
      · rw [if_neg hc] at h
        refine lv_iconst (v := 1) hx hb dX5_hasField_24 (by decide) ?_
        refine lv_goto (tgt := 29) hx hb dX5_hasField_25 (by decide) ?_
        exact r_zret hx hb hr hlocks hK hw (by decide) h dX5_hasField_29
/-! RingHeap$Thing.isGreen -/
theorem k_X5_isGreen_1 : Cond.fieldLink RX5 34 "RingHeap$Thing" "colour" "I" ∈ wsX5_isGreen := List.mem_of_getElem? (i := 1) (by rfl)
theorem n_X5_isGreen_X5 : ∀ w ∈ u_ws RX5 TX5 11, w ∈ wsX5_isGreen := fun _ h => List.mem_cons_of_mem _ (List.mem_append_right _ h)

def f_X5_isGreen (N : Nat) (a0 : Nat) (u : Mm) : Option (Int32 × Mm) :=
  pt (u.1 a0 5) (fun x1 => if x1 = 4 then (some (1, u)) else (some (0, u)))
set_option maxHeartbeats 4000000 in
set_option maxRecDepth 100000 in
theorem c_X5_isGreen (l : Launch) (D : va_G) (cy : Nat → ClassId) (L : List Nat) (ad : Nat → Nat) (N : Nat) (a0 : Nat) (u : Mm) (o : Int32 × Mm) (h_a0 : vn L 5 a0) (h : f_X5_isGreen N a0 u = some o) : MtI l yX5_isGreen wsX5_isGreen ({ frames := 0, cells := 0, slots := 0, locals := 0 } : Room) D cy L ad [.ref (ad a0)] u o := by
  intro sz
  refine Met.ofW (cc := cX5_isGreen) (maxL := 1) (ret := (some .boolean)) (by decide) rfl ?_
  intro p e s m args below meth c s₁ B hml hv
  obtain ⟨rfl, hsz, hP, hK, hD0, hok⟩ := hv
  have hx := B.exec
  have hb := B.bytes
  have hr := B.returns
  have hts := atoms_spec (ws := wsX5_isGreen) B.pre
  have hown : s.vm.findClass RX5 = some m.cls := findClass_of_methodNamed B.named
  have hlocks := B.notSynchronized
  subst hsz
  have hw := wd_start hP hD0 hok
  have hA : ∀ q : Nat, s.heap.size ≤ q → va_A (wl cy L ad u) s.heap.size q := fun q h => Or.inr h
  generalize va_A (wl cy L ad u) s.heap.size = A at hw hA ⊢
  have C0 : Cx p m meth c cX5_isGreen (some .boolean) 1 s _ wsX5_isGreen RX5 D cy := ⟨hx, hb, hr, hml, hown, hts, hlocks, hK⟩
  have hl := lv_entry ([.ref (ad a0)]) (n := 1) (Nat.le_of_ble_eq_true rfl)
  rw [lg_entry_eq]
  generalize (lg_sl ([.ref (ad a0)]) ++ List.replicate (1 - (lg_sl ([.ref (ad a0)])).length) Slot.unset).toArray = ls at hl ⊢
  have hl : lv_has ls 1 [(0, .ref (ad a0))] := hl
  unfold f_X5_isGreen at h
  refine lv_aload_n hx hb dX5_isGreen_0 rfl (lv_at hl 0 rfl) ?_
  refine r_getI hx hb hts n_X5_isGreen_X5 hown hK hw h_a0 (by decide) rfl 5 (by decide) rfl (hts _ k_X5_isGreen_1) (fun _ q => q) dX5_isGreen_1 h (fun x1 h => ?_)
  refine lv_iconst (v := 4) hx hb dX5_isGreen_4 (by decide) ?_
  refine lv_icmp_ne (tgt := 12) hx hb dX5_isGreen_5 (by decide) (fun hc => ?_) (fun hc => ?_)
  · rw [if_neg hc] at h
    refine lv_iconst (v := 0) hx hb dX5_isGreen_12 (by decide) ?_
    exact r_zret hx hb hr hlocks hK hw (by decide) h dX5_isGreen_13
  · rw [if_pos hc] at h
    refine lv_iconst (v := 1) hx hb dX5_isGreen_8 (by decide) ?_
    refine lv_goto (tgt := 13) hx hb dX5_isGreen_9 (by decide) ?_
    exact r_zret hx hb hr hlocks hK hw (by decide) h dX5_isGreen_13
/-! RingHeap$Thing.blackenUnlessGreen -/
theorem k_X5_blackenUnlessGreen_1 : Cond.fieldLink RX5 34 "RingHeap$Thing" "colour" "I" ∈ wsX5_blackenUnlessGreen := List.mem_of_getElem? (i := 1) (by rfl)
theorem n_X5_blackenUnlessGreen_X5 : ∀ w ∈ u_ws RX5 TX5 11, w ∈ wsX5_blackenUnlessGreen := fun _ h => List.mem_cons_of_mem _ (List.mem_append_right _ h)

def f_X5_blackenUnlessGreen (N : Nat) (a0 : Nat) (u : Mm) : Option (Mm) :=
  bd (f_X5_isGreen N a0 u) (fun x1 u => if x1 = 0 then (pt (sI u a0 5 0) (fun u => some u)) else (some u))
set_option maxHeartbeats 4000000 in
set_option maxRecDepth 100000 in
theorem c_X5_blackenUnlessGreen (l : Launch) (D : va_G) (cy : Nat → ClassId) (L : List Nat) (ad : Nat → Nat) (N : Nat) (a0 : Nat) (u : Mm) (o : Mm) (h_a0 : vn L 5 a0) (h : f_X5_blackenUnlessGreen N a0 u = some o) : MtV l yX5_blackenUnlessGreen wsX5_blackenUnlessGreen ({ frames := 1, cells := 0, slots := 0, locals := 20 } : Room) D cy L ad [.ref (ad a0)] u o := by
  intro sz
  refine Met.ofW (cc := cX5_blackenUnlessGreen) (maxL := 1) (ret := none) (by decide) rfl ?_
  intro p e s m args below meth c s₁ B hml hv
  obtain ⟨rfl, hsz, hP, hK, hD0, hok⟩ := hv
  have hx := B.exec
  have hb := B.bytes
  have hr := B.returns
  have hts := atoms_spec (ws := wsX5_blackenUnlessGreen) B.pre
  have hown : s.vm.findClass RX5 = some m.cls := findClass_of_methodNamed B.named
  have hlocks := B.notSynchronized
  subst hsz
  have hw := wd_start hP hD0 hok
  have hA : ∀ q : Nat, s.heap.size ≤ q → va_A (wl cy L ad u) s.heap.size q := fun q h => Or.inr h
  generalize va_A (wl cy L ad u) s.heap.size = A at hw hA ⊢
  have C0 : Cx p m meth c cX5_blackenUnlessGreen none 1 s _ wsX5_blackenUnlessGreen RX5 D cy := ⟨hx, hb, hr, hml, hown, hts, hlocks, hK⟩
  have hl := lv_entry ([.ref (ad a0)]) (n := 1) (Nat.le_of_ble_eq_true rfl)
  rw [lg_entry_eq]
  generalize (lg_sl ([.ref (ad a0)]) ++ List.replicate (1 - (lg_sl ([.ref (ad a0)])).length) Slot.unset).toArray = ls at hl ⊢
  have hl : lv_has ls 1 [(0, .ref (ad a0))] := hl
  unfold f_X5_blackenUnlessGreen at h
  refine lv_aload_n hx hb dX5_blackenUnlessGreen_0 rfl (lv_at hl 0 rfl) ?_
  refine r_bI (fun o ho => r_vI (As := []) (rest := []) ⟨hx, hb, hml, hown, hts⟩ (c_X5_isGreen l D cy L ad N a0 u o h_a0 ho) (cwV 0 hts gX5_blackenUnlessGreen_X5_isGreen rfl rfl rfl (by decide +kernel) ⟨Nat.le_of_ble_eq_true rfl, Nat.le_of_ble_eq_true rfl⟩) hw hK h_a0 (by decide) rfl rfl hl.1 rfl (Nat.le_of_ble_eq_true rfl) dX5_blackenUnlessGreen_1 ⟨Nat.zero_le _, Nat.zero_le _⟩) hw hA h (fun x1 u H locs hw h => ?_)
  refine lv_if_ne (tgt := 12) hx hb dX5_blackenUnlessGreen_4 (by decide) (fun hc => ?_) (fun hc => ?_)
  · rw [if_neg hc] at h
    exact r_vret hx hb hr hlocks hK hw h dX5_blackenUnlessGreen_12
  · rw [if_pos hc] at h
    refine lv_aload_n hx hb dX5_blackenUnlessGreen_7 rfl (lv_at hl 0 rfl) ?_
    refine lv_iconst (v := 0) hx hb dX5_blackenUnlessGreen_8 (by decide) ?_
    refine r_putI (ty := .int) hx hb hts n_X5_blackenUnlessGreen_X5 tyX5 tyX5_ok nmX5 hown hK hw h_a0 (by decide) rfl 5 (by decide) rfl (hts _ k_X5_blackenUnlessGreen_1) (fun _ q => q) rfl rfl rfl rfl dX5_blackenUnlessGreen_9 h (fun u H locs hw h => ?_)
    exact r_vret hx hb hr hlocks hK hw h dX5_blackenUnlessGreen_12
/-! RingHeap$Thing.giveUpNext -/
theorem k_X5_giveUpNext_1 : Cond.fieldLink RX5 48 "RingHeap$Thing" "nextField" "I" ∈ wsX5_giveUpNext := List.mem_of_getElem? (i := 1) (by rfl)
theorem n_X5_giveUpNext_X5 : ∀ w ∈ u_ws RX5 TX5 11, w ∈ wsX5_giveUpNext := fun _ h => List.mem_cons_of_mem _ (List.mem_append_right _ h)
theorem k_X5_giveUpNext_2 : Cond.fieldLink RX5 25 "RingHeap$Thing" "held" "[LRingHeap$Thing;" ∈ wsX5_giveUpNext := List.mem_of_getElem? (i := 2) (by rfl)
def g_X5_giveUpNext_2 (N : Nat) (a0 : Nat) (K2 : Option Nat → Mm → Option (Option Nat × Mm)) (r1 : Option Nat) (u : Mm) : Option (Option Nat × Mm) :=
  nl r1 (pt (u.1 a0 7) (fun x3 => if x3 < 0 then (some (none, u)) else (pt (u.1 a0 7) (fun x4 => if 6 ≤ x4 then (some (none, u)) else (pt (u.1 a0 7) (fun x7 => ck (bI x7 6) (pt (u.2 (a0 + 1) (ix x7)) (fun r8 => pt (u.1 a0 7) (fun x10 => ck (bI x10 6) (pt (sR u (a0 + 1) (ix x10) none) (fun u => pt (u.1 a0 7) (fun x11 => pt (sI u a0 7 (x11 + 1)) (fun u => K2 r8 u))))))))))))) (fun t1 => some ((some t1), u))
def f_X5_giveUpNext_2 (N : Nat) (a0 : Nat)  : Nat → Option Nat → Mm → Option (Option Nat × Mm)
  | 0 => fun _ _ => none
  | n + 1 => g_X5_giveUpNext_2 N a0  (f_X5_giveUpNext_2 N a0  n)
set_option maxHeartbeats 4000000 in
set_option maxRecDepth 100000 in
theorem jg_X5_giveUpNext_2 {p : Program} {l : Launch} {e : Env} {s : State} {m : MethodId} {args : Array Value} {below : List Frame} {meth : Method} {c : Code} {D : va_G} {cy : Nat → ClassId} {L : List Nat} {ad : Nat → Nat} {A : Nat → Prop} {o : Option Nat × Mm} (N : Nat) (a0 : Nat) (h_a0 : vn L 5 a0) (C0 : Cx p m meth c cX5_giveUpNext (some (.object "RingHeap$Thing")) 2 s args wsX5_giveUpNext RX5 D cy) (hA : ∀ q : Nat, s.heap.size ≤ q → A q)  (K2 : Option Nat → Mm → Option (Option Nat × Mm)) (hK2 : ∀ (r1 : Option Nat) (u : Mm) (H : Heap) (locs : List Loc) (ls : Array Slot), vn L 5 a0 → vr L 5 r1 → Wd D cy L ad A s.heap u H locs → lv_has ls 2 [(0, .ref (ad a0)), (1, va_re ad r1)] → K2 r1 u = some o → W p l e ({ frames := 0, cells := 0, slots := 0, locals := 0 } : Room) s m args below meth c H locs 0 0 (MQ below (QcQ D cy L ad A 5 o) args s 0 0 A) (F0 m 2 ls [])) : ∀ (r1 : Option Nat) (u : Mm) (H : Heap) (locs : List Loc) (ls : Array Slot), vn L 5 a0 → vr L 5 r1 → Wd D cy L ad A s.heap u H locs → lv_has ls 2 [(0, .ref (ad a0)), (1, va_re ad r1)] → g_X5_giveUpNext_2 N a0  K2 r1 u = some o → W p l e ({ frames := 0, cells := 0, slots := 0, locals := 0 } : Room) s m args below meth c H locs 0 0 (MQ below (QcQ D cy L ad A 5 o) args s 0 0 A) (F0 m 2 ls []) := by
  obtain ⟨hx, hb, hr, hml, hown, hts, hlocks, hK⟩ := id C0
  intro r1 u H locs ls hv_t0 hv_r1 hw hl h
  unfold g_X5_giveUpNext_2 at h
  refine r_aloadn hx hb dX5_giveUpNext_2 rfl (lv_at hl 1 rfl) ?_
  refine r_ifnonnull (tgt := 58) hx hb hv_r1 dX5_giveUpNext_3 (by decide) h (fun e2 h9 => ?_) (fun t1 e2 hv_t1 h9 => ?_)
  · clear h
    subst e2
    have h := h9
    have hl : lv_has ls 2 [(0, .ref (ad a0)), (1, va_re ad none)] := hl
    refine lv_aload_n hx hb dX5_giveUpNext_6 rfl (lv_at hl 0 rfl) ?_
    refine r_getI hx hb hts n_X5_giveUpNext_X5 hown hK hw hv_t0 (by decide) rfl 7 (by decide) rfl (hts _ k_X5_giveUpNext_1) (fun _ q => q) dX5_giveUpNext_7 h (fun x3 h => ?_)
    refine lv_if_lt (tgt := 58) hx hb dX5_giveUpNext_10 (by decide) (fun hc => ?_) (fun hc => ?_)
    · rw [if_pos hc] at h
      refine r_aloadn hx hb dX5_giveUpNext_58 rfl (lv_at hl 1 rfl) ?_
      exact r_qret (v := none) hx hb hr hlocks hK hw vr_none h dX5_giveUpNext_59
    · rw [if_neg hc] at h
      refine lv_aload_n hx hb dX5_giveUpNext_13 rfl (lv_at hl 0 rfl) ?_
      refine r_getI hx hb hts n_X5_giveUpNext_X5 hown hK hw hv_t0 (by decide) rfl 7 (by decide) rfl (hts _ k_X5_giveUpNext_1) (fun _ q => q) dX5_giveUpNext_14 h (fun x4 h => ?_)
      refine lv_aload_n hx hb dX5_giveUpNext_17 rfl (lv_at hl 0 rfl) ?_
      refine r_getC (t2 := 12) (d := (a0 + 1)) hx hb hts n_X5_giveUpNext_X5 hown hK hw hv_t0 (by decide) rfl 2 (by decide) rfl (cst5 hv_t0.2) (hts _ k_X5_giveUpNext_2) (fun _ q => q) dX5_giveUpNext_18 (fun hv5 => ?_)
      refine r_alen (n := 6) (v := 6) hx hb hK hw hv5 (by decide) (ln5s hv_t0.2) rfl dX5_giveUpNext_21 ?_
      refine lv_icmp_ge (tgt := 58) hx hb dX5_giveUpNext_22 (by decide) (fun hc => ?_) (fun hc => ?_)
      · rw [if_pos hc] at h
        refine r_aloadn hx hb dX5_giveUpNext_58 rfl (lv_at hl 1 rfl) ?_
        exact r_qret (v := none) hx hb hr hlocks hK hw vr_none h dX5_giveUpNext_59
      · rw [if_neg hc] at h
        refine lv_aload_n hx hb dX5_giveUpNext_25 rfl (lv_at hl 0 rfl) ?_
        refine r_getC (t2 := 12) (d := (a0 + 1)) hx hb hts n_X5_giveUpNext_X5 hown hK hw hv_t0 (by decide) rfl 2 (by decide) rfl (cst5 hv_t0.2) (hts _ k_X5_giveUpNext_2) (fun _ q => q) dX5_giveUpNext_26 (fun hv6 => ?_)
        refine lv_aload_n hx hb dX5_giveUpNext_29 rfl (lv_at hl 0 rfl) ?_
        refine r_getI hx hb hts n_X5_giveUpNext_X5 hown hK hw hv_t0 (by decide) rfl 7 (by decide) rfl (hts _ k_X5_giveUpNext_1) (fun _ q => q) dX5_giveUpNext_30 h (fun x7 h => ?_)
        refine r_tald (n := 6) hx hb hK hw hv6 (ln5s hv_t0.2) dX5_giveUpNext_33 h (fun r8 hv_r8 h => ?_)
        refine r_astoren (lv' := [(1, va_re ad r8), (0, .ref (ad a0))]) hx hb dX5_giveUpNext_34 rfl hl (by decide) rfl (fun ls hl => ?_)
        refine lv_aload_n hx hb dX5_giveUpNext_35 rfl (lv_at hl 1 rfl) ?_
        refine r_getC (t2 := 12) (d := (a0 + 1)) hx hb hts n_X5_giveUpNext_X5 hown hK hw hv_t0 (by decide) rfl 2 (by decide) rfl (cst5 hv_t0.2) (hts _ k_X5_giveUpNext_2) (fun _ q => q) dX5_giveUpNext_36 (fun hv9 => ?_)
        refine lv_aload_n hx hb dX5_giveUpNext_39 rfl (lv_at hl 1 rfl) ?_
        refine r_getI hx hb hts n_X5_giveUpNext_X5 hown hK hw hv_t0 (by decide) rfl 7 (by decide) rfl (hts _ k_X5_giveUpNext_1) (fun _ q => q) dX5_giveUpNext_40 h (fun x10 h => ?_)
        refine lv_null hx hb dX5_giveUpNext_43 ?_
        refine r_tast (n := 6) (v := none) hx hb hK hw hv9 (ln5s hv_t0.2) vr_none dX5_giveUpNext_44 h (fun u H locs hw h => ?_)
        refine lv_aload_n hx hb dX5_giveUpNext_45 rfl (lv_at hl 1 rfl) ?_
        refine lv_dup hx hb dX5_giveUpNext_46 rfl ?_
        refine r_getI hx hb hts n_X5_giveUpNext_X5 hown hK hw hv_t0 (by decide) rfl 7 (by decide) rfl (hts _ k_X5_giveUpNext_1) (fun _ q => q) dX5_giveUpNext_47 h (fun x11 h => ?_)
        refine lv_iconst (v := 1) hx hb dX5_giveUpNext_50 (by decide) ?_
        refine lv_iadd hx hb dX5_giveUpNext_51 ?_
        refine r_putI (ty := .int) hx hb hts n_X5_giveUpNext_X5 tyX5 tyX5_ok nmX5 hown hK hw hv_t0 (by decide) rfl 7 (by decide) rfl (hts _ k_X5_giveUpNext_1) (fun _ q => q) rfl rfl rfl rfl dX5_giveUpNext_52 h (fun u H locs hw h => ?_)
        refine lv_goto (tgt := 2) hx hb dX5_giveUpNext_55 (by decide) ?_
        exact hK2 r8 u _ _ _ hv_t0 hv_r8 hw (lv_sub hl [1, 0] rfl) h
  · clear h
    subst e2
    have h := h9
    have hl : lv_has ls 2 [(0, .ref (ad a0)), (1, .ref (ad t1))] := hl
    refine lv_aload_n hx hb dX5_giveUpNext_58 rfl (lv_at hl 1 rfl) ?_
    exact r_qret (v := (some t1)) hx hb hr hlocks hK hw (vr_some hv_t1) h dX5_giveUpNext_59
set_option maxHeartbeats 4000000 in
set_option maxRecDepth 100000 in
theorem j_X5_giveUpNext_2 {p : Program} {l : Launch} {e : Env} {s : State} {m : MethodId} {args : Array Value} {below : List Frame} {meth : Method} {c : Code} {D : va_G} {cy : Nat → ClassId} {L : List Nat} {ad : Nat → Nat} {A : Nat → Prop} {o : Option Nat × Mm} (N : Nat) (a0 : Nat) (h_a0 : vn L 5 a0) (C0 : Cx p m meth c cX5_giveUpNext (some (.object "RingHeap$Thing")) 2 s args wsX5_giveUpNext RX5 D cy) (hA : ∀ q : Nat, s.heap.size ≤ q → A q)  : ∀ (n : Nat), ∀ (r1 : Option Nat) (u : Mm) (H : Heap) (locs : List Loc) (ls : Array Slot), vn L 5 a0 → vr L 5 r1 → Wd D cy L ad A s.heap u H locs → lv_has ls 2 [(0, .ref (ad a0)), (1, va_re ad r1)] → f_X5_giveUpNext_2 N a0  n r1 u = some o → W p l e ({ frames := 0, cells := 0, slots := 0, locals := 0 } : Room) s m args below meth c H locs 0 0 (MQ below (QcQ D cy L ad A 5 o) args s 0 0 A) (F0 m 2 ls []) := by
  intro n
  induction n with
  | zero =>
    intro r1 u H locs ls hv_t0 hv_r1 hw hl h
    cases h
  | succ n ih => exact jg_X5_giveUpNext_2 N a0 h_a0 C0 hA  _ ih
def f_X5_giveUpNext (N : Nat) (a0 : Nat) (u : Mm) : Option (Option Nat × Mm) :=
  f_X5_giveUpNext_2 N a0 N none u
set_option maxHeartbeats 4000000 in
set_option maxRecDepth 100000 in
theorem c_X5_giveUpNext (l : Launch) (D : va_G) (cy : Nat → ClassId) (L : List Nat) (ad : Nat → Nat) (N : Nat) (a0 : Nat) (u : Mm) (o : Option Nat × Mm) (h_a0 : vn L 5 a0) (h : f_X5_giveUpNext N a0 u = some o) : MtQ l yX5_giveUpNext wsX5_giveUpNext ({ frames := 0, cells := 0, slots := 0, locals := 0 } : Room) D cy L ad 5 [.ref (ad a0)] u o := by
  intro sz
  refine Met.ofW (cc := cX5_giveUpNext) (maxL := 2) (ret := (some (.object "RingHeap$Thing"))) (by decide) rfl ?_
  intro p e s m args below meth c s₁ B hml hv
  obtain ⟨rfl, hsz, hP, hK, hD0, hok⟩ := hv
  have hx := B.exec
  have hb := B.bytes
  have hr := B.returns
  have hts := atoms_spec (ws := wsX5_giveUpNext) B.pre
  have hown : s.vm.findClass RX5 = some m.cls := findClass_of_methodNamed B.named
  have hlocks := B.notSynchronized
  subst hsz
  have hw := wd_start hP hD0 hok
  have hA : ∀ q : Nat, s.heap.size ≤ q → va_A (wl cy L ad u) s.heap.size q := fun q h => Or.inr h
  generalize va_A (wl cy L ad u) s.heap.size = A at hw hA ⊢
  have C0 : Cx p m meth c cX5_giveUpNext (some (.object "RingHeap$Thing")) 2 s _ wsX5_giveUpNext RX5 D cy := ⟨hx, hb, hr, hml, hown, hts, hlocks, hK⟩
  have hl := lv_entry ([.ref (ad a0)]) (n := 2) (Nat.le_of_ble_eq_true rfl)
  rw [lg_entry_eq]
  generalize (lg_sl ([.ref (ad a0)]) ++ List.replicate (2 - (lg_sl ([.ref (ad a0)])).length) Slot.unset).toArray = ls at hl ⊢
  have hl : lv_has ls 2 [(0, .ref (ad a0))] := hl
  unfold f_X5_giveUpNext at h
  refine lv_null hx hb dX5_giveUpNext_0 ?_
  refine r_astoren (lv' := [(1, va_re ad none), (0, .ref (ad a0))]) hx hb dX5_giveUpNext_1 rfl hl (by decide) rfl (fun ls hl => ?_)
  exact j_X5_giveUpNext_2 N a0 h_a0 C0 hA N none u _ _ _ h_a0 vr_none hw (lv_sub hl [1, 0] rfl) h
/-! RingHeap$Thing.tell -/
theorem k_X5_tell_1 : Cond.fieldLink RX5 21 "RingHeap$Thing" "kind" "LRingHeap$Kind;" ∈ wsX5_tell := List.mem_of_getElem? (i := 1) (by rfl)
theorem n_X5_tell_X5 : ∀ w ∈ u_ws RX5 TX5 11, w ∈ wsX5_tell := fun _ h => List.mem_cons_of_mem _ (List.mem_append_left _ (List.mem_append_right _ h))
theorem k_X5_tell_2 : Cond.fieldLink RX5 51 "RingHeap$Kind" "number" "I" ∈ wsX5_tell := List.mem_of_getElem? (i := 2) (by rfl)
theorem n_X5_tell_X2 : ∀ w ∈ u_ws RX2 TX2 4, w ∈ wsX5_tell := fun _ h => List.mem_cons_of_mem _ (List.mem_append_right _ h)
theorem k_X5_tell_3 : Cond.fieldLink RX5 9 "RingHeap$Thing" "count" "I" ∈ wsX5_tell := List.mem_of_getElem? (i := 3) (by rfl)
theorem k_X5_tell_4 : Cond.fieldLink RX5 34 "RingHeap$Thing" "colour" "I" ∈ wsX5_tell := List.mem_of_getElem? (i := 4) (by rfl)
theorem k_X5_tell_5 : Cond.fieldLink RX5 52 "RingHeap$Thing" "address" "I" ∈ wsX5_tell := List.mem_of_getElem? (i := 5) (by rfl)
theorem k_X5_tell_6 : Cond.fieldLink RX5 55 "RingHeap$Thing" "inList" "Z" ∈ wsX5_tell := List.mem_of_getElem? (i := 6) (by rfl)
theorem k_X5_tell_7 : Cond.fieldLink RX5 41 "RingHeap$Thing" "wishUntold" "Z" ∈ wsX5_tell := List.mem_of_getElem? (i := 7) (by rfl)
theorem k_X5_tell_8 : Cond.fieldLink RX5 15 "RingHeap$Thing" "hands" "I" ∈ wsX5_tell := List.mem_of_getElem? (i := 8) (by rfl)
theorem k_X5_tell_9 : Cond.fieldLink RX5 58 "RingHeap$Thing" "husk" "Z" ∈ wsX5_tell := List.mem_of_getElem? (i := 9) (by rfl)

def f_X5_tell (N : Nat) (a0 : Nat) (p0 : Int32) (u : Mm) : Option (Int32 × Mm) :=
  if p0 = 0 then (pt (u.2 a0 1) (fun r1 => nl r1 none (fun t2 => pt (u.1 t2 0) (fun x4 => some (x4, u))))) else (if p0 = 1 then (pt (u.1 a0 3) (fun x6 => some (x6, u))) else (if p0 = 2 then (pt (u.1 a0 5) (fun x8 => some (x8, u))) else (if p0 = 3 then (pt (u.1 a0 6) (fun x10 => some (x10, u))) else (if p0 = 4 then (pt (u.1 a0 8) (fun x12 => if x12 = 0 then (some (0, u)) else (some (1, u)))) else (if p0 = 5 then (pt (u.1 a0 9) (fun x14 => if x14 = 0 then (some (0, u)) else (some (1, u)))) else (if p0 = 6 then (pt (u.1 a0 4) (fun x16 => some (x16, u))) else (pt (u.1 a0 10) (fun x18 => if x18 = 0 then (some (0, u)) else (some (1, u))))))))))
set_option maxHeartbeats 4000000 in
set_option maxRecDepth 100000 in
theorem c_X5_tell (l : Launch) (D : va_G) (cy : Nat → ClassId) (L : List Nat) (ad : Nat → Nat) (N : Nat) (a0 : Nat) (p0 : Int32) (u : Mm) (o : Int32 × Mm) (h_a0 : vn L 5 a0) (h : f_X5_tell N a0 p0 u = some o) : MtI l yX5_tell wsX5_tell ({ frames := 0, cells := 0, slots := 0, locals := 0 } : Room) D cy L ad [.ref (ad a0), .int p0] u o := by
  intro sz
  refine Met.ofW (cc := cX5_tell) (maxL := 2) (ret := (some .int)) (by decide) rfl ?_
  intro p e s m args below meth c s₁ B hml hv
  obtain ⟨rfl, hsz, hP, hK, hD0, hok⟩ := hv
  have hx := B.exec
  have hb := B.bytes
  have hr := B.returns
  have hts := atoms_spec (ws := wsX5_tell) B.pre
  have hown : s.vm.findClass RX5 = some m.cls := findClass_of_methodNamed B.named
  have hlocks := B.notSynchronized
  subst hsz
  have hw := wd_start hP hD0 hok
  have hA : ∀ q : Nat, s.heap.size ≤ q → va_A (wl cy L ad u) s.heap.size q := fun q h => Or.inr h
  generalize va_A (wl cy L ad u) s.heap.size = A at hw hA ⊢
  have C0 : Cx p m meth c cX5_tell (some .int) 2 s _ wsX5_tell RX5 D cy := ⟨hx, hb, hr, hml, hown, hts, hlocks, hK⟩
  have hl := lv_entry ([.ref (ad a0), .int p0]) (n := 2) (Nat.le_of_ble_eq_true rfl)
  rw [lg_entry_eq]
  generalize (lg_sl ([.ref (ad a0), .int p0]) ++ List.replicate (2 - (lg_sl ([.ref (ad a0), .int p0])).length) Slot.unset).toArray = ls at hl ⊢
  have hl : lv_has ls 2 [(0, .ref (ad a0)), (1, .int p0)] := hl
  unfold f_X5_tell at h
  refine lv_iload_n hx hb dX5_tell_0 rfl (lv_at hl 1 rfl) ?_
  by_cases hq5 : p0 = 0
  · rw [if_pos hq5] at h
    refine r_tin (tgt := 44) (k := 0) hx hb dX5_tell_1 hq5 (by decide) (by decide) (by decide) (by decide) ?_
    refine lv_aload_n hx hb dX5_tell_44 rfl (lv_at hl 0 rfl) ?_
    refine r_getR (t2 := 2) hx hb hts n_X5_tell_X5 hown hK hw h_a0 (by decide) rfl 1 (by decide) rfl (hts _ k_X5_tell_1) (fun _ q => q) dX5_tell_45 h (fun r1 hv_r1 h => ?_)
    refine r_nn hv_r1 h (fun t2 e3 hv_t2 h9 => ?_)
    clear h
    subst e3
    have h := h9
    have hl : lv_has ls 2 [(0, .ref (ad a0)), (1, .int p0)] := hl
    refine r_getI hx hb hts n_X5_tell_X2 hown hK hw hv_t2 (by decide) rfl 0 (by decide) rfl (hts _ k_X5_tell_2) (fun _ q => q) dX5_tell_48 h (fun x4 h => ?_)
    exact r_iret hx hb hr hlocks hK hw h dX5_tell_51
  · rw [if_neg hq5] at h
    by_cases hq7 : p0 = 1
    · rw [if_pos hq7] at h
      refine r_tin (tgt := 52) (k := 1) hx hb dX5_tell_1 hq7 (by decide) (by decide) (by decide) (by decide) ?_
      refine lv_aload_n hx hb dX5_tell_52 rfl (lv_at hl 0 rfl) ?_
      refine r_getI hx hb hts n_X5_tell_X5 hown hK hw h_a0 (by decide) rfl 3 (by decide) rfl (hts _ k_X5_tell_3) (fun _ q => q) dX5_tell_53 h (fun x6 h => ?_)
      exact r_iret hx hb hr hlocks hK hw h dX5_tell_56
    · rw [if_neg hq7] at h
      by_cases hq9 : p0 = 2
      · rw [if_pos hq9] at h
        refine r_tin (tgt := 57) (k := 2) hx hb dX5_tell_1 hq9 (by decide) (by decide) (by decide) (by decide) ?_
        refine lv_aload_n hx hb dX5_tell_57 rfl (lv_at hl 0 rfl) ?_
        refine r_getI hx hb hts n_X5_tell_X5 hown hK hw h_a0 (by decide) rfl 5 (by decide) rfl (hts _ k_X5_tell_4) (fun _ q => q) dX5_tell_58 h (fun x8 h => ?_)
        exact r_iret hx hb hr hlocks hK hw h dX5_tell_61
      · rw [if_neg hq9] at h
        by_cases hq11 : p0 = 3
        · rw [if_pos hq11] at h
          refine r_tin (tgt := 62) (k := 3) hx hb dX5_tell_1 hq11 (by decide) (by decide) (by decide) (by decide) ?_
          refine lv_aload_n hx hb dX5_tell_62 rfl (lv_at hl 0 rfl) ?_
          refine r_getI hx hb hts n_X5_tell_X5 hown hK hw h_a0 (by decide) rfl 6 (by decide) rfl (hts _ k_X5_tell_5) (fun _ q => q) dX5_tell_63 h (fun x10 h => ?_)
          exact r_iret hx hb hr hlocks hK hw h dX5_tell_66
        · rw [if_neg hq11] at h
          by_cases hq13 : p0 = 4
          · rw [if_pos hq13] at h
            refine r_tin (tgt := 67) (k := 4) hx hb dX5_tell_1 hq13 (by decide) (by decide) (by decide) (by decide) ?_
            refine lv_aload_n hx hb dX5_tell_67 rfl (lv_at hl 0 rfl) ?_
            refine r_getI hx hb hts n_X5_tell_X5 hown hK hw h_a0 (by decide) rfl 8 (by decide) rfl (hts _ k_X5_tell_6) (fun _ q => q) dX5_tell_68 h (fun x12 h => ?_)
            refine lv_if_eq (tgt := 78) hx hb dX5_tell_71 (by decide) (fun hc => ?_) (fun hc => ?_)
            · rw [if_pos hc] at h
              refine lv_iconst (v := 0) hx hb dX5_tell_78 (by decide) ?_
              exact r_iret hx hb hr hlocks hK hw h dX5_tell_79
            · rw [if_neg hc] at h
              refine lv_iconst (v := 1) hx hb dX5_tell_74 (by decide) ?_
              refine lv_goto (tgt := 79) hx hb dX5_tell_75 (by decide) ?_
              exact r_iret hx hb hr hlocks hK hw h dX5_tell_79
          · rw [if_neg hq13] at h
            by_cases hq15 : p0 = 5
            · rw [if_pos hq15] at h
              refine r_tin (tgt := 80) (k := 5) hx hb dX5_tell_1 hq15 (by decide) (by decide) (by decide) (by decide) ?_
              refine lv_aload_n hx hb dX5_tell_80 rfl (lv_at hl 0 rfl) ?_
              refine r_getI hx hb hts n_X5_tell_X5 hown hK hw h_a0 (by decide) rfl 9 (by decide) rfl (hts _ k_X5_tell_7) (fun _ q => q) dX5_tell_81 h (fun x14 h => ?_)
              refine lv_if_eq (tgt := 91) hx hb dX5_tell_84 (by decide) (fun hc => ?_) (fun hc => ?_)
              · rw [if_pos hc] at h
                refine lv_iconst (v := 0) hx hb dX5_tell_91 (by decide) ?_
                exact r_iret hx hb hr hlocks hK hw h dX5_tell_92
              · rw [if_neg hc] at h
                refine lv_iconst (v := 1) hx hb dX5_tell_87 (by decide) ?_
                refine lv_goto (tgt := 92) hx hb dX5_tell_88 (by decide) ?_
                exact r_iret hx hb hr hlocks hK hw h dX5_tell_92
            · rw [if_neg hq15] at h
              by_cases hq17 : p0 = 6
              · rw [if_pos hq17] at h
                refine r_tin (tgt := 93) (k := 6) hx hb dX5_tell_1 hq17 (by decide) (by decide) (by decide) (by decide) ?_
                refine lv_aload_n hx hb dX5_tell_93 rfl (lv_at hl 0 rfl) ?_
                refine r_getI hx hb hts n_X5_tell_X5 hown hK hw h_a0 (by decide) rfl 4 (by decide) rfl (hts _ k_X5_tell_8) (fun _ q => q) dX5_tell_94 h (fun x16 h => ?_)
                exact r_iret hx hb hr hlocks hK hw h dX5_tell_97
              · rw [if_neg hq17] at h
                refine lv_tableOut (tgt := 98) hx hb dX5_tell_1 (by have := i32_ne hq5; have := i32_ne hq7; have := i32_ne hq9; have := i32_ne hq11; have := i32_ne hq13; have := i32_ne hq15; have := i32_ne hq17; simp only [i32_0, i32_1, i32_2, i32_3, i32_4, i32_5, i32_6] at *; omega) (by decide) ?_
                refine lv_aload_n hx hb dX5_tell_98 rfl (lv_at hl 0 rfl) ?_
                refine r_getI hx hb hts n_X5_tell_X5 hown hK hw h_a0 (by decide) rfl 10 (by decide) rfl (hts _ k_X5_tell_9) (fun _ q => q) dX5_tell_99 h (fun x18 h => ?_)
                refine lv_if_eq (tgt := 109) hx hb dX5_tell_102 (by decide) (fun hc => ?_) (fun hc => ?_)
                · rw [if_pos hc] at h
                  refine lv_iconst (v := 0) hx hb dX5_tell_109 (by decide) ?_
                  exact r_iret hx hb hr hlocks hK hw h dX5_tell_110
                · rw [if_neg hc] at h
                  refine lv_iconst (v := 1) hx hb dX5_tell_105 (by decide) ?_
                  refine lv_goto (tgt := 110) hx hb dX5_tell_106 (by decide) ?_
                  exact r_iret hx hb hr hlocks hK hw h dX5_tell_110
end
section
/-! RingHeap$Words.owner -/
theorem k_X6_owner_1 : Cond.fieldLink RX6 11 "RingHeap$Words" "owners" "[LRingHeap$Thing;" ∈ wsX6_owner := List.mem_of_getElem? (i := 1) (by rfl)
theorem n_X6_owner_X6 : ∀ w ∈ u_ws RX6 TX6 2, w ∈ wsX6_owner := fun _ h => List.mem_cons_of_mem _ (List.mem_append_right _ h)

def f_X6_owner (N : Nat) (p0 : Int32) (u : Mm) : Option (Option Nat × Mm) :=
  if p0 < 0 then (some (none, u)) else (if 400 ≤ p0 then (some (none, u)) else (ck (bI p0 400) (pt (u.2 47 (ix p0)) (fun r2 => some (r2, u)))))
set_option maxHeartbeats 4000000 in
set_option maxRecDepth 100000 in
theorem c_X6_owner (l : Launch) (D : va_G) (cy : Nat → ClassId) (L : List Nat) (ad : Nat → Nat) (N : Nat) (p0 : Int32) (u : Mm) (o : Option Nat × Mm) (h_this : vn L 6 46) (h : f_X6_owner N p0 u = some o) : MtQ l yX6_owner wsX6_owner ({ frames := 0, cells := 0, slots := 0, locals := 0 } : Room) D cy L ad 5 [.ref (ad 46), .int p0] u o := by
  intro sz
  refine Met.ofW (cc := cX6_owner) (maxL := 2) (ret := (some (.object "RingHeap$Thing"))) (by decide) rfl ?_
  intro p e s m args below meth c s₁ B hml hv
  obtain ⟨rfl, hsz, hP, hK, hD0, hok⟩ := hv
  have hx := B.exec
  have hb := B.bytes
  have hr := B.returns
  have hts := atoms_spec (ws := wsX6_owner) B.pre
  have hown : s.vm.findClass RX6 = some m.cls := findClass_of_methodNamed B.named
  have hlocks := B.notSynchronized
  subst hsz
  have hw := wd_start hP hD0 hok
  have hA : ∀ q : Nat, s.heap.size ≤ q → va_A (wl cy L ad u) s.heap.size q := fun q h => Or.inr h
  generalize va_A (wl cy L ad u) s.heap.size = A at hw hA ⊢
  have C0 : Cx p m meth c cX6_owner (some (.object "RingHeap$Thing")) 2 s _ wsX6_owner RX6 D cy := ⟨hx, hb, hr, hml, hown, hts, hlocks, hK⟩
  have hl := lv_entry ([.ref (ad 46), .int p0]) (n := 2) (Nat.le_of_ble_eq_true rfl)
  rw [lg_entry_eq]
  generalize (lg_sl ([.ref (ad 46), .int p0]) ++ List.replicate (2 - (lg_sl ([.ref (ad 46), .int p0])).length) Slot.unset).toArray = ls at hl ⊢
  have hl : lv_has ls 2 [(0, .ref (ad 46)), (1, .int p0)] := hl
  unfold f_X6_owner at h
  refine lv_iload_n hx hb dX6_owner_0 rfl (lv_at hl 1 rfl) ?_
  refine lv_if_lt (tgt := 20) hx hb dX6_owner_1 (by decide) (fun hc => ?_) (fun hc => ?_)
  · rw [if_pos hc] at h
    refine lv_null hx hb dX6_owner_20 ?_
    exact r_qret (v := none) hx hb hr hlocks hK hw vr_none h dX6_owner_21
  · rw [if_neg hc] at h
    refine lv_iload_n hx hb dX6_owner_4 rfl (lv_at hl 1 rfl) ?_
    refine lv_sipush (v := 400) hx hb dX6_owner_5 (by decide) ?_
    refine lv_icmp_ge (tgt := 20) hx hb dX6_owner_8 (by decide) (fun hc => ?_) (fun hc => ?_)
    · rw [if_pos hc] at h
      refine lv_null hx hb dX6_owner_20 ?_
      exact r_qret (v := none) hx hb hr hlocks hK hw vr_none h dX6_owner_21
    · rw [if_neg hc] at h
      refine lv_aload_n hx hb dX6_owner_11 rfl (lv_at hl 0 rfl) ?_
      refine r_getC (t2 := 12) (d := 47) hx hb hts n_X6_owner_X6 hown hK hw h_this (by decide) rfl 0 (by decide) rfl rfl (hts _ k_X6_owner_1) (fun _ q => q) dX6_owner_12 (fun hv1 => ?_)
      refine lv_iload_n hx hb dX6_owner_15 rfl (lv_at hl 1 rfl) ?_
      refine r_tald (n := 400) hx hb hK hw hv1 rfl dX6_owner_16 h (fun r2 hv_r2 h => ?_)
      refine lv_goto (tgt := 21) hx hb dX6_owner_17 (by decide) ?_
      exact r_qret (v := r2) hx hb hr hlocks hK hw hv_r2 h dX6_owner_21
/-! RingHeap$Words.ownerFrom -/
theorem k_X6_ownerFrom_1 : Cond.fieldLink RX6 25 "RingHeap$Thing" "address" "I" ∈ wsX6_ownerFrom := List.mem_of_getElem? (i := 1) (by rfl)
theorem n_X6_ownerFrom_X5 : ∀ w ∈ u_ws RX5 TX5 11, w ∈ wsX6_ownerFrom := fun _ h => List.mem_cons_of_mem _ (List.mem_append_left _ (List.mem_append_right _ h))

def f_X6_ownerFrom (N : Nat) (p0 : Int32) (u : Mm) : Option (Option Nat × Mm) :=
  bd (f_X6_owner N p0 u) (fun r1 u => nl r1 (some (none, u)) (fun t2 => pt (u.1 t2 6) (fun x4 => if x4 = p0 then (some ((some t2), u)) else (some (none, u)))))
set_option maxHeartbeats 4000000 in
set_option maxRecDepth 100000 in
theorem c_X6_ownerFrom (l : Launch) (D : va_G) (cy : Nat → ClassId) (L : List Nat) (ad : Nat → Nat) (N : Nat) (p0 : Int32) (u : Mm) (o : Option Nat × Mm) (h_this : vn L 6 46) (h : f_X6_ownerFrom N p0 u = some o) : MtQ l yX6_ownerFrom wsX6_ownerFrom ({ frames := 1, cells := 0, slots := 0, locals := 21 } : Room) D cy L ad 5 [.ref (ad 46), .int p0] u o := by
  intro sz
  refine Met.ofW (cc := cX6_ownerFrom) (maxL := 3) (ret := (some (.object "RingHeap$Thing"))) (by decide) rfl ?_
  intro p e s m args below meth c s₁ B hml hv
  obtain ⟨rfl, hsz, hP, hK, hD0, hok⟩ := hv
  have hx := B.exec
  have hb := B.bytes
  have hr := B.returns
  have hts := atoms_spec (ws := wsX6_ownerFrom) B.pre
  have hown : s.vm.findClass RX6 = some m.cls := findClass_of_methodNamed B.named
  have hlocks := B.notSynchronized
  subst hsz
  have hw := wd_start hP hD0 hok
  have hA : ∀ q : Nat, s.heap.size ≤ q → va_A (wl cy L ad u) s.heap.size q := fun q h => Or.inr h
  generalize va_A (wl cy L ad u) s.heap.size = A at hw hA ⊢
  have C0 : Cx p m meth c cX6_ownerFrom (some (.object "RingHeap$Thing")) 3 s _ wsX6_ownerFrom RX6 D cy := ⟨hx, hb, hr, hml, hown, hts, hlocks, hK⟩
  have hl := lv_entry ([.ref (ad 46), .int p0]) (n := 3) (Nat.le_of_ble_eq_true rfl)
  rw [lg_entry_eq]
  generalize (lg_sl ([.ref (ad 46), .int p0]) ++ List.replicate (3 - (lg_sl ([.ref (ad 46), .int p0])).length) Slot.unset).toArray = ls at hl ⊢
  have hl : lv_has ls 3 [(0, .ref (ad 46)), (1, .int p0)] := hl
  unfold f_X6_ownerFrom at h
  refine lv_aload_n hx hb dX6_ownerFrom_0 rfl (lv_at hl 0 rfl) ?_
  refine lv_iload_n hx hb dX6_ownerFrom_1 rfl (lv_at hl 1 rfl) ?_
  refine r_bQ (fun o ho => r_vQ (As := [.int p0]) (rest := []) ⟨hx, hb, hml, hown, hts⟩ (c_X6_owner l D cy L ad N p0 u o h_this ho) (cwV 1 hts gX6_ownerFrom_X6_owner rfl rfl rfl (by decide +kernel) ⟨Nat.le_of_ble_eq_true rfl, Nat.le_of_ble_eq_true rfl⟩) hw hK h_this (by decide) rfl rfl hl.1 rfl (Nat.le_of_ble_eq_true rfl) dX6_ownerFrom_2 ⟨Nat.zero_le _, Nat.zero_le _⟩) hw hA h (fun r1 u H locs hw hv_r1 h => ?_)
  refine r_astoren (lv' := [(2, va_re ad r1), (0, .ref (ad 46)), (1, .int p0)]) hx hb dX6_ownerFrom_5 rfl hl (by decide) rfl (fun ls hl => ?_)
  refine r_aloadn hx hb dX6_ownerFrom_6 rfl (lv_at hl 0 rfl) ?_
  refine r_ifnull (tgt := 22) hx hb hv_r1 dX6_ownerFrom_7 (by decide) h (fun e3 h9 => ?_) (fun t2 e3 hv_t2 h9 => ?_)
  · clear h
    subst e3
    have h := h9
    have hl : lv_has ls 3 [(2, va_re ad none), (0, .ref (ad 46)), (1, .int p0)] := hl
    refine lv_null hx hb dX6_ownerFrom_22 ?_
    exact r_qret (v := none) hx hb hr hlocks hK hw vr_none h dX6_ownerFrom_23
  · clear h
    subst e3
    have h := h9
    have hl : lv_has ls 3 [(2, .ref (ad t2)), (0, .ref (ad 46)), (1, .int p0)] := hl
    refine lv_aload_n hx hb dX6_ownerFrom_10 rfl (lv_at hl 0 rfl) ?_
    refine r_getI hx hb hts n_X6_ownerFrom_X5 hown hK hw hv_t2 (by decide) rfl 6 (by decide) rfl (hts _ k_X6_ownerFrom_1) (fun _ q => q) dX6_ownerFrom_11 h (fun x4 h => ?_)
    refine lv_iload_n hx hb dX6_ownerFrom_14 rfl (lv_at hl 2 rfl) ?_
    refine lv_icmp_ne (tgt := 22) hx hb dX6_ownerFrom_15 (by decide) (fun hc => ?_) (fun hc => ?_)
    · rw [if_neg hc] at h
      refine lv_null hx hb dX6_ownerFrom_22 ?_
      exact r_qret (v := none) hx hb hr hlocks hK hw vr_none h dX6_ownerFrom_23
    · rw [if_pos hc] at h
      refine lv_aload_n hx hb dX6_ownerFrom_18 rfl (lv_at hl 0 rfl) ?_
      refine lv_goto (tgt := 23) hx hb dX6_ownerFrom_19 (by decide) ?_
      exact r_qret (v := (some t2)) hx hb hr hlocks hK hw (vr_some hv_t2) h dX6_ownerFrom_23
/-! RingHeap$Words.gapFor -/
theorem k_X6_gapFor_1 : Cond.fieldLink RX6 11 "RingHeap$Words" "owners" "[LRingHeap$Thing;" ∈ wsX6_gapFor := List.mem_of_getElem? (i := 1) (by rfl)
theorem n_X6_gapFor_X6 : ∀ w ∈ u_ws RX6 TX6 2, w ∈ wsX6_gapFor := fun _ h => List.mem_cons_of_mem _ (List.mem_append_right _ h)
def f_X6_gapFor_27 (N : Nat)  (K4 : Int32 → Int32 → Int32 → Mm → Option (Int32 × Mm)) (v1 : Int32) (v3 : Int32) (w0 : Int32) (u : Mm) : Option (Int32 × Mm) :=
  if w0 < v1 then (K4 v1 w0 (v3 + 1) u) else (some ((v3 + 1) - v1, u))
set_option maxHeartbeats 4000000 in
set_option maxRecDepth 100000 in
theorem j_X6_gapFor_27 {p : Program} {l : Launch} {e : Env} {s : State} {m : MethodId} {args : Array Value} {below : List Frame} {meth : Method} {c : Code} {D : va_G} {cy : Nat → ClassId} {L : List Nat} {ad : Nat → Nat} {A : Nat → Prop} {o : Int32 × Mm} (N : Nat)   (C0 : Cx p m meth c cX6_gapFor (some .int) 4 s args wsX6_gapFor RX6 D cy) (hA : ∀ q : Nat, s.heap.size ≤ q → A q) (K4 : Int32 → Int32 → Int32 → Mm → Option (Int32 × Mm)) (hK4 : ∀ (v1 : Int32) (v2 : Int32) (v3 : Int32) (u : Mm) (H : Heap) (locs : List Loc) (ls : Array Slot), vn L 6 46 → Wd D cy L ad A s.heap u H locs → lv_has ls 4 [(0, .ref (ad 46)), (1, .int v1), (2, .int v2), (3, .int v3)] → K4 v1 v2 v3 u = some o → W p l e ({ frames := 0, cells := 0, slots := 0, locals := 0 } : Room) s m args below meth c H locs 0 0 (MQ below (QcI D cy L ad A o) args s 0 0 A) (F0 m 4 ls [])) : ∀ (v1 : Int32) (v3 : Int32) (w0 : Int32) (u : Mm) (H : Heap) (locs : List Loc) (ls : Array Slot), vn L 6 46 → Wd D cy L ad A s.heap u H locs → lv_has ls 4 [(0, .ref (ad 46)), (1, .int v1), (3, .int v3)] → f_X6_gapFor_27 N  K4 v1 v3 w0 u = some o → W p l e ({ frames := 0, cells := 0, slots := 0, locals := 0 } : Room) s m args below meth c H locs 0 0 (MQ below (QcI D cy L ad A o) args s 0 0 A) (F0 m 27 ls [.int w0]) := by
  obtain ⟨hx, hb, hr, hml, hown, hts, hlocks, hK⟩ := id C0
  intro v1 v3 w0 u H locs ls hv_t0 hw hl h
  unfold f_X6_gapFor_27 at h
  refine lv_istore_n (lv' := [(2, .int w0), (0, .ref (ad 46)), (1, .int v1), (3, .int v3)]) hx hb dX6_gapFor_27 rfl hl (by decide) rfl (fun ls hl => ?_)
  refine lv_iload_n hx hb dX6_gapFor_28 rfl (lv_at hl 0 rfl) ?_
  refine lv_iload_n hx hb dX6_gapFor_29 rfl (lv_at hl 2 rfl) ?_
  refine lv_icmp_lt (tgt := 39) hx hb dX6_gapFor_30 (by decide) (fun hc => ?_) (fun hc => ?_)
  · rw [if_pos hc] at h
    refine lv_iinc (v := v3 + 1) (lv' := [(3, .int (v3 + 1)), (2, .int w0), (0, .ref (ad 46)), (1, .int v1)]) hx hb dX6_gapFor_39 hl (k := 3) rfl rfl (by decide) rfl (fun ls hl => ?_)
    refine lv_goto (tgt := 4) hx hb dX6_gapFor_42 (by decide) ?_
    exact hK4 v1 w0 (v3 + 1) u _ _ _ hv_t0 hw (lv_sub hl [2, 3, 1, 0] rfl) h
  · rw [if_neg hc] at h
    refine lv_iload_n hx hb dX6_gapFor_33 rfl (lv_at hl 3 rfl) ?_
    refine lv_iconst (v := 1) hx hb dX6_gapFor_34 (by decide) ?_
    refine lv_iadd hx hb dX6_gapFor_35 ?_
    refine lv_iload_n hx hb dX6_gapFor_36 rfl (lv_at hl 2 rfl) ?_
    refine lv_isub hx hb dX6_gapFor_37 ?_
    exact r_iret hx hb hr hlocks hK hw h dX6_gapFor_38
def g_X6_gapFor_4 (N : Nat)  (K4 : Int32 → Int32 → Int32 → Mm → Option (Int32 × Mm)) (v1 : Int32) (v2 : Int32) (v3 : Int32) (u : Mm) : Option (Int32 × Mm) :=
  if 400 ≤ v3 then (some ((-1), u)) else (ck (bI v3 400) (pt (u.2 47 (ix v3)) (fun r2 => nl r2 (f_X6_gapFor_27 N K4 v1 v3 (v2 + 1) u) (fun t3 => f_X6_gapFor_27 N K4 v1 v3 0 u))))
def f_X6_gapFor_4 (N : Nat)   : Nat → Int32 → Int32 → Int32 → Mm → Option (Int32 × Mm)
  | 0 => fun _ _ _ _ => none
  | n + 1 => g_X6_gapFor_4 N   (f_X6_gapFor_4 N   n)
set_option maxHeartbeats 4000000 in
set_option maxRecDepth 100000 in
theorem jg_X6_gapFor_4 {p : Program} {l : Launch} {e : Env} {s : State} {m : MethodId} {args : Array Value} {below : List Frame} {meth : Method} {c : Code} {D : va_G} {cy : Nat → ClassId} {L : List Nat} {ad : Nat → Nat} {A : Nat → Prop} {o : Int32 × Mm} (N : Nat)   (C0 : Cx p m meth c cX6_gapFor (some .int) 4 s args wsX6_gapFor RX6 D cy) (hA : ∀ q : Nat, s.heap.size ≤ q → A q)  (K4 : Int32 → Int32 → Int32 → Mm → Option (Int32 × Mm)) (hK4 : ∀ (v1 : Int32) (v2 : Int32) (v3 : Int32) (u : Mm) (H : Heap) (locs : List Loc) (ls : Array Slot), vn L 6 46 → Wd D cy L ad A s.heap u H locs → lv_has ls 4 [(0, .ref (ad 46)), (1, .int v1), (2, .int v2), (3, .int v3)] → K4 v1 v2 v3 u = some o → W p l e ({ frames := 0, cells := 0, slots := 0, locals := 0 } : Room) s m args below meth c H locs 0 0 (MQ below (QcI D cy L ad A o) args s 0 0 A) (F0 m 4 ls [])) : ∀ (v1 : Int32) (v2 : Int32) (v3 : Int32) (u : Mm) (H : Heap) (locs : List Loc) (ls : Array Slot), vn L 6 46 → Wd D cy L ad A s.heap u H locs → lv_has ls 4 [(0, .ref (ad 46)), (1, .int v1), (2, .int v2), (3, .int v3)] → g_X6_gapFor_4 N   K4 v1 v2 v3 u = some o → W p l e ({ frames := 0, cells := 0, slots := 0, locals := 0 } : Room) s m args below meth c H locs 0 0 (MQ below (QcI D cy L ad A o) args s 0 0 A) (F0 m 4 ls []) := by
  obtain ⟨hx, hb, hr, hml, hown, hts, hlocks, hK⟩ := id C0
  intro v1 v2 v3 u H locs ls hv_t0 hw hl h
  unfold g_X6_gapFor_4 at h
  refine lv_iload_n hx hb dX6_gapFor_4 rfl (lv_at hl 3 rfl) ?_
  refine lv_sipush (v := 400) hx hb dX6_gapFor_5 (by decide) ?_
  refine lv_icmp_ge (tgt := 45) hx hb dX6_gapFor_8 (by decide) (fun hc => ?_) (fun hc => ?_)
  · rw [if_pos hc] at h
    refine lv_iconst (v := (-1)) hx hb dX6_gapFor_45 (by decide) ?_
    exact r_iret hx hb hr hlocks hK hw h dX6_gapFor_46
  · rw [if_neg hc] at h
    refine lv_aload_n hx hb dX6_gapFor_11 rfl (lv_at hl 0 rfl) ?_
    refine r_getC (t2 := 12) (d := 47) hx hb hts n_X6_gapFor_X6 hown hK hw hv_t0 (by decide) rfl 0 (by decide) rfl rfl (hts _ k_X6_gapFor_1) (fun _ q => q) dX6_gapFor_12 (fun hv1 => ?_)
    refine lv_iload_n hx hb dX6_gapFor_15 rfl (lv_at hl 3 rfl) ?_
    refine r_tald (n := 400) hx hb hK hw hv1 rfl dX6_gapFor_16 h (fun r2 hv_r2 h => ?_)
    refine r_ifnonnull (tgt := 26) hx hb hv_r2 dX6_gapFor_17 (by decide) h (fun e4 h9 => ?_) (fun t3 e4 hv_t3 h9 => ?_)
    · clear h
      subst e4
      have h := h9
      have hl : lv_has ls 4 [(0, .ref (ad 46)), (1, .int v1), (2, .int v2), (3, .int v3)] := hl
      refine lv_iload_n hx hb dX6_gapFor_20 rfl (lv_at hl 2 rfl) ?_
      refine lv_iconst (v := 1) hx hb dX6_gapFor_21 (by decide) ?_
      refine lv_iadd hx hb dX6_gapFor_22 ?_
      refine lv_goto (tgt := 27) hx hb dX6_gapFor_23 (by decide) ?_
      exact j_X6_gapFor_27 N C0 hA K4 hK4 v1 v3 (v2 + 1) u _ _ _ hv_t0 hw (lv_sub hl [0, 1, 3] rfl) h
    · clear h
      subst e4
      have h := h9
      have hl : lv_has ls 4 [(0, .ref (ad 46)), (1, .int v1), (2, .int v2), (3, .int v3)] := hl
      refine lv_iconst (v := 0) hx hb dX6_gapFor_26 (by decide) ?_
      exact j_X6_gapFor_27 N C0 hA K4 hK4 v1 v3 0 u _ _ _ hv_t0 hw (lv_sub hl [0, 1, 3] rfl) h
set_option maxHeartbeats 4000000 in
set_option maxRecDepth 100000 in
theorem j_X6_gapFor_4 {p : Program} {l : Launch} {e : Env} {s : State} {m : MethodId} {args : Array Value} {below : List Frame} {meth : Method} {c : Code} {D : va_G} {cy : Nat → ClassId} {L : List Nat} {ad : Nat → Nat} {A : Nat → Prop} {o : Int32 × Mm} (N : Nat)   (C0 : Cx p m meth c cX6_gapFor (some .int) 4 s args wsX6_gapFor RX6 D cy) (hA : ∀ q : Nat, s.heap.size ≤ q → A q)  : ∀ (n : Nat), ∀ (v1 : Int32) (v2 : Int32) (v3 : Int32) (u : Mm) (H : Heap) (locs : List Loc) (ls : Array Slot), vn L 6 46 → Wd D cy L ad A s.heap u H locs → lv_has ls 4 [(0, .ref (ad 46)), (1, .int v1), (2, .int v2), (3, .int v3)] → f_X6_gapFor_4 N   n v1 v2 v3 u = some o → W p l e ({ frames := 0, cells := 0, slots := 0, locals := 0 } : Room) s m args below meth c H locs 0 0 (MQ below (QcI D cy L ad A o) args s 0 0 A) (F0 m 4 ls []) := by
  intro n
  induction n with
  | zero =>
    intro v1 v2 v3 u H locs ls hv_t0 hw hl h
    cases h
  | succ n ih => exact jg_X6_gapFor_4 N   C0 hA  _ ih
def f_X6_gapFor (N : Nat) (p0 : Int32) (u : Mm) : Option (Int32 × Mm) :=
  f_X6_gapFor_4 N N p0 0 0 u
set_option maxHeartbeats 4000000 in
set_option maxRecDepth 100000 in
theorem c_X6_gapFor (l : Launch) (D : va_G) (cy : Nat → ClassId) (L : List Nat) (ad : Nat → Nat) (N : Nat) (p0 : Int32) (u : Mm) (o : Int32 × Mm) (h_this : vn L 6 46) (h : f_X6_gapFor N p0 u = some o) : MtI l yX6_gapFor wsX6_gapFor ({ frames := 0, cells := 0, slots := 0, locals := 0 } : Room) D cy L ad [.ref (ad 46), .int p0] u o := by
  intro sz
  refine Met.ofW (cc := cX6_gapFor) (maxL := 4) (ret := (some .int)) (by decide) rfl ?_
  intro p e s m args below meth c s₁ B hml hv
  obtain ⟨rfl, hsz, hP, hK, hD0, hok⟩ := hv
  have hx := B.exec
  have hb := B.bytes
  have hr := B.returns
  have hts := atoms_spec (ws := wsX6_gapFor) B.pre
  have hown : s.vm.findClass RX6 = some m.cls := findClass_of_methodNamed B.named
  have hlocks := B.notSynchronized
  subst hsz
  have hw := wd_start hP hD0 hok
  have hA : ∀ q : Nat, s.heap.size ≤ q → va_A (wl cy L ad u) s.heap.size q := fun q h => Or.inr h
  generalize va_A (wl cy L ad u) s.heap.size = A at hw hA ⊢
  have C0 : Cx p m meth c cX6_gapFor (some .int) 4 s _ wsX6_gapFor RX6 D cy := ⟨hx, hb, hr, hml, hown, hts, hlocks, hK⟩
  have hl := lv_entry ([.ref (ad 46), .int p0]) (n := 4) (Nat.le_of_ble_eq_true rfl)
  rw [lg_entry_eq]
  generalize (lg_sl ([.ref (ad 46), .int p0]) ++ List.replicate (4 - (lg_sl ([.ref (ad 46), .int p0])).length) Slot.unset).toArray = ls at hl ⊢
  have hl : lv_has ls 4 [(0, .ref (ad 46)), (1, .int p0)] := hl
  unfold f_X6_gapFor at h
  refine lv_iconst (v := 0) hx hb dX6_gapFor_0 (by decide) ?_
  refine lv_istore_n (lv' := [(2, .int 0), (0, .ref (ad 46)), (1, .int p0)]) hx hb dX6_gapFor_1 rfl hl (by decide) rfl (fun ls hl => ?_)
  refine lv_iconst (v := 0) hx hb dX6_gapFor_2 (by decide) ?_
  refine lv_istore_n (lv' := [(3, .int 0), (2, .int 0), (0, .ref (ad 46)), (1, .int p0)]) hx hb dX6_gapFor_3 rfl hl (by decide) rfl (fun ls hl => ?_)
  exact j_X6_gapFor_4 N C0 hA N p0 0 0 u _ _ _ h_this hw (lv_sub hl [2, 3, 1, 0] rfl) h
/-! RingHeap$Words.give -/
theorem k_X6_give_1 : Cond.fieldLink RX6 28 "RingHeap$Thing" "kind" "LRingHeap$Kind;" ∈ wsX6_give := List.mem_of_getElem? (i := 1) (by rfl)
theorem n_X6_give_X5 : ∀ w ∈ u_ws RX5 TX5 11, w ∈ wsX6_give := fun _ h => List.mem_cons_of_mem _ (List.mem_append_left _ (List.mem_append_left _ (List.mem_append_right _ h)))
theorem k_X6_give_2 : Cond.fieldLink RX6 32 "RingHeap$Kind" "size" "I" ∈ wsX6_give := List.mem_of_getElem? (i := 2) (by rfl)
theorem n_X6_give_X2 : ∀ w ∈ u_ws RX2 TX2 4, w ∈ wsX6_give := fun _ h => List.mem_cons_of_mem _ (List.mem_append_left _ (List.mem_append_right _ h))
theorem k_X6_give_4 : Cond.fieldLink RX6 25 "RingHeap$Thing" "address" "I" ∈ wsX6_give := List.mem_of_getElem? (i := 4) (by rfl)
theorem k_X6_give_5 : Cond.fieldLink RX6 17 "RingHeap$Words" "free" "I" ∈ wsX6_give := List.mem_of_getElem? (i := 5) (by rfl)
theorem n_X6_give_X6 : ∀ w ∈ u_ws RX6 TX6 2, w ∈ wsX6_give := fun _ h => List.mem_cons_of_mem _ (List.mem_append_right _ h)
theorem k_X6_give_3 : Cond.fieldLink RX6 11 "RingHeap$Words" "owners" "[LRingHeap$Thing;" ∈ wsX6_give := List.mem_of_getElem? (i := 3) (by rfl)
def f_X6_give_46 (N : Nat) (p0 : Nat)  (v2 : Int32) (u : Mm) : Option (Mm) :=
  pt (sI u p0 6 v2) (fun u => pt (u.1 46 1) (fun x5 => pt (u.2 p0 1) (fun r6 => nl r6 none (fun t7 => pt (u.1 t7 2) (fun x9 => pt (sI u 46 1 (x5 - x9)) (fun u => some u))))))
set_option maxHeartbeats 4000000 in
set_option maxRecDepth 100000 in
theorem j_X6_give_46 {p : Program} {l : Launch} {e : Env} {s : State} {m : MethodId} {args : Array Value} {below : List Frame} {meth : Method} {c : Code} {D : va_G} {cy : Nat → ClassId} {L : List Nat} {ad : Nat → Nat} {A : Nat → Prop} {o : Mm} (N : Nat) (p0 : Nat) (h_p0 : vn L 5 p0) (C0 : Cx p m meth c cX6_give none 5 s args wsX6_give RX6 D cy) (hA : ∀ q : Nat, s.heap.size ≤ q → A q)  : ∀ (v2 : Int32) (u : Mm) (H : Heap) (locs : List Loc) (ls : Array Slot), vn L 6 46 → vn L 5 p0 → Wd D cy L ad A s.heap u H locs → lv_has ls 5 [(0, .ref (ad 46)), (1, .ref (ad p0)), (2, .int v2)] → f_X6_give_46 N p0  v2 u = some o → W p l e ({ frames := 0, cells := 0, slots := 0, locals := 0 } : Room) s m args below meth c H locs 0 0 (MQ below (QcV D cy L ad A o) args s 0 0 A) (F0 m 46 ls []) := by
  obtain ⟨hx, hb, hr, hml, hown, hts, hlocks, hK⟩ := id C0
  intro v2 u H locs ls hv_t0 hv_t1 hw hl h
  unfold f_X6_give_46 at h
  refine lv_aload_n hx hb dX6_give_46 rfl (lv_at hl 1 rfl) ?_
  refine lv_iload_n hx hb dX6_give_47 rfl (lv_at hl 2 rfl) ?_
  refine r_putI (ty := .int) hx hb hts n_X6_give_X5 tyX5 tyX5_ok nmX5 hown hK hw hv_t1 (by decide) rfl 6 (by decide) rfl (hts _ k_X6_give_4) (fun _ q => q) rfl rfl rfl rfl dX6_give_48 h (fun u H locs hw h => ?_)
  refine lv_aload_n hx hb dX6_give_51 rfl (lv_at hl 0 rfl) ?_
  refine lv_dup hx hb dX6_give_52 rfl ?_
  refine r_getI hx hb hts n_X6_give_X6 hown hK hw hv_t0 (by decide) rfl 1 (by decide) rfl (hts _ k_X6_give_5) (fun _ q => q) dX6_give_53 h (fun x5 h => ?_)
  refine lv_aload_n hx hb dX6_give_56 rfl (lv_at hl 1 rfl) ?_
  refine r_getR (t2 := 2) hx hb hts n_X6_give_X5 hown hK hw hv_t1 (by decide) rfl 1 (by decide) rfl (hts _ k_X6_give_1) (fun _ q => q) dX6_give_57 h (fun r6 hv_r6 h => ?_)
  refine r_nn hv_r6 h (fun t7 e8 hv_t7 h9 => ?_)
  clear h
  subst e8
  have h := h9
  have hl : lv_has ls 5 [(0, .ref (ad 46)), (1, .ref (ad p0)), (2, .int v2)] := hl
  refine r_getI hx hb hts n_X6_give_X2 hown hK hw hv_t7 (by decide) rfl 2 (by decide) rfl (hts _ k_X6_give_2) (fun _ q => q) dX6_give_60 h (fun x9 h => ?_)
  refine lv_isub hx hb dX6_give_63 ?_
  refine r_putI (ty := .int) hx hb hts n_X6_give_X6 tyX6 tyX6_ok nmX6 hown hK hw hv_t0 (by decide) rfl 1 (by decide) rfl (hts _ k_X6_give_5) (fun _ q => q) rfl rfl rfl rfl dX6_give_64 h (fun u H locs hw h => ?_)
  exact r_vret hx hb hr hlocks hK hw h dX6_give_67
def g_X6_give_13 (N : Nat) (p0 : Nat) (K13 : Int32 → Int32 → Int32 → Mm → Option (Mm)) (v2 : Int32) (v3 : Int32) (v4 : Int32) (u : Mm) : Option (Mm) :=
  if v4 < 0 then (f_X6_give_46 N p0 v2 u) else (if v3 ≤ v4 then (f_X6_give_46 N p0 v2 u) else (if 400 ≤ v4 then (f_X6_give_46 N p0 v2 u) else (ck (bI v4 400) (pt (sR u 47 (ix v4) (some p0)) (fun u => K13 v2 v3 (v4 + 1) u)))))
def f_X6_give_13 (N : Nat) (p0 : Nat)  : Nat → Int32 → Int32 → Int32 → Mm → Option (Mm)
  | 0 => fun _ _ _ _ => none
  | n + 1 => g_X6_give_13 N p0  (f_X6_give_13 N p0  n)
set_option maxHeartbeats 4000000 in
set_option maxRecDepth 100000 in
theorem jg_X6_give_13 {p : Program} {l : Launch} {e : Env} {s : State} {m : MethodId} {args : Array Value} {below : List Frame} {meth : Method} {c : Code} {D : va_G} {cy : Nat → ClassId} {L : List Nat} {ad : Nat → Nat} {A : Nat → Prop} {o : Mm} (N : Nat) (p0 : Nat) (h_p0 : vn L 5 p0) (C0 : Cx p m meth c cX6_give none 5 s args wsX6_give RX6 D cy) (hA : ∀ q : Nat, s.heap.size ≤ q → A q)  (K13 : Int32 → Int32 → Int32 → Mm → Option (Mm)) (hK13 : ∀ (v2 : Int32) (v3 : Int32) (v4 : Int32) (u : Mm) (H : Heap) (locs : List Loc) (ls : Array Slot), vn L 6 46 → vn L 5 p0 → Wd D cy L ad A s.heap u H locs → lv_has ls 5 [(0, .ref (ad 46)), (1, .ref (ad p0)), (2, .int v2), (3, .int v3), (4, .int v4)] → K13 v2 v3 v4 u = some o → W p l e ({ frames := 0, cells := 0, slots := 0, locals := 0 } : Room) s m args below meth c H locs 0 0 (MQ below (QcV D cy L ad A o) args s 0 0 A) (F0 m 13 ls [])) : ∀ (v2 : Int32) (v3 : Int32) (v4 : Int32) (u : Mm) (H : Heap) (locs : List Loc) (ls : Array Slot), vn L 6 46 → vn L 5 p0 → Wd D cy L ad A s.heap u H locs → lv_has ls 5 [(0, .ref (ad 46)), (1, .ref (ad p0)), (2, .int v2), (3, .int v3), (4, .int v4)] → g_X6_give_13 N p0  K13 v2 v3 v4 u = some o → W p l e ({ frames := 0, cells := 0, slots := 0, locals := 0 } : Room) s m args below meth c H locs 0 0 (MQ below (QcV D cy L ad A o) args s 0 0 A) (F0 m 13 ls []) := by
  obtain ⟨hx, hb, hr, hml, hown, hts, hlocks, hK⟩ := id C0
  intro v2 v3 v4 u H locs ls hv_t0 hv_t1 hw hl h
  unfold g_X6_give_13 at h
  refine lv_iload hx hb dX6_give_13 (lv_at hl 4 rfl) ?_
  refine lv_if_lt (tgt := 46) hx hb dX6_give_15 (by decide) (fun hc => ?_) (fun hc => ?_)
  · rw [if_pos hc] at h
    exact j_X6_give_46 N p0 h_p0 C0 hA v2 u _ _ _ hv_t0 hv_t1 hw (lv_sub hl [0, 1, 2] rfl) h
  · rw [if_neg hc] at h
    refine lv_iload hx hb dX6_give_18 (lv_at hl 4 rfl) ?_
    refine lv_iload_n hx hb dX6_give_20 rfl (lv_at hl 3 rfl) ?_
    refine lv_icmp_ge (tgt := 46) hx hb dX6_give_21 (by decide) (fun hc => ?_) (fun hc => ?_)
    · rw [if_pos hc] at h
      exact j_X6_give_46 N p0 h_p0 C0 hA v2 u _ _ _ hv_t0 hv_t1 hw (lv_sub hl [0, 1, 2] rfl) h
    · rw [if_neg hc] at h
      refine lv_iload hx hb dX6_give_24 (lv_at hl 4 rfl) ?_
      refine lv_sipush (v := 400) hx hb dX6_give_26 (by decide) ?_
      refine lv_icmp_ge (tgt := 46) hx hb dX6_give_29 (by decide) (fun hc => ?_) (fun hc => ?_)
      · rw [if_pos hc] at h
        exact j_X6_give_46 N p0 h_p0 C0 hA v2 u _ _ _ hv_t0 hv_t1 hw (lv_sub hl [0, 1, 2] rfl) h
      · rw [if_neg hc] at h
        refine lv_aload_n hx hb dX6_give_32 rfl (lv_at hl 0 rfl) ?_
        refine r_getC (t2 := 12) (d := 47) hx hb hts n_X6_give_X6 hown hK hw hv_t0 (by decide) rfl 0 (by decide) rfl rfl (hts _ k_X6_give_3) (fun _ q => q) dX6_give_33 (fun hv10 => ?_)
        refine lv_iload hx hb dX6_give_36 (lv_at hl 4 rfl) ?_
        refine lv_aload_n hx hb dX6_give_38 rfl (lv_at hl 1 rfl) ?_
        refine r_tast (n := 400) (v := (some p0)) hx hb hK hw hv10 rfl (vr_some hv_t1) dX6_give_39 h (fun u H locs hw h => ?_)
        refine lv_iinc (v := v4 + 1) (lv' := [(4, .int (v4 + 1)), (0, .ref (ad 46)), (1, .ref (ad p0)), (2, .int v2), (3, .int v3)]) hx hb dX6_give_40 hl (k := 4) rfl rfl (by decide) rfl (fun ls hl => ?_)
        refine lv_goto (tgt := 13) hx hb dX6_give_43 (by decide) ?_
        exact hK13 v2 v3 (v4 + 1) u _ _ _ hv_t0 hv_t1 hw (lv_sub hl [1, 2, 3, 4, 0] rfl) h
set_option maxHeartbeats 4000000 in
set_option maxRecDepth 100000 in
theorem j_X6_give_13 {p : Program} {l : Launch} {e : Env} {s : State} {m : MethodId} {args : Array Value} {below : List Frame} {meth : Method} {c : Code} {D : va_G} {cy : Nat → ClassId} {L : List Nat} {ad : Nat → Nat} {A : Nat → Prop} {o : Mm} (N : Nat) (p0 : Nat) (h_p0 : vn L 5 p0) (C0 : Cx p m meth c cX6_give none 5 s args wsX6_give RX6 D cy) (hA : ∀ q : Nat, s.heap.size ≤ q → A q)  : ∀ (n : Nat), ∀ (v2 : Int32) (v3 : Int32) (v4 : Int32) (u : Mm) (H : Heap) (locs : List Loc) (ls : Array Slot), vn L 6 46 → vn L 5 p0 → Wd D cy L ad A s.heap u H locs → lv_has ls 5 [(0, .ref (ad 46)), (1, .ref (ad p0)), (2, .int v2), (3, .int v3), (4, .int v4)] → f_X6_give_13 N p0  n v2 v3 v4 u = some o → W p l e ({ frames := 0, cells := 0, slots := 0, locals := 0 } : Room) s m args below meth c H locs 0 0 (MQ below (QcV D cy L ad A o) args s 0 0 A) (F0 m 13 ls []) := by
  intro n
  induction n with
  | zero =>
    intro v2 v3 v4 u H locs ls hv_t0 hv_t1 hw hl h
    cases h
  | succ n ih => exact jg_X6_give_13 N p0 h_p0 C0 hA  _ ih
def f_X6_give (N : Nat) (p0 : Nat) (p1 : Int32) (u : Mm) : Option (Mm) :=
  pt (u.2 p0 1) (fun r1 => nl r1 none (fun t2 => pt (u.1 t2 2) (fun x4 => f_X6_give_13 N p0 N p1 (p1 + x4) p1 u)))
set_option maxHeartbeats 4000000 in
set_option maxRecDepth 100000 in
theorem c_X6_give (l : Launch) (D : va_G) (cy : Nat → ClassId) (L : List Nat) (ad : Nat → Nat) (N : Nat) (p0 : Nat) (p1 : Int32) (u : Mm) (o : Mm) (h_this : vn L 6 46) (h_p0 : vn L 5 p0) (h : f_X6_give N p0 p1 u = some o) : MtV l yX6_give wsX6_give ({ frames := 0, cells := 0, slots := 0, locals := 0 } : Room) D cy L ad [.ref (ad 46), .ref (ad p0), .int p1] u o := by
  intro sz
  refine Met.ofW (cc := cX6_give) (maxL := 5) (ret := none) (by decide) rfl ?_
  intro p e s m args below meth c s₁ B hml hv
  obtain ⟨rfl, hsz, hP, hK, hD0, hok⟩ := hv
  have hx := B.exec
  have hb := B.bytes
  have hr := B.returns
  have hts := atoms_spec (ws := wsX6_give) B.pre
  have hown : s.vm.findClass RX6 = some m.cls := findClass_of_methodNamed B.named
  have hlocks := B.notSynchronized
  subst hsz
  have hw := wd_start hP hD0 hok
  have hA : ∀ q : Nat, s.heap.size ≤ q → va_A (wl cy L ad u) s.heap.size q := fun q h => Or.inr h
  generalize va_A (wl cy L ad u) s.heap.size = A at hw hA ⊢
  have C0 : Cx p m meth c cX6_give none 5 s _ wsX6_give RX6 D cy := ⟨hx, hb, hr, hml, hown, hts, hlocks, hK⟩
  have hl := lv_entry ([.ref (ad 46), .ref (ad p0), .int p1]) (n := 5) (Nat.le_of_ble_eq_true rfl)
  rw [lg_entry_eq]
  generalize (lg_sl ([.ref (ad 46), .ref (ad p0), .int p1]) ++ List.replicate (5 - (lg_sl ([.ref (ad 46), .ref (ad p0), .int p1])).length) Slot.unset).toArray = ls at hl ⊢
  have hl : lv_has ls 5 [(0, .ref (ad 46)), (1, .ref (ad p0)), (2, .int p1)] := hl
  unfold f_X6_give at h
  refine lv_iload_n hx hb dX6_give_0 rfl (lv_at hl 2 rfl) ?_
  refine lv_aload_n hx hb dX6_give_1 rfl (lv_at hl 1 rfl) ?_
  refine r_getR (t2 := 2) hx hb hts n_X6_give_X5 hown hK hw h_p0 (by decide) rfl 1 (by decide) rfl (hts _ k_X6_give_1) (fun _ q => q) dX6_give_2 h (fun r1 hv_r1 h => ?_)
  refine r_nn hv_r1 h (fun t2 e3 hv_t2 h9 => ?_)
  clear h
  subst e3
  have h := h9
  have hl : lv_has ls 5 [(0, .ref (ad 46)), (1, .ref (ad p0)), (2, .int p1)] := hl
  refine r_getI hx hb hts n_X6_give_X2 hown hK hw hv_t2 (by decide) rfl 2 (by decide) rfl (hts _ k_X6_give_2) (fun _ q => q) dX6_give_5 h (fun x4 h => ?_)
  refine lv_iadd hx hb dX6_give_8 ?_
  refine lv_istore_n (lv' := [(3, .int (p1 + x4)), (0, .ref (ad 46)), (1, .ref (ad p0)), (2, .int p1)]) hx hb dX6_give_9 rfl hl (by decide) rfl (fun ls hl => ?_)
  refine lv_iload_n hx hb dX6_give_10 rfl (lv_at hl 3 rfl) ?_
  refine lv_istore (lv' := [(4, .int p1), (3, .int (p1 + x4)), (0, .ref (ad 46)), (1, .ref (ad p0)), (2, .int p1)]) hx hb dX6_give_11 hl (by decide) rfl (fun ls hl => ?_)
  exact j_X6_give_13 N p0 h_p0 C0 hA N p1 (p1 + x4) p1 u _ _ _ h_this h_p0 hw (lv_sub hl [2, 3, 4, 1, 0] rfl) h
/-! RingHeap$Words.takeBack -/
theorem k_X6_takeBack_1 : Cond.fieldLink RX6 25 "RingHeap$Thing" "address" "I" ∈ wsX6_takeBack := List.mem_of_getElem? (i := 1) (by rfl)
theorem n_X6_takeBack_X5 : ∀ w ∈ u_ws RX5 TX5 11, w ∈ wsX6_takeBack := fun _ h => List.mem_cons_of_mem _ (List.mem_append_left _ (List.mem_append_left _ (List.mem_append_right _ h)))
theorem k_X6_takeBack_2 : Cond.fieldLink RX6 28 "RingHeap$Thing" "kind" "LRingHeap$Kind;" ∈ wsX6_takeBack := List.mem_of_getElem? (i := 2) (by rfl)
theorem k_X6_takeBack_3 : Cond.fieldLink RX6 32 "RingHeap$Kind" "size" "I" ∈ wsX6_takeBack := List.mem_of_getElem? (i := 3) (by rfl)
theorem n_X6_takeBack_X2 : ∀ w ∈ u_ws RX2 TX2 4, w ∈ wsX6_takeBack := fun _ h => List.mem_cons_of_mem _ (List.mem_append_left _ (List.mem_append_right _ h))
theorem k_X6_takeBack_5 : Cond.fieldLink RX6 17 "RingHeap$Words" "free" "I" ∈ wsX6_takeBack := List.mem_of_getElem? (i := 5) (by rfl)
theorem n_X6_takeBack_X6 : ∀ w ∈ u_ws RX6 TX6 2, w ∈ wsX6_takeBack := fun _ h => List.mem_cons_of_mem _ (List.mem_append_right _ h)
theorem k_X6_takeBack_4 : Cond.fieldLink RX6 11 "RingHeap$Words" "owners" "[LRingHeap$Thing;" ∈ wsX6_takeBack := List.mem_of_getElem? (i := 4) (by rfl)
def f_X6_takeBack_47 (N : Nat) (p0 : Nat)   (u : Mm) : Option (Mm) :=
  pt (u.1 46 1) (fun x7 => pt (u.2 p0 1) (fun r8 => nl r8 none (fun t9 => pt (u.1 t9 2) (fun x11 => pt (sI u 46 1 (x7 + x11)) (fun u => some u)))))
set_option maxHeartbeats 4000000 in
set_option maxRecDepth 100000 in
theorem j_X6_takeBack_47 {p : Program} {l : Launch} {e : Env} {s : State} {m : MethodId} {args : Array Value} {below : List Frame} {meth : Method} {c : Code} {D : va_G} {cy : Nat → ClassId} {L : List Nat} {ad : Nat → Nat} {A : Nat → Prop} {o : Mm} (N : Nat) (p0 : Nat) (h_p0 : vn L 5 p0) (C0 : Cx p m meth c cX6_takeBack none 4 s args wsX6_takeBack RX6 D cy) (hA : ∀ q : Nat, s.heap.size ≤ q → A q)  : ∀  (u : Mm) (H : Heap) (locs : List Loc) (ls : Array Slot), vn L 6 46 → vn L 5 p0 → Wd D cy L ad A s.heap u H locs → lv_has ls 4 [(0, .ref (ad 46)), (1, .ref (ad p0))] → f_X6_takeBack_47 N p0   u = some o → W p l e ({ frames := 0, cells := 0, slots := 0, locals := 0 } : Room) s m args below meth c H locs 0 0 (MQ below (QcV D cy L ad A o) args s 0 0 A) (F0 m 47 ls []) := by
  obtain ⟨hx, hb, hr, hml, hown, hts, hlocks, hK⟩ := id C0
  intro  u H locs ls hv_t0 hv_t1 hw hl h
  unfold f_X6_takeBack_47 at h
  refine lv_aload_n hx hb dX6_takeBack_47 rfl (lv_at hl 0 rfl) ?_
  refine lv_dup hx hb dX6_takeBack_48 rfl ?_
  refine r_getI hx hb hts n_X6_takeBack_X6 hown hK hw hv_t0 (by decide) rfl 1 (by decide) rfl (hts _ k_X6_takeBack_5) (fun _ q => q) dX6_takeBack_49 h (fun x7 h => ?_)
  refine lv_aload_n hx hb dX6_takeBack_52 rfl (lv_at hl 1 rfl) ?_
  refine r_getR (t2 := 2) hx hb hts n_X6_takeBack_X5 hown hK hw hv_t1 (by decide) rfl 1 (by decide) rfl (hts _ k_X6_takeBack_2) (fun _ q => q) dX6_takeBack_53 h (fun r8 hv_r8 h => ?_)
  refine r_nn hv_r8 h (fun t9 e10 hv_t9 h9 => ?_)
  clear h
  subst e10
  have h := h9
  have hl : lv_has ls 4 [(0, .ref (ad 46)), (1, .ref (ad p0))] := hl
  refine r_getI hx hb hts n_X6_takeBack_X2 hown hK hw hv_t9 (by decide) rfl 2 (by decide) rfl (hts _ k_X6_takeBack_3) (fun _ q => q) dX6_takeBack_56 h (fun x11 h => ?_)
  refine lv_iadd hx hb dX6_takeBack_59 ?_
  refine r_putI (ty := .int) hx hb hts n_X6_takeBack_X6 tyX6 tyX6_ok nmX6 hown hK hw hv_t0 (by decide) rfl 1 (by decide) rfl (hts _ k_X6_takeBack_5) (fun _ q => q) rfl rfl rfl rfl dX6_takeBack_60 h (fun u H locs hw h => ?_)
  exact r_vret hx hb hr hlocks hK hw h dX6_takeBack_63
def g_X6_takeBack_18 (N : Nat) (p0 : Nat) (K18 : Int32 → Int32 → Mm → Option (Mm)) (v2 : Int32) (v3 : Int32) (u : Mm) : Option (Mm) :=
  if v3 < 0 then (f_X6_takeBack_47 N p0 u) else (if v2 ≤ v3 then (f_X6_takeBack_47 N p0 u) else (if 400 ≤ v3 then (f_X6_takeBack_47 N p0 u) else (ck (bI v3 400) (pt (sR u 47 (ix v3) none) (fun u => K18 v2 (v3 + 1) u)))))
def f_X6_takeBack_18 (N : Nat) (p0 : Nat)  : Nat → Int32 → Int32 → Mm → Option (Mm)
  | 0 => fun _ _ _ => none
  | n + 1 => g_X6_takeBack_18 N p0  (f_X6_takeBack_18 N p0  n)
set_option maxHeartbeats 4000000 in
set_option maxRecDepth 100000 in
theorem jg_X6_takeBack_18 {p : Program} {l : Launch} {e : Env} {s : State} {m : MethodId} {args : Array Value} {below : List Frame} {meth : Method} {c : Code} {D : va_G} {cy : Nat → ClassId} {L : List Nat} {ad : Nat → Nat} {A : Nat → Prop} {o : Mm} (N : Nat) (p0 : Nat) (h_p0 : vn L 5 p0) (C0 : Cx p m meth c cX6_takeBack none 4 s args wsX6_takeBack RX6 D cy) (hA : ∀ q : Nat, s.heap.size ≤ q → A q)  (K18 : Int32 → Int32 → Mm → Option (Mm)) (hK18 : ∀ (v2 : Int32) (v3 : Int32) (u : Mm) (H : Heap) (locs : List Loc) (ls : Array Slot), vn L 6 46 → vn L 5 p0 → Wd D cy L ad A s.heap u H locs → lv_has ls 4 [(0, .ref (ad 46)), (1, .ref (ad p0)), (2, .int v2), (3, .int v3)] → K18 v2 v3 u = some o → W p l e ({ frames := 0, cells := 0, slots := 0, locals := 0 } : Room) s m args below meth c H locs 0 0 (MQ below (QcV D cy L ad A o) args s 0 0 A) (F0 m 18 ls [])) : ∀ (v2 : Int32) (v3 : Int32) (u : Mm) (H : Heap) (locs : List Loc) (ls : Array Slot), vn L 6 46 → vn L 5 p0 → Wd D cy L ad A s.heap u H locs → lv_has ls 4 [(0, .ref (ad 46)), (1, .ref (ad p0)), (2, .int v2), (3, .int v3)] → g_X6_takeBack_18 N p0  K18 v2 v3 u = some o → W p l e ({ frames := 0, cells := 0, slots := 0, locals := 0 } : Room) s m args below meth c H locs 0 0 (MQ below (QcV D cy L ad A o) args s 0 0 A) (F0 m 18 ls []) := by
  obtain ⟨hx, hb, hr, hml, hown, hts, hlocks, hK⟩ := id C0
  intro v2 v3 u H locs ls hv_t0 hv_t1 hw hl h
  unfold g_X6_takeBack_18 at h
  refine lv_iload_n hx hb dX6_takeBack_18 rfl (lv_at hl 3 rfl) ?_
  refine lv_if_lt (tgt := 47) hx hb dX6_takeBack_19 (by decide) (fun hc => ?_) (fun hc => ?_)
  · rw [if_pos hc] at h
    exact j_X6_takeBack_47 N p0 h_p0 C0 hA u _ _ _ hv_t0 hv_t1 hw (lv_sub hl [0, 1] rfl) h
  · rw [if_neg hc] at h
    refine lv_iload_n hx hb dX6_takeBack_22 rfl (lv_at hl 3 rfl) ?_
    refine lv_iload_n hx hb dX6_takeBack_23 rfl (lv_at hl 2 rfl) ?_
    refine lv_icmp_ge (tgt := 47) hx hb dX6_takeBack_24 (by decide) (fun hc => ?_) (fun hc => ?_)
    · rw [if_pos hc] at h
      exact j_X6_takeBack_47 N p0 h_p0 C0 hA u _ _ _ hv_t0 hv_t1 hw (lv_sub hl [0, 1] rfl) h
    · rw [if_neg hc] at h
      refine lv_iload_n hx hb dX6_takeBack_27 rfl (lv_at hl 3 rfl) ?_
      refine lv_sipush (v := 400) hx hb dX6_takeBack_28 (by decide) ?_
      refine lv_icmp_ge (tgt := 47) hx hb dX6_takeBack_31 (by decide) (fun hc => ?_) (fun hc => ?_)
      · rw [if_pos hc] at h
        exact j_X6_takeBack_47 N p0 h_p0 C0 hA u _ _ _ hv_t0 hv_t1 hw (lv_sub hl [0, 1] rfl) h
      · rw [if_neg hc] at h
        refine lv_aload_n hx hb dX6_takeBack_34 rfl (lv_at hl 0 rfl) ?_
        refine r_getC (t2 := 12) (d := 47) hx hb hts n_X6_takeBack_X6 hown hK hw hv_t0 (by decide) rfl 0 (by decide) rfl rfl (hts _ k_X6_takeBack_4) (fun _ q => q) dX6_takeBack_35 (fun hv12 => ?_)
        refine lv_iload_n hx hb dX6_takeBack_38 rfl (lv_at hl 3 rfl) ?_
        refine lv_null hx hb dX6_takeBack_39 ?_
        refine r_tast (n := 400) (v := none) hx hb hK hw hv12 rfl vr_none dX6_takeBack_40 h (fun u H locs hw h => ?_)
        refine lv_iinc (v := v3 + 1) (lv' := [(3, .int (v3 + 1)), (0, .ref (ad 46)), (1, .ref (ad p0)), (2, .int v2)]) hx hb dX6_takeBack_41 hl (k := 3) rfl rfl (by decide) rfl (fun ls hl => ?_)
        refine lv_goto (tgt := 18) hx hb dX6_takeBack_44 (by decide) ?_
        exact hK18 v2 (v3 + 1) u _ _ _ hv_t0 hv_t1 hw (lv_sub hl [1, 2, 3, 0] rfl) h
set_option maxHeartbeats 4000000 in
set_option maxRecDepth 100000 in
theorem j_X6_takeBack_18 {p : Program} {l : Launch} {e : Env} {s : State} {m : MethodId} {args : Array Value} {below : List Frame} {meth : Method} {c : Code} {D : va_G} {cy : Nat → ClassId} {L : List Nat} {ad : Nat → Nat} {A : Nat → Prop} {o : Mm} (N : Nat) (p0 : Nat) (h_p0 : vn L 5 p0) (C0 : Cx p m meth c cX6_takeBack none 4 s args wsX6_takeBack RX6 D cy) (hA : ∀ q : Nat, s.heap.size ≤ q → A q)  : ∀ (n : Nat), ∀ (v2 : Int32) (v3 : Int32) (u : Mm) (H : Heap) (locs : List Loc) (ls : Array Slot), vn L 6 46 → vn L 5 p0 → Wd D cy L ad A s.heap u H locs → lv_has ls 4 [(0, .ref (ad 46)), (1, .ref (ad p0)), (2, .int v2), (3, .int v3)] → f_X6_takeBack_18 N p0  n v2 v3 u = some o → W p l e ({ frames := 0, cells := 0, slots := 0, locals := 0 } : Room) s m args below meth c H locs 0 0 (MQ below (QcV D cy L ad A o) args s 0 0 A) (F0 m 18 ls []) := by
  intro n
  induction n with
  | zero =>
    intro v2 v3 u H locs ls hv_t0 hv_t1 hw hl h
    cases h
  | succ n ih => exact jg_X6_takeBack_18 N p0 h_p0 C0 hA  _ ih
def f_X6_takeBack (N : Nat) (p0 : Nat) (u : Mm) : Option (Mm) :=
  pt (u.1 p0 6) (fun x1 => pt (u.2 p0 1) (fun r2 => nl r2 none (fun t3 => pt (u.1 t3 2) (fun x5 => pt (u.1 p0 6) (fun x6 => f_X6_takeBack_18 N p0 N (x1 + x5) x6 u)))))
set_option maxHeartbeats 4000000 in
set_option maxRecDepth 100000 in
theorem c_X6_takeBack (l : Launch) (D : va_G) (cy : Nat → ClassId) (L : List Nat) (ad : Nat → Nat) (N : Nat) (p0 : Nat) (u : Mm) (o : Mm) (h_this : vn L 6 46) (h_p0 : vn L 5 p0) (h : f_X6_takeBack N p0 u = some o) : MtV l yX6_takeBack wsX6_takeBack ({ frames := 0, cells := 0, slots := 0, locals := 0 } : Room) D cy L ad [.ref (ad 46), .ref (ad p0)] u o := by
  intro sz
  refine Met.ofW (cc := cX6_takeBack) (maxL := 4) (ret := none) (by decide) rfl ?_
  intro p e s m args below meth c s₁ B hml hv
  obtain ⟨rfl, hsz, hP, hK, hD0, hok⟩ := hv
  have hx := B.exec
  have hb := B.bytes
  have hr := B.returns
  have hts := atoms_spec (ws := wsX6_takeBack) B.pre
  have hown : s.vm.findClass RX6 = some m.cls := findClass_of_methodNamed B.named
  have hlocks := B.notSynchronized
  subst hsz
  have hw := wd_start hP hD0 hok
  have hA : ∀ q : Nat, s.heap.size ≤ q → va_A (wl cy L ad u) s.heap.size q := fun q h => Or.inr h
  generalize va_A (wl cy L ad u) s.heap.size = A at hw hA ⊢
  have C0 : Cx p m meth c cX6_takeBack none 4 s _ wsX6_takeBack RX6 D cy := ⟨hx, hb, hr, hml, hown, hts, hlocks, hK⟩
  have hl := lv_entry ([.ref (ad 46), .ref (ad p0)]) (n := 4) (Nat.le_of_ble_eq_true rfl)
  rw [lg_entry_eq]
  generalize (lg_sl ([.ref (ad 46), .ref (ad p0)]) ++ List.replicate (4 - (lg_sl ([.ref (ad 46), .ref (ad p0)])).length) Slot.unset).toArray = ls at hl ⊢
  have hl : lv_has ls 4 [(0, .ref (ad 46)), (1, .ref (ad p0))] := hl
  unfold f_X6_takeBack at h
  refine lv_aload_n hx hb dX6_takeBack_0 rfl (lv_at hl 1 rfl) ?_
  refine r_getI hx hb hts n_X6_takeBack_X5 hown hK hw h_p0 (by decide) rfl 6 (by decide) rfl (hts _ k_X6_takeBack_1) (fun _ q => q) dX6_takeBack_1 h (fun x1 h => ?_)
  refine lv_aload_n hx hb dX6_takeBack_4 rfl (lv_at hl 1 rfl) ?_
  refine r_getR (t2 := 2) hx hb hts n_X6_takeBack_X5 hown hK hw h_p0 (by decide) rfl 1 (by decide) rfl (hts _ k_X6_takeBack_2) (fun _ q => q) dX6_takeBack_5 h (fun r2 hv_r2 h => ?_)
  refine r_nn hv_r2 h (fun t3 e4 hv_t3 h9 => ?_)
  clear h
  subst e4
  have h := h9
  have hl : lv_has ls 4 [(0, .ref (ad 46)), (1, .ref (ad p0))] := hl
  refine r_getI hx hb hts n_X6_takeBack_X2 hown hK hw hv_t3 (by decide) rfl 2 (by decide) rfl (hts _ k_X6_takeBack_3) (fun _ q => q) dX6_takeBack_8 h (fun x5 h => ?_)
  refine lv_iadd hx hb dX6_takeBack_11 ?_
  refine lv_istore_n (lv' := [(2, .int (x1 + x5)), (0, .ref (ad 46)), (1, .ref (ad p0))]) hx hb dX6_takeBack_12 rfl hl (by decide) rfl (fun ls hl => ?_)
  refine lv_aload_n hx hb dX6_takeBack_13 rfl (lv_at hl 2 rfl) ?_
  refine r_getI hx hb hts n_X6_takeBack_X5 hown hK hw h_p0 (by decide) rfl 6 (by decide) rfl (hts _ k_X6_takeBack_1) (fun _ q => q) dX6_takeBack_14 h (fun x6 h => ?_)
  refine lv_istore_n (lv' := [(3, .int x6), (2, .int (x1 + x5)), (0, .ref (ad 46)), (1, .ref (ad p0))]) hx hb dX6_takeBack_17 rfl hl (by decide) rfl (fun ls hl => ?_)
  exact j_X6_takeBack_18 N p0 h_p0 C0 hA N (x1 + x5) x6 u _ _ _ h_this h_p0 hw (lv_sub hl [2, 3, 1, 0] rfl) h
/-! RingHeap$Words.moveAllDown -/
theorem k_X6_moveAllDown_1 : Cond.fieldLink RX6 28 "RingHeap$Thing" "kind" "LRingHeap$Kind;" ∈ wsX6_moveAllDown := List.mem_of_getElem? (i := 1) (by rfl)
theorem n_X6_moveAllDown_X5 : ∀ w ∈ u_ws RX5 TX5 11, w ∈ wsX6_moveAllDown := fun _ h => List.mem_cons_of_mem _ (List.mem_append_left _ (List.mem_append_left _ (List.mem_append_right _ h)))
theorem k_X6_moveAllDown_2 : Cond.fieldLink RX6 32 "RingHeap$Kind" "size" "I" ∈ wsX6_moveAllDown := List.mem_of_getElem? (i := 2) (by rfl)
theorem n_X6_moveAllDown_X2 : ∀ w ∈ u_ws RX2 TX2 4, w ∈ wsX6_moveAllDown := fun _ h => List.mem_cons_of_mem _ (List.mem_append_left _ (List.mem_append_right _ h))
def f_X6_moveAllDown_57 (N : Nat)  (K6 : Int32 → Int32 → Int32 → Mm → Option (Int32 × Mm)) (v1 : Int32) (v2 : Int32) (v3 : Int32) (u : Mm) : Option (Int32 × Mm) :=
  K6 v1 v2 (v3 + 1) u
set_option maxHeartbeats 4000000 in
set_option maxRecDepth 100000 in
theorem j_X6_moveAllDown_57 {p : Program} {l : Launch} {e : Env} {s : State} {m : MethodId} {args : Array Value} {below : List Frame} {meth : Method} {c : Code} {D : va_G} {cy : Nat → ClassId} {L : List Nat} {ad : Nat → Nat} {A : Nat → Prop} {o : Int32 × Mm} (N : Nat)   (C0 : Cx p m meth c cX6_moveAllDown (some .int) 5 s args wsX6_moveAllDown RX6 D cy) (hA : ∀ q : Nat, s.heap.size ≤ q → A q) (K6 : Int32 → Int32 → Int32 → Mm → Option (Int32 × Mm)) (hK6 : ∀ (v1 : Int32) (v2 : Int32) (v3 : Int32) (u : Mm) (H : Heap) (locs : List Loc) (ls : Array Slot), vn L 6 46 → Wd D cy L ad A s.heap u H locs → lv_has ls 5 [(0, .ref (ad 46)), (1, .int v1), (2, .int v2), (3, .int v3)] → K6 v1 v2 v3 u = some o → W p l e ({ frames := 2, cells := 0, slots := 0, locals := 43 } : Room) s m args below meth c H locs 0 0 (MQ below (QcI D cy L ad A o) args s 0 0 A) (F0 m 6 ls [])) : ∀ (v1 : Int32) (v2 : Int32) (v3 : Int32) (u : Mm) (H : Heap) (locs : List Loc) (ls : Array Slot), vn L 6 46 → Wd D cy L ad A s.heap u H locs → lv_has ls 5 [(0, .ref (ad 46)), (1, .int v1), (2, .int v2), (3, .int v3)] → f_X6_moveAllDown_57 N  K6 v1 v2 v3 u = some o → W p l e ({ frames := 2, cells := 0, slots := 0, locals := 43 } : Room) s m args below meth c H locs 0 0 (MQ below (QcI D cy L ad A o) args s 0 0 A) (F0 m 57 ls []) := by
  obtain ⟨hx, hb, hr, hml, hown, hts, hlocks, hK⟩ := id C0
  intro v1 v2 v3 u H locs ls hv_t0 hw hl h
  unfold f_X6_moveAllDown_57 at h
  refine lv_iinc (v := v3 + 1) (lv' := [(3, .int (v3 + 1)), (0, .ref (ad 46)), (1, .int v1), (2, .int v2)]) hx hb dX6_moveAllDown_57 hl (k := 3) rfl rfl (by decide) rfl (fun ls hl => ?_)
  refine lv_goto (tgt := 6) hx hb dX6_moveAllDown_60 (by decide) ?_
  exact hK6 v1 v2 (v3 + 1) u _ _ _ hv_t0 hw (lv_sub hl [1, 2, 3, 0] rfl) h
def f_X6_moveAllDown_46 (N : Nat)  (K6 : Int32 → Int32 → Int32 → Mm → Option (Int32 × Mm)) (v1 : Int32) (v2 : Int32) (v3 : Int32) (t4 : Nat) (u : Mm) : Option (Int32 × Mm) :=
  pt (u.2 t4 1) (fun r4 => nl r4 none (fun t5 => pt (u.1 t5 2) (fun x7 => f_X6_moveAllDown_57 N K6 v1 (v2 + x7) v3 u)))
set_option maxHeartbeats 4000000 in
set_option maxRecDepth 100000 in
theorem j_X6_moveAllDown_46 {p : Program} {l : Launch} {e : Env} {s : State} {m : MethodId} {args : Array Value} {below : List Frame} {meth : Method} {c : Code} {D : va_G} {cy : Nat → ClassId} {L : List Nat} {ad : Nat → Nat} {A : Nat → Prop} {o : Int32 × Mm} (N : Nat)   (C0 : Cx p m meth c cX6_moveAllDown (some .int) 5 s args wsX6_moveAllDown RX6 D cy) (hA : ∀ q : Nat, s.heap.size ≤ q → A q) (K6 : Int32 → Int32 → Int32 → Mm → Option (Int32 × Mm)) (hK6 : ∀ (v1 : Int32) (v2 : Int32) (v3 : Int32) (u : Mm) (H : Heap) (locs : List Loc) (ls : Array Slot), vn L 6 46 → Wd D cy L ad A s.heap u H locs → lv_has ls 5 [(0, .ref (ad 46)), (1, .int v1), (2, .int v2), (3, .int v3)] → K6 v1 v2 v3 u = some o → W p l e ({ frames := 2, cells := 0, slots := 0, locals := 43 } : Room) s m args below meth c H locs 0 0 (MQ below (QcI D cy L ad A o) args s 0 0 A) (F0 m 6 ls [])) : ∀ (v1 : Int32) (v2 : Int32) (v3 : Int32) (t4 : Nat) (u : Mm) (H : Heap) (locs : List Loc) (ls : Array Slot), vn L 6 46 → vn L 5 t4 → Wd D cy L ad A s.heap u H locs → lv_has ls 5 [(0, .ref (ad 46)), (1, .int v1), (2, .int v2), (3, .int v3), (4, .ref (ad t4))] → f_X6_moveAllDown_46 N  K6 v1 v2 v3 t4 u = some o → W p l e ({ frames := 2, cells := 0, slots := 0, locals := 43 } : Room) s m args below meth c H locs 0 0 (MQ below (QcI D cy L ad A o) args s 0 0 A) (F0 m 46 ls []) := by
  obtain ⟨hx, hb, hr, hml, hown, hts, hlocks, hK⟩ := id C0
  intro v1 v2 v3 t4 u H locs ls hv_t0 hv_t4 hw hl h
  unfold f_X6_moveAllDown_46 at h
  refine lv_iload_n hx hb dX6_moveAllDown_46 rfl (lv_at hl 2 rfl) ?_
  refine lv_aload hx hb dX6_moveAllDown_47 (lv_at hl 4 rfl) ?_
  refine r_getR (t2 := 2) hx hb hts n_X6_moveAllDown_X5 hown hK hw hv_t4 (by decide) rfl 1 (by decide) rfl (hts _ k_X6_moveAllDown_1) (fun _ q => q) dX6_moveAllDown_49 h (fun r4 hv_r4 h => ?_)
  refine r_nn hv_r4 h (fun t5 e6 hv_t5 h9 => ?_)
  clear h
  subst e6
  have h := h9
  have hl : lv_has ls 5 [(0, .ref (ad 46)), (1, .int v1), (2, .int v2), (3, .int v3), (4, .ref (ad t4))] := hl
  refine r_getI hx hb hts n_X6_moveAllDown_X2 hown hK hw hv_t5 (by decide) rfl 2 (by decide) rfl (hts _ k_X6_moveAllDown_2) (fun _ q => q) dX6_moveAllDown_52 h (fun x7 h => ?_)
  refine lv_iadd hx hb dX6_moveAllDown_55 ?_
  refine lv_istore_n (lv' := [(2, .int (v2 + x7)), (0, .ref (ad 46)), (1, .int v1), (3, .int v3), (4, .ref (ad t4))]) hx hb dX6_moveAllDown_56 rfl hl (by decide) rfl (fun ls hl => ?_)
  exact j_X6_moveAllDown_57 N C0 hA K6 hK6 v1 (v2 + x7) v3 u _ _ _ hv_t0 hw (lv_sub hl [1, 2, 0, 3] rfl) h
def g_X6_moveAllDown_6 (N : Nat)  (K6 : Int32 → Int32 → Int32 → Mm → Option (Int32 × Mm)) (v1 : Int32) (v2 : Int32) (v3 : Int32) (u : Mm) : Option (Int32 × Mm) :=
  if 400 ≤ v3 then (some (v1, u)) else (bd (f_X6_ownerFrom N v3 u) (fun r1 u => nl r1 (f_X6_moveAllDown_57 N K6 v1 v2 v3 u) (fun t2 => if v3 = v2 then (f_X6_moveAllDown_46 N K6 v1 v2 v3 t2 u) else (bv (f_X6_takeBack N t2 u) (fun u => bv (f_X6_give N t2 v2 u) (fun u => f_X6_moveAllDown_46 N K6 (v1 + 1) v2 v3 t2 u))))))
def f_X6_moveAllDown_6 (N : Nat)   : Nat → Int32 → Int32 → Int32 → Mm → Option (Int32 × Mm)
  | 0 => fun _ _ _ _ => none
  | n + 1 => g_X6_moveAllDown_6 N   (f_X6_moveAllDown_6 N   n)
set_option maxHeartbeats 4000000 in
set_option maxRecDepth 100000 in
theorem jg_X6_moveAllDown_6 {p : Program} {l : Launch} {e : Env} {s : State} {m : MethodId} {args : Array Value} {below : List Frame} {meth : Method} {c : Code} {D : va_G} {cy : Nat → ClassId} {L : List Nat} {ad : Nat → Nat} {A : Nat → Prop} {o : Int32 × Mm} (N : Nat)   (C0 : Cx p m meth c cX6_moveAllDown (some .int) 5 s args wsX6_moveAllDown RX6 D cy) (hA : ∀ q : Nat, s.heap.size ≤ q → A q)  (K6 : Int32 → Int32 → Int32 → Mm → Option (Int32 × Mm)) (hK6 : ∀ (v1 : Int32) (v2 : Int32) (v3 : Int32) (u : Mm) (H : Heap) (locs : List Loc) (ls : Array Slot), vn L 6 46 → Wd D cy L ad A s.heap u H locs → lv_has ls 5 [(0, .ref (ad 46)), (1, .int v1), (2, .int v2), (3, .int v3)] → K6 v1 v2 v3 u = some o → W p l e ({ frames := 2, cells := 0, slots := 0, locals := 43 } : Room) s m args below meth c H locs 0 0 (MQ below (QcI D cy L ad A o) args s 0 0 A) (F0 m 6 ls [])) : ∀ (v1 : Int32) (v2 : Int32) (v3 : Int32) (u : Mm) (H : Heap) (locs : List Loc) (ls : Array Slot), vn L 6 46 → Wd D cy L ad A s.heap u H locs → lv_has ls 5 [(0, .ref (ad 46)), (1, .int v1), (2, .int v2), (3, .int v3)] → g_X6_moveAllDown_6 N   K6 v1 v2 v3 u = some o → W p l e ({ frames := 2, cells := 0, slots := 0, locals := 43 } : Room) s m args below meth c H locs 0 0 (MQ below (QcI D cy L ad A o) args s 0 0 A) (F0 m 6 ls []) := by
  obtain ⟨hx, hb, hr, hml, hown, hts, hlocks, hK⟩ := id C0
  intro v1 v2 v3 u H locs ls hv_t0 hw hl h
  unfold g_X6_moveAllDown_6 at h
  refine lv_iload_n hx hb dX6_moveAllDown_6 rfl (lv_at hl 3 rfl) ?_
  refine lv_sipush (v := 400) hx hb dX6_moveAllDown_7 (by decide) ?_
  refine lv_icmp_ge (tgt := 63) hx hb dX6_moveAllDown_10 (by decide) (fun hc => ?_) (fun hc => ?_)
  · rw [if_pos hc] at h
    refine lv_iload_n hx hb dX6_moveAllDown_63 rfl (lv_at hl 1 rfl) ?_
    exact r_iret hx hb hr hlocks hK hw h dX6_moveAllDown_64
  · rw [if_neg hc] at h
    refine lv_aload_n hx hb dX6_moveAllDown_13 rfl (lv_at hl 0 rfl) ?_
    refine lv_iload_n hx hb dX6_moveAllDown_14 rfl (lv_at hl 3 rfl) ?_
    refine r_bQ (fun o ho => r_vQ (As := [.int v3]) (rest := []) ⟨hx, hb, hml, hown, hts⟩ (c_X6_ownerFrom l D cy L ad N v3 u o hv_t0 ho) (cwV 1 hts gX6_moveAllDown_X6_ownerFrom rfl rfl rfl (by decide +kernel) ⟨Nat.le_of_ble_eq_true rfl, Nat.le_of_ble_eq_true rfl⟩) hw hK hv_t0 (by decide) rfl rfl hl.1 rfl (Nat.le_of_ble_eq_true rfl) dX6_moveAllDown_15 ⟨Nat.zero_le _, Nat.zero_le _⟩) hw hA h (fun r1 u H locs hw hv_r1 h => ?_)
    refine r_astore (lv' := [(4, va_re ad r1), (0, .ref (ad 46)), (1, .int v1), (2, .int v2), (3, .int v3)]) hx hb dX6_moveAllDown_18 hl (by decide) rfl (fun ls hl => ?_)
    refine r_aload hx hb dX6_moveAllDown_20 (lv_at hl 0 rfl) ?_
    refine r_ifnull (tgt := 57) hx hb hv_r1 dX6_moveAllDown_22 (by decide) h (fun e3 h9 => ?_) (fun t2 e3 hv_t2 h9 => ?_)
    · clear h
      subst e3
      have h := h9
      have hl : lv_has ls 5 [(4, va_re ad none), (0, .ref (ad 46)), (1, .int v1), (2, .int v2), (3, .int v3)] := hl
      exact j_X6_moveAllDown_57 N C0 hA K6 hK6 v1 v2 v3 u _ _ _ hv_t0 hw (lv_sub hl [1, 2, 3, 4] rfl) h
    · clear h
      subst e3
      have h := h9
      have hl : lv_has ls 5 [(4, .ref (ad t2)), (0, .ref (ad 46)), (1, .int v1), (2, .int v2), (3, .int v3)] := hl
      refine lv_iload_n hx hb dX6_moveAllDown_25 rfl (lv_at hl 4 rfl) ?_
      refine lv_iload_n hx hb dX6_moveAllDown_26 rfl (lv_at hl 3 rfl) ?_
      refine lv_icmp_eq (tgt := 46) hx hb dX6_moveAllDown_27 (by decide) (fun hc => ?_) (fun hc => ?_)
      · rw [if_pos hc] at h
        exact j_X6_moveAllDown_46 N C0 hA K6 hK6 v1 v2 v3 t2 u _ _ _ hv_t0 hv_t2 hw (lv_sub hl [1, 2, 3, 4, 0] rfl) h
      · rw [if_neg hc] at h
        refine lv_aload_n hx hb dX6_moveAllDown_30 rfl (lv_at hl 1 rfl) ?_
        refine lv_aload hx hb dX6_moveAllDown_31 (lv_at hl 0 rfl) ?_
        refine r_bV (fun o ho => r_vV (As := [.ref (ad t2)]) (rest := []) ⟨hx, hb, hml, hown, hts⟩ (c_X6_takeBack l D cy L ad N t2 u o hv_t0 hv_t2 ho) (cwV 1 hts gX6_moveAllDown_X6_takeBack rfl rfl rfl (by decide +kernel) ⟨Nat.le_of_ble_eq_true rfl, Nat.le_of_ble_eq_true rfl⟩) hw hK hv_t0 (by decide) rfl rfl hl.1 rfl (Nat.le_of_ble_eq_true rfl) dX6_moveAllDown_33 ⟨Nat.zero_le _, Nat.zero_le _⟩) hw hA h (fun u H locs hw h => ?_)
        refine lv_aload_n hx hb dX6_moveAllDown_36 rfl (lv_at hl 1 rfl) ?_
        refine lv_aload hx hb dX6_moveAllDown_37 (lv_at hl 0 rfl) ?_
        refine lv_iload_n hx hb dX6_moveAllDown_39 rfl (lv_at hl 3 rfl) ?_
        refine r_bV (fun o ho => r_vV (As := [.ref (ad t2), .int v2]) (rest := []) ⟨hx, hb, hml, hown, hts⟩ (c_X6_give l D cy L ad N t2 v2 u o hv_t0 hv_t2 ho) (cwV 2 hts gX6_moveAllDown_X6_give rfl rfl rfl (by decide +kernel) ⟨Nat.le_of_ble_eq_true rfl, Nat.le_of_ble_eq_true rfl⟩) hw hK hv_t0 (by decide) rfl rfl hl.1 rfl (Nat.le_of_ble_eq_true rfl) dX6_moveAllDown_40 ⟨Nat.zero_le _, Nat.zero_le _⟩) hw hA h (fun u H locs hw h => ?_)
        refine lv_iinc (v := v1 + 1) (lv' := [(1, .int (v1 + 1)), (4, .ref (ad t2)), (0, .ref (ad 46)), (2, .int v2), (3, .int v3)]) hx hb dX6_moveAllDown_43 hl (k := 2) rfl rfl (by decide) rfl (fun ls hl => ?_)
        exact j_X6_moveAllDown_46 N C0 hA K6 hK6 (v1 + 1) v2 v3 t2 u _ _ _ hv_t0 hv_t2 hw (lv_sub hl [2, 0, 3, 4, 1] rfl) h
set_option maxHeartbeats 4000000 in
set_option maxRecDepth 100000 in
theorem j_X6_moveAllDown_6 {p : Program} {l : Launch} {e : Env} {s : State} {m : MethodId} {args : Array Value} {below : List Frame} {meth : Method} {c : Code} {D : va_G} {cy : Nat → ClassId} {L : List Nat} {ad : Nat → Nat} {A : Nat → Prop} {o : Int32 × Mm} (N : Nat)   (C0 : Cx p m meth c cX6_moveAllDown (some .int) 5 s args wsX6_moveAllDown RX6 D cy) (hA : ∀ q : Nat, s.heap.size ≤ q → A q)  : ∀ (n : Nat), ∀ (v1 : Int32) (v2 : Int32) (v3 : Int32) (u : Mm) (H : Heap) (locs : List Loc) (ls : Array Slot), vn L 6 46 → Wd D cy L ad A s.heap u H locs → lv_has ls 5 [(0, .ref (ad 46)), (1, .int v1), (2, .int v2), (3, .int v3)] → f_X6_moveAllDown_6 N   n v1 v2 v3 u = some o → W p l e ({ frames := 2, cells := 0, slots := 0, locals := 43 } : Room) s m args below meth c H locs 0 0 (MQ below (QcI D cy L ad A o) args s 0 0 A) (F0 m 6 ls []) := by
  intro n
  induction n with
  | zero =>
    intro v1 v2 v3 u H locs ls hv_t0 hw hl h
    cases h
  | succ n ih => exact jg_X6_moveAllDown_6 N   C0 hA  _ ih
def f_X6_moveAllDown (N : Nat)  (u : Mm) : Option (Int32 × Mm) :=
  f_X6_moveAllDown_6 N N 0 0 0 u
set_option maxHeartbeats 4000000 in
set_option maxRecDepth 100000 in
theorem c_X6_moveAllDown (l : Launch) (D : va_G) (cy : Nat → ClassId) (L : List Nat) (ad : Nat → Nat) (N : Nat)  (u : Mm) (o : Int32 × Mm) (h_this : vn L 6 46) (h : f_X6_moveAllDown N  u = some o) : MtI l yX6_moveAllDown wsX6_moveAllDown ({ frames := 2, cells := 0, slots := 0, locals := 43 } : Room) D cy L ad [.ref (ad 46)] u o := by
  intro sz
  refine Met.ofW (cc := cX6_moveAllDown) (maxL := 5) (ret := (some .int)) (by decide) rfl ?_
  intro p e s m args below meth c s₁ B hml hv
  obtain ⟨rfl, hsz, hP, hK, hD0, hok⟩ := hv
  have hx := B.exec
  have hb := B.bytes
  have hr := B.returns
  have hts := atoms_spec (ws := wsX6_moveAllDown) B.pre
  have hown : s.vm.findClass RX6 = some m.cls := findClass_of_methodNamed B.named
  have hlocks := B.notSynchronized
  subst hsz
  have hw := wd_start hP hD0 hok
  have hA : ∀ q : Nat, s.heap.size ≤ q → va_A (wl cy L ad u) s.heap.size q := fun q h => Or.inr h
  generalize va_A (wl cy L ad u) s.heap.size = A at hw hA ⊢
  have C0 : Cx p m meth c cX6_moveAllDown (some .int) 5 s _ wsX6_moveAllDown RX6 D cy := ⟨hx, hb, hr, hml, hown, hts, hlocks, hK⟩
  have hl := lv_entry ([.ref (ad 46)]) (n := 5) (Nat.le_of_ble_eq_true rfl)
  rw [lg_entry_eq]
  generalize (lg_sl ([.ref (ad 46)]) ++ List.replicate (5 - (lg_sl ([.ref (ad 46)])).length) Slot.unset).toArray = ls at hl ⊢
  have hl : lv_has ls 5 [(0, .ref (ad 46))] := hl
  unfold f_X6_moveAllDown at h
  refine lv_iconst (v := 0) hx hb dX6_moveAllDown_0 (by decide) ?_
  refine lv_istore_n (lv' := [(1, .int 0), (0, .ref (ad 46))]) hx hb dX6_moveAllDown_1 rfl hl (by decide) rfl (fun ls hl => ?_)
  refine lv_iconst (v := 0) hx hb dX6_moveAllDown_2 (by decide) ?_
  refine lv_istore_n (lv' := [(2, .int 0), (1, .int 0), (0, .ref (ad 46))]) hx hb dX6_moveAllDown_3 rfl hl (by decide) rfl (fun ls hl => ?_)
  refine lv_iconst (v := 0) hx hb dX6_moveAllDown_4 (by decide) ?_
  refine lv_istore_n (lv' := [(3, .int 0), (2, .int 0), (1, .int 0), (0, .ref (ad 46))]) hx hb dX6_moveAllDown_5 rfl hl (by decide) rfl (fun ls hl => ?_)
  exact j_X6_moveAllDown_6 N C0 hA N 0 0 0 u _ _ _ h_this hw (lv_sub hl [3, 2, 1, 0] rfl) h
end

theorem vr_some {L : List Nat} {t a : Nat} (h : vn L t a) : vr L t (some a) := fun b q => by
  cases q
  exact h
theorem vr_none {L : List Nat} {t : Nat} : vr L t none := fun b q => by cases q
theorem va_re_cat {ad : Nat → Nat} {r : Option Nat} : (va_re ad r).category = 1 := by
  cases r <;> rfl
theorem i32_ne {x y : Int32} (h : ¬ x = y) : x.toInt ≠ y.toInt := fun q => h (Int32.toInt_inj.mp q)
theorem i32_0 : (0 : Int32).toInt = 0 := rfl
theorem i32_1 : (1 : Int32).toInt = 1 := rfl
theorem i32_2 : (2 : Int32).toInt = 2 := rfl
theorem i32_3 : (3 : Int32).toInt = 3 := rfl
theorem i32_4 : (4 : Int32).toInt = 4 := rfl
theorem i32_5 : (5 : Int32).toInt = 5 := rfl
theorem i32_6 : (6 : Int32).toInt = 6 := rfl
theorem i32_7 : (7 : Int32).toInt = 7 := rfl
theorem i32_8 : (8 : Int32).toInt = 8 := rfl
theorem i32_9 : (9 : Int32).toInt = 9 := rfl
theorem i32_10 : (10 : Int32).toInt = 10 := rfl
theorem i32_11 : (11 : Int32).toInt = 11 := rfl
theorem i32_12 : (12 : Int32).toInt = 12 := rfl
theorem i32_13 : (13 : Int32).toInt = 13 := rfl
theorem i32_14 : (14 : Int32).toInt = 14 := rfl
theorem i32_15 : (15 : Int32).toInt = 15 := rfl
section HLP
variable {p : Program} {l : Launch} {e : Env} {R : Room} {s : State} {m : MethodId} {args : Array Value} {below : List Frame} {meth : Method} {c : Code} {H : Heap} {locs : List Loc} {cells slots : Nat} {Q : State → Prop}
variable {cc : ByteArray} {pc : Nat} {ls : Array Slot} {rest : List Value}
theorem r_tin (hx : p.tables.exec = Jvm.exec) (hb : c.code = cc) {dflt lo hi : Int} {offs : Array Int} {len : Nat} {x : Int32} {off : Int} {tgt : Nat} {k : Int32} (hdg : decode cc pc = .ok (.tableswitch dflt lo hi offs, len)) (hk : x = k) (h1 : ¬ k.toInt < lo) (h2 : ¬ hi < k.toInt) (ho : offs[(k.toInt - lo).toNat]? = some off) (ht : (pc : Int) + off = (tgt : Int)) (kk : W p l e R s m args below meth c H locs cells slots Q (F0 m tgt ls rest)) : W p l e R s m args below meth c H locs cells slots Q (F0 m pc ls (.int x :: rest)) := by
  subst hk
  exact lv_tableIn hx hb hdg h1 h2 ho ht kk
end HLP

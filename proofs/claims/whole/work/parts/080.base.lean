def i3 (k : Nat) : Int32 := Int32.ofNat k
def oI (v : Nat) : Int32 := if v = 0 then -1 else i3 (v - 1)
theorem i3_int {k : Nat} (h : k < 2147483648) : (i3 k).toInt = k := Int32.toInt_ofNat_of_lt h
theorem lit_int {n : Nat} (h : n < 2147483648) : (OfNat.ofNat n : Int32).toInt = n := Int32.toInt_ofNat_of_lt h
theorem i3_lt {a b : Nat} (ha : a < 2147483648) (hb : b < 2147483648) : i3 a < i3 b ↔ a < b := Int32.ofNat_lt_iff_lt ha hb
theorem i3_le {a b : Nat} (ha : a < 2147483648) (hb : b < 2147483648) : i3 a ≤ i3 b ↔ a ≤ b := Int32.ofNat_le_iff_le ha hb
theorem i3_eq {a b : Nat} (ha : a < 2147483648) (hb : b < 2147483648) : i3 a = i3 b ↔ a = b := by
  constructor
  · intro h
    have h1 := congrArg Int32.toInt h
    rw [i3_int ha, i3_int hb] at h1
    omega
  · intro h
    rw [h]
theorem i3_ltL {a n : Nat} (ha : a < 2147483648) (hn : n < 2147483648) : i3 a < (no_index (OfNat.ofNat n)) ↔ a < OfNat.ofNat n := i3_lt ha hn
theorem i3_leL {a n : Nat} (ha : a < 2147483648) (hn : n < 2147483648) : i3 a ≤ (no_index (OfNat.ofNat n)) ↔ a ≤ OfNat.ofNat n := i3_le ha hn
theorem i3_Llt {a n : Nat} (ha : a < 2147483648) (hn : n < 2147483648) : (no_index (OfNat.ofNat n)) < i3 a ↔ OfNat.ofNat n < a := i3_lt hn ha
theorem i3_Lle {a n : Nat} (ha : a < 2147483648) (hn : n < 2147483648) : (no_index (OfNat.ofNat n)) ≤ i3 a ↔ OfNat.ofNat n ≤ a := i3_le hn ha
theorem i3_eqL {a n : Nat} (ha : a < 2147483648) (hn : n < 2147483648) : i3 a = (no_index (OfNat.ofNat n)) ↔ a = OfNat.ofNat n := i3_eq ha hn
theorem i3_ne1 {a : Nat} (ha : a < 2147483648) : i3 a ≠ -1 := by
  intro h
  have h1 := congrArg Int32.toInt h
  rw [i3_int ha] at h1
  have h2 : (-1 : Int32).toInt = -1 := by decide
  omega
theorem i3_ix {k : Nat} (h : k < 2147483648) : ix (i3 k) = k := Int32.toNatClampNeg_ofNat_of_lt h
theorem i3_bI {k n : Nat} (h : k < 2147483648) : bI (i3 k) n = decide (k < n) := by
  unfold bI
  rw [i3_int h]
  have h1 : decide ((0 : Int) ≤ (k : Int)) = true := decide_eq_true (by omega)
  rw [h1, Bool.true_and]
  exact decide_eq_decide.mpr (by omega)
theorem i3_add {a b : Nat} : i3 a + i3 b = i3 (a + b) := (Int32.ofNat_add a b).symm
theorem i3_addL {a n : Nat} : i3 a + (no_index (OfNat.ofNat n)) = i3 (a + OfNat.ofNat n) := (Int32.ofNat_add a n).symm
theorem i3_Ladd {a n : Nat} : (no_index (OfNat.ofNat n)) + i3 a = i3 (OfNat.ofNat n + a) := (Int32.ofNat_add n a).symm
theorem i3_sub {a b : Nat} (h : b ≤ a) : i3 a - i3 b = i3 (a - b) := (Int32.ofNat_sub a b h).symm
theorem i3_subL {a n : Nat} (h : n ≤ a) : i3 a - (no_index (OfNat.ofNat n)) = i3 (a - OfNat.ofNat n) := (Int32.ofNat_sub a n h).symm
theorem i3_mulL {a n : Nat} : (no_index (OfNat.ofNat n)) * i3 a = i3 (OfNat.ofNat n * a) := (Int32.ofNat_mul n a).symm
theorem i3_lit (n : Nat) : (OfNat.ofNat n : Int32) = i3 (OfNat.ofNat n) := rfl
theorem i3_mod {k : Nat} (h : k < 2147483648) : i3 k - i3 k / 100 * 100 = i3 (k % 100) := by
  have hd : i3 k / 100 = i3 (k / 100) := by
    apply Int32.toInt.inj
    rw [Int32.toInt_div_of_ne_right _ _ (by decide), i3_int h, i3_int (by omega)]
    have h2 : (100 : Int32).toInt = 100 := by decide
    rw [h2]
    exact (Int.ofNat_tdiv k 100).symm
  rw [hd]
  have hm : i3 (k / 100) * 100 = i3 (k / 100 * 100) := (Int32.ofNat_mul (k / 100) 100).symm
  rw [hm, i3_sub (by omega)]
  congr 1
  omega
theorem i3_of {x : Int32} (h0 : ¬ x < 0) : ∃ k : Nat, k < 2147483648 ∧ x = i3 k := by
  have h1 : 0 ≤ x := Int32.not_lt.mp h0
  exact ⟨x.toNatClampNeg, x.toNatClampNeg_lt, (Int32.ofNat_toNatClampNeg x h1).symm⟩
theorem oI_0 : oI 0 = -1 := rfl
theorem oI_s {k : Nat} : oI (k + 1) = i3 k := rfl
theorem oI_p {v : Nat} (h : v ≠ 0) : oI v = i3 (v - 1) := if_neg h
theorem oI_lt0 {v : Nat} (h : v < 2147483648) : oI v < 0 ↔ v = 0 := by
  by_cases hv : v = 0
  · subst hv
    simp only [oI_0, iff_true]
    decide
  · rw [oI_p hv, i3_ltL (by omega) (by decide)]
    omega
theorem oI_ge0 {v : Nat} (h : v < 2147483648) : 0 ≤ oI v ↔ v ≠ 0 := by
  rw [← Int32.not_lt, oI_lt0 h]
theorem oI_eq {a b : Nat} (ha : a < 2147483648) (hb : b < 2147483648) : oI a = oI b ↔ a = b := by
  constructor
  · intro h
    by_cases h1 : a = 0
    · subst h1
      by_cases h2 : b = 0
      · exact h2.symm
      · rw [oI_0, oI_p h2] at h
        exact absurd h.symm (i3_ne1 (by omega))
    · by_cases h2 : b = 0
      · subst h2
        rw [oI_0, oI_p h1] at h
        exact absurd h (i3_ne1 (by omega))
      · rw [oI_p h1, oI_p h2, i3_eq (by omega) (by omega)] at h
        omega
  · intro h
    rw [h]
theorem oI_eqi {a b : Nat} (ha : a < 2147483648) (hb : b < 2147483647) : oI a = i3 b ↔ a = b + 1 := by
  rw [← oI_s, oI_eq ha (by omega)]
def Go {α : Type} (x : Option α) (P : α → Prop) : Prop := ∃ o, x = some o ∧ P o
theorem Go.s {α : Type} {o : α} {P : α → Prop} (h : P o) : Go (some o) P := ⟨o, rfl, h⟩
theorem Go.e {α : Type} {x y : Option α} {P : α → Prop} (h : x = y) (k : Go y P) : Go x P := h ▸ k
theorem Go.mono {α : Type} {x : Option α} {P Q : α → Prop} (h : Go x P) (k : ∀ o, P o → Q o) : Go x Q := by
  obtain ⟨o, h1, h2⟩ := h
  exact ⟨o, h1, k o h2⟩
theorem Go.bv {β γ : Type} {r : Option β} {k : β → Option γ} {P : β → Prop} {Q : γ → Prop} (h : Go r P) (hk : ∀ o, P o → Go (k o) Q) : Go (bv r k) Q := by
  obtain ⟨o, rfl, h2⟩ := h
  exact hk o h2
theorem Go.bd {α β γ : Type} {r : Option (α × β)} {k : α → β → Option γ} {P : α × β → Prop} {Q : γ → Prop} (h : Go r P) (hk : ∀ a b, P (a, b) → Go (k a b) Q) : Go (bd r k) Q := by
  obtain ⟨⟨a, b⟩, rfl, h2⟩ := h
  exact hk a b h2
theorem Go.ck {β : Type} {b : Bool} {x : Option β} {Q : β → Prop} (h : b = true) (hk : Go x Q) : Go (ck b x) Q := by
  subst h
  exact hk
theorem ck_t {β : Type} {x : Option β} : ck true x = x := rfl
theorem nl_n {β : Type} {x : Option β} {y : Nat → Option β} : nl none x y = x := rfl
theorem nl_s {β : Type} {t : Nat} {x : Option β} {y : Nat → Option β} : nl (some t) x y = y t := rfl
theorem bv_s {β γ : Type} {o : β} {k : β → Option γ} : bv (some o) k = k o := rfl
theorem bd_s {α β γ : Type} {a : α} {b : β} {k : α → β → Option γ} : bd (some (a, b)) k = k a b := rfl
theorem pt_d {α β : Type} {x : α} {k : α → β} : pt x k = k x := rfl
def cnt : Nat → (Nat → Bool) → Nat
  | 0, _ => 0
  | n + 1, p => cnt n p + if p n then 1 else 0
theorem cnt_congr {n : Nat} {p q : Nat → Bool} (h : ∀ i, i < n → p i = q i) : cnt n p = cnt n q := by
  induction n with
  | zero => rfl
  | succ n ih => simp only [cnt]; rw [ih (fun i hi => h i (by omega)), h n (by omega)]
theorem cnt_le {n : Nat} {p : Nat → Bool} : cnt n p ≤ n := by
  induction n with
  | zero => exact Nat.le_refl 0
  | succ n ih => simp only [cnt]; split <;> omega
theorem cnt_mono {n : Nat} {p q : Nat → Bool} (h : ∀ i, i < n → p i = true → q i = true) : cnt n p ≤ cnt n q := by
  induction n with
  | zero => exact Nat.le_refl 0
  | succ n ih =>
    simp only [cnt]
    have h1 := ih (fun i hi => h i (by omega))
    have h2 := h n (by omega)
    by_cases hp : p n = true
    · rw [if_pos hp, if_pos (h2 hp)]
      omega
    · rw [if_neg hp]
      split <;> omega
theorem cnt_zero {n : Nat} {p : Nat → Bool} : cnt n p = 0 ↔ ∀ i, i < n → p i = false := by
  induction n with
  | zero => exact ⟨fun _ i hi => absurd hi (by omega), fun _ => rfl⟩
  | succ n ih =>
    simp only [cnt]
    constructor
    · intro h i hi
      by_cases hp : p n = true
      · rw [if_pos hp] at h
        omega
      · rw [if_neg hp] at h
        by_cases hin : i = n
        · subst hin
          exact Bool.not_eq_true _ ▸ hp
        · exact ih.mp h i (by omega)
    · intro h
      rw [ih.mpr (fun i hi => h i (by omega)), h n (by omega)]
      rfl
theorem cnt_pos {n : Nat} {p : Nat → Bool} : 0 < cnt n p ↔ ∃ i, i < n ∧ p i = true := by
  constructor
  · intro h
    apply Classical.byContradiction
    intro hn
    have h0 : cnt n p = 0 := cnt_zero.mpr (fun i hi => by
      cases hp : p i with
      | false => rfl
      | true => exact absurd ⟨i, hi, hp⟩ hn)
    omega
  · intro ⟨i, hi, hp⟩
    rcases Nat.eq_zero_or_pos (cnt n p) with h | h
    · have := cnt_zero.mp h i hi
      rw [hp] at this
      cases this
    · exact h
theorem cnt_upd {n k : Nat} {p q : Nat → Bool} (hk : k < n) (h : ∀ i, i < n → i ≠ k → p i = q i) : cnt n p + (if q k then 1 else 0) = cnt n q + (if p k then 1 else 0) := by
  induction n with
  | zero => omega
  | succ n ih =>
    simp only [cnt]
    by_cases hkn : k = n
    · subst hkn
      rw [cnt_congr (p := p) (q := q) (fun i hi => h i (by omega) (by omega))]
      omega
    · have h1 := ih (by omega) (fun i hi hik => h i (by omega) hik)
      rw [h n (by omega) (fun q => hkn q.symm)]
      omega
theorem cnt_on {n k : Nat} {p q : Nat → Bool} (hk : k < n) (h : ∀ i, i < n → i ≠ k → p i = q i) (hp : p k = false) (hq : q k = true) : cnt n q = cnt n p + 1 := by
  have h1 := cnt_upd hk h
  rw [hp, hq] at h1
  simp at h1
  omega
theorem cnt_lt {n k : Nat} {p : Nat → Bool} (hk : k < n) (hp : p k = false) : cnt n p < n := by
  have h1 := cnt_on (p := p) (q := fun i => p i || i == k) hk (fun i _ hik => by simp [hik]) hp (by simp)
  have h2 : cnt n (fun i => p i || i == k) ≤ n := cnt_le
  omega
theorem cnt_split {n : Nat} {p q : Nat → Bool} : cnt n p = cnt n (fun i => p i && q i) + cnt n (fun i => p i && !q i) := by
  induction n with
  | zero => rfl
  | succ n ih =>
    simp only [cnt]
    rw [ih]
    rcases Bool.eq_false_or_eq_true (p n) with hp | hp <;> rcases Bool.eq_false_or_eq_true (q n) with hq | hq <;> simp [hp, hq] <;> omega
theorem cnt_add {n : Nat} {p q : Nat → Bool} (h : ∀ i, i < n → p i = true → q i = false) : cnt n (fun i => p i || q i) = cnt n p + cnt n q := by
  induction n with
  | zero => rfl
  | succ n ih =>
    simp only [cnt]
    rw [ih (fun i hi => h i (by omega))]
    have := h n (by omega)
    rcases Bool.eq_false_or_eq_true (p n) with hp | hp <;> rcases Bool.eq_false_or_eq_true (q n) with hq | hq <;> simp [hp, hq] at this ⊢ <;> omega
theorem cnt_ext {m n : Nat} {p : Nat → Bool} (hmn : m ≤ n) (h : ∀ i, m ≤ i → i < n → p i = false) : cnt n p = cnt m p := by
  induction n with
  | zero => have : m = 0 := by omega
            subst this; rfl
  | succ n ih =>
    by_cases hm : m = n + 1
    · subst hm; rfl
    · simp only [cnt]
      rw [ih (by omega) (fun i h1 h2 => h i h1 (by omega)), h n (by omega) (by omega)]
      simp
theorem cnt_inj {n m : Nat} {p q : Nat → Bool} (f : Nat → Nat) (hf : ∀ i, i < n → p i = true → f i < m ∧ q (f i) = true) (hi : ∀ i j, i < n → j < n → p i = true → p j = true → f i = f j → i = j) : cnt n p ≤ cnt m q := by
  induction n generalizing q with
  | zero => exact Nat.zero_le _
  | succ n ih =>
    simp only [cnt]
    by_cases hp : p n = true
    · rw [if_pos hp]
      have h1 := hf n (by omega) hp
      have h2 := ih (q := fun k => q k && k != f n) (fun i hin hpi => by
        have h3 := hf i (by omega) hpi
        refine ⟨h3.1, ?_⟩
        have : f i ≠ f n := fun e => by have := hi i n (by omega) (by omega) hpi hp e; omega
        simp [h3.2, this]) (fun i j h3 h4 => hi i j (by omega) (by omega))
      have h5 := cnt_on (p := fun k => q k && k != f n) (q := q) h1.1 (fun i _ hne => by simp [hne]) (by simp) h1.2
      omega
    · rw [if_neg hp]
      have := ih (q := q) (fun i hin => hf i (by omega)) (fun i j h3 h4 => hi i j (by omega) (by omega))
      omega

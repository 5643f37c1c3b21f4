section MKE
variable {k y a o N : Nat} {r u : Mm} {z : Sm}
theorem mkA_TT (ho : o < 80) (h4 : z 4 o = 0) : TT (mkA o y a z) = TT z + 1 := cnt_on (k := o) ho (fun p hp hpo => by rw [mkA_o hpo (by decide)]) (by rw [h4]; rfl) (by simp [mkA])
theorem mkA_FW (ha : a + z 2 y ≤ 400) (hg : ∀ x, a ≤ x → x < a + z 2 y → z 13 x = 0) : FW (mkA o y a z) + z 2 y = FW z := by
  have h1 : FW z = cnt 400 (fun w => (z 13 w == 0) && decide (a ≤ w ∧ w < a + z 2 y)) + cnt 400 (fun w => (z 13 w == 0) && !decide (a ≤ w ∧ w < a + z 2 y)) := cnt_split
  have h2 : cnt 400 (fun w => (z 13 w == 0) && decide (a ≤ w ∧ w < a + z 2 y)) = z 2 y := by
    have e := cnt_range (n := 400) (a := a) (b := a + z 2 y) (by omega) ha
    rw [show a + z 2 y - a = z 2 y by omega] at e
    refine Eq.trans (cnt_congr (fun w hw => ?_)) e
    by_cases x : a ≤ w ∧ w < a + z 2 y
    · simp [hg w x.1 x.2]
    · simp [x]
  have h3 : FW (mkA o y a z) = cnt 400 (fun w => (z 13 w == 0) && !decide (a ≤ w ∧ w < a + z 2 y)) := cnt_congr (fun w hw => by
    rw [mkA_13]
    by_cases x : a ≤ w ∧ w < a + z 2 y
    · rw [if_pos x]; simp [x]
    · rw [if_neg x]; simp [x])
  omega
end MKE

/-! the reference: strike -/
def sh (e i : Nat) : Nat := if i < e then i else i + 1
def eStr (E : EE) (e : Nat) : EE := (eN E - 1, fun i => eK E (sh e i), fun i => eY E (sh e i), fun i => eA E (sh e i), fun i => eL E (sh e i), fun i => eW E (sh e i), fun i j => eP E (sh e i) (sh e j), eB E)
def nWo (s e : Nat) : Nat := (s % 2 ^ e) ||| (s / 2 ^ (e + 1) * 2 ^ e)
theorem nWo_bit (s e j : Nat) : (nWo s e).testBit j = s.testBit (sh e j) := by
  unfold nWo sh
  rw [Nat.testBit_or, Nat.testBit_mod_two_pow, ← Nat.shiftLeft_eq, Nat.testBit_shiftLeft, Nat.testBit_div_two_pow]
  by_cases c : j < e
  · rw [if_pos c, decide_eq_true c, decide_eq_false (show ¬ (j ≥ e) by omega)]
    simp
  · rw [if_neg c, decide_eq_false c, decide_eq_true (show j ≥ e by omega)]
    simp
    rw [show j - e + (e + 1) = j + 1 by omega]
theorem nWo_lt {s e n : Nat} (hs : s < 2 ^ n) (he : e < n) : nWo s e < 2 ^ (n - 1) := by
  apply Nat.lt_pow_two_of_testBit
  intro j hj
  rw [nWo_bit]
  exact Nat.testBit_lt_two_pow (Nat.lt_of_lt_of_le hs (Nat.pow_le_pow_right (by omega) (by unfold sh; split <;> omega)))
section MAB
variable {P : Int → MS → Prop} {E : EE} {m : MS}
theorem M_without {s e : Nat} (hs : s < 2 ^ 18) (he : e < 18) (hP : P (nWo s e : Int) m) : MMi mX10_without [vi (s : Int), vi (e : Int)] m P := by
  have h1 : 2 ^ e < 2 ^ 18 := Nat.pow_lt_pow_right (by omega) he
  have h0 : 0 < 2 ^ e := Nat.two_pow_pos e
  have h2 : s / 2 ^ (e + 1) ≤ s := Nat.div_le_self _ _
  have h3 : s / 2 ^ (e + 1) * 2 ^ e ≤ s := by
    refine Nat.le_trans (Nat.mul_le_mul_left _ (Nat.pow_le_pow_right (by omega) (Nat.le_succ e))) (Nat.div_mul_le_self _ _)
  have h4 : s % 2 ^ e ≤ s := Nat.mod_le _ _
  refine uX10_without m s e ?_
  rw [b_bit (by omega), show ((2 ^ e : Nat) : Int) - 1 = ((2 ^ e - 1 : Nat) : Int) by omega, b_and_nat (by omega) (by omega), Nat.and_two_pow_sub_one_eq_mod, show (e : Int) + 1 = ((e + 1 : Nat) : Int) by omega, b_shr_nat (by omega) (by omega), b_shl_nat (by omega) (by omega), b_or_nat (by omega) (by omega)]
  exact hP
end MAB

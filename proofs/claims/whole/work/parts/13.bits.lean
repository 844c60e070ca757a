/-! bits of ints that are not negative -/
theorem oI_bv {n : Nat} (h : n < 2 ^ 31) : (Int32.ofInt (n : Int)).toBitVec.toNat = n := by
  rw [Int32.ofInt_eq_ofNat]
  exact pk_tn (by omega)
theorem rng_nat {n : Nat} (h : n < 2 ^ 31) : rng (n : Int) := ⟨by omega, by omega⟩
theorem b_and_nat {a b : Nat} (ha : a < 2 ^ 31) (hb : b < 2 ^ 31) : b_and (a : Int) (b : Int) = ((a &&& b : Nat) : Int) := by
  have hl : a &&& b < 2 ^ 31 := Nat.and_lt_two_pow a hb
  have e : Int32.ofInt (a : Int) &&& Int32.ofInt (b : Int) = Int32.ofInt ((a &&& b : Nat) : Int) := by
    apply Int32.toBitVec_inj.1
    apply BitVec.eq_of_toNat_eq
    rw [Int32.toBitVec_and, BitVec.toNat_and, oI_bv ha, oI_bv hb, oI_bv hl]
  unfold b_and
  rw [e, rng_to ⟨by omega, by omega⟩]
theorem b_or_nat {a b : Nat} (ha : a < 2 ^ 31) (hb : b < 2 ^ 31) : b_or (a : Int) (b : Int) = ((a ||| b : Nat) : Int) := by
  have hl : a ||| b < 2 ^ 31 := Nat.or_lt_two_pow ha hb
  have e : Int32.ofInt (a : Int) ||| Int32.ofInt (b : Int) = Int32.ofInt ((a ||| b : Nat) : Int) := by
    apply Int32.toBitVec_inj.1
    apply BitVec.eq_of_toNat_eq
    rw [Int32.toBitVec_or, BitVec.toNat_or, oI_bv ha, oI_bv hb, oI_bv hl]
  unfold b_or
  rw [e, rng_to ⟨by omega, by omega⟩]
theorem b_xor_nat {a b : Nat} (ha : a < 2 ^ 31) (hb : b < 2 ^ 31) : b_xor (a : Int) (b : Int) = ((a ^^^ b : Nat) : Int) := by
  have hl : a ^^^ b < 2 ^ 31 := Nat.xor_lt_two_pow ha hb
  have e : Int32.ofInt (a : Int) ^^^ Int32.ofInt (b : Int) = Int32.ofInt ((a ^^^ b : Nat) : Int) := by
    apply Int32.toBitVec_inj.1
    apply BitVec.eq_of_toNat_eq
    rw [Int32.toBitVec_xor, BitVec.toNat_xor, oI_bv ha, oI_bv hb, oI_bv hl]
  unfold b_xor
  rw [e, rng_to ⟨by omega, by omega⟩]
theorem sh_k : ∀ k : Nat, k < 32 → ((Int32.ofInt (k : Int) &&& 31).toBitVec.smod 32).toNat = k := by decide +kernel
theorem b_shr_nat {a k : Nat} (ha : a < 2 ^ 31) (hk : k < 32) : b_shr (a : Int) (k : Int) = ((a / 2 ^ k : Nat) : Int) := by
  have hl : a / 2 ^ k < 2 ^ 31 := Nat.lt_of_le_of_lt (Nat.div_le_self _ _) ha
  unfold b_shr
  rw [show Int32.ofInt (a : Int) = nI a from Int32.ofInt_eq_ofNat, pk_shrN ha _ k (sh_k k hk), show nI (a / 2 ^ k) = Int32.ofInt ((a / 2 ^ k : Nat) : Int) from Int32.ofInt_eq_ofNat.symm, rng_to (rng_nat hl)]
theorem b_shl_nat {a k : Nat} (hk : k < 32) (h : a * 2 ^ k < 2 ^ 31) : b_shl (a : Int) (k : Int) = ((a * 2 ^ k : Nat) : Int) := by
  unfold b_shl
  rw [show Int32.ofInt (a : Int) = nI a from Int32.ofInt_eq_ofNat, pk_shlN _ k (sh_k k hk) (by omega), show nI (a * 2 ^ k) = Int32.ofInt ((a * 2 ^ k : Nat) : Int) from Int32.ofInt_eq_ofNat.symm, rng_to (rng_nat h)]
theorem b_bit {k : Nat} (hk : k < 31) : b_shl 1 (k : Int) = ((2 ^ k : Nat) : Int) := by
  have h2 : 2 ^ k < 2 ^ 31 := Nat.pow_lt_pow_right (by omega) hk
  have := b_shl_nat (a := 1) (k := k) (by omega) (by rw [Nat.one_mul]; exact h2)
  rw [Nat.one_mul] at this
  exact this
theorem b_test {a k : Nat} (ha : a < 2 ^ 31) (hk : k < 32) : b_and (b_shr (a : Int) (k : Int)) 1 = if a.testBit k = true then 1 else 0 := by
  have hl : a / 2 ^ k < 2 ^ 31 := Nat.lt_of_le_of_lt (Nat.div_le_self _ _) ha
  rw [b_shr_nat ha hk]
  have := b_and_nat (a := a / 2 ^ k) (b := 1) hl (by omega)
  rw [show ((1 : Nat) : Int) = 1 from rfl] at this
  rw [this, Nat.and_one_is_mod, Nat.testBit_eq_decide_div_mod_eq]
  by_cases h : a / 2 ^ k % 2 = 1
  · simp [h]
  · have h0 : a / 2 ^ k % 2 = 0 := by omega
    simp [h0]
theorem b_test2 {a k : Nat} (ha : a < 2 ^ 31) (hk : k < 31) : (b_and (a : Int) (b_shl 1 (k : Int)) = 0) ↔ a.testBit k = false := by
  have h2 : 2 ^ k < 2 ^ 31 := Nat.pow_lt_pow_right (by omega) hk
  rw [b_bit hk, b_and_nat ha h2]
  constructor
  · intro h
    have h0 : a &&& 2 ^ k = 0 := by omega
    have h1 : (a &&& 2 ^ k).testBit k = false := by rw [h0]; exact Nat.zero_testBit k
    rw [Nat.testBit_and, Nat.testBit_two_pow_self, Bool.and_true] at h1
    exact h1
  · intro h
    have h0 : a &&& 2 ^ k = 0 := by
      apply Nat.eq_of_testBit_eq
      intro j
      rw [Nat.testBit_and, Nat.zero_testBit]
      by_cases e : k = j
      · subst e; rw [h]; rfl
      · rw [Nat.testBit_two_pow_of_ne e, Bool.and_false]
    omega
/-! what stays of the reference's state -/
def Kp (S : Nat → Nat → Prop) (m m' : MS) : Prop := ∀ a k, ¬ S a k → m' a k = m a k
theorem Kp.rf {S : Nat → Nat → Prop} {m : MS} : Kp S m m := fun _ _ _ => rfl
theorem Kp.tr {S : Nat → Nat → Prop} {m m1 m2 : MS} (h1 : Kp S m m1) (h2 : Kp S m1 m2) : Kp S m m2 := fun a k h => (h2 a k h).trans (h1 a k h)
theorem Kp.mo {S T : Nat → Nat → Prop} {m m' : MS} (h : Kp S m m') (hST : ∀ a k, S a k → T a k) : Kp T m m' := fun a k hn => h a k (fun z => hn (hST a k z))
theorem Kp.st {S : Nat → Nat → Prop} {m : MS} {a k : Nat} {x : Int} (h : S a k) : Kp S m (mI m a k x) := fun b j hn => by
  unfold mI
  by_cases e : b = a ∧ j = k
  · obtain ⟨rfl, rfl⟩ := e
    exact absurd h hn
  · rw [if_neg e]
theorem mI_eq {m : MS} {a k : Nat} {x : Int} : mI m a k x a k = x := by simp [mI]
theorem mI_ne {m : MS} {a k b j : Nat} {x : Int} (h : ¬ (b = a ∧ j = k)) : mI m a k x b j = m b j := if_neg h

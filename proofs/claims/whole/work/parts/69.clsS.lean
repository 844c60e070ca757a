/-! how many bits are set: the library's bitCount, for sets of 18 -/
theorem su_k : ∀ k : Nat, k < 32 → (((Int32.ofInt (k : Int)).toUInt32 &&& Int32.toUInt32 31).toBitVec % 32).toNat = k := by decide +kernel
theorem b_ushr_nat {a k : Nat} (ha : a < 2 ^ 31) (hk : k < 32) : b_ushr (a : Int) (k : Int) = ((a / 2 ^ k : Nat) : Int) := by
  have hl : a / 2 ^ k < 2 ^ 31 := Nat.lt_of_le_of_lt (Nat.div_le_self _ _) ha
  have e : ((Int32.ofInt (a : Int)).toUInt32 >>> ((Int32.ofInt (k : Int)).toUInt32 &&& Int32.toUInt32 31)).toInt32 = Int32.ofInt ((a / 2 ^ k : Nat) : Int) := by
    apply Int32.toBitVec_inj.1
    apply BitVec.eq_of_toNat_eq
    rw [oI_bv hl]
    show ((Int32.ofInt (a : Int)).toUInt32 >>> ((Int32.ofInt (k : Int)).toUInt32 &&& Int32.toUInt32 31)).toBitVec.toNat = _
    rw [UInt32.toBitVec_shiftRight, BitVec.ushiftRight_eq', BitVec.toNat_ushiftRight, su_k k hk, Nat.shiftRight_eq_div_pow]
    exact congrArg (fun z => z / 2 ^ k) (oI_bv ha)
  unfold b_ushr
  rw [e, rng_to (rng_nat hl)]
def pF (x : Nat) : Nat :=
  let a := x - ((x / 2) &&& 1431655765)
  let b := (a &&& 858993459) + ((a / 4) &&& 858993459)
  let c := (b + b / 16) &&& 252645135
  let d := c + c / 256
  (d + d / 65536) &&& 63
def pChk : Nat → Nat → Nat → Bool
  | 0, b, c => Nat.beq (pF b) c
  | n + 1, b, c => pChk n (2 * b) c && pChk n (2 * b + 1) (c + 1)
theorem pChk_0 : pChk 16 0 0 = true := by decide +kernel
theorem pChk_1 : pChk 16 1 1 = true := by decide +kernel
theorem pChk_2 : pChk 16 2 1 = true := by decide +kernel
theorem pChk_3 : pChk 16 3 2 = true := by decide +kernel
/-- the bits of x below the n-th -/
def pcT (x : Nat) : Nat → Nat
  | 0 => 0
  | n + 1 => pcT x n + if x.testBit n = true then 1 else 0
theorem pcT_cg {x y : Nat} : ∀ n, (∀ i, i < n → x.testBit i = y.testBit i) → pcT x n = pcT y n := by
  intro n
  induction n with
  | zero => intro _; rfl
  | succ n ih => intro h; rw [pcT, pcT, ih (fun i hi => h i (by omega)), h n (by omega)]
theorem pcT_top {x t n : Nat} (hx : x < 2 ^ n) (ht : t = 0 ∨ t = 1) : pcT (t * 2 ^ n + x) (n + 1) = t + pcT x n := by
  rw [pcT, pcT_cg (y := x) n (fun i hi => ?_)]
  · have h : (t * 2 ^ n + x).testBit n = decide (t = 1) := by
      rw [Nat.testBit_eq_decide_div_mod_eq, Nat.add_comm, Nat.add_mul_div_right _ _ (Nat.two_pow_pos n), Nat.div_eq_of_lt hx]
      rcases ht with rfl | rfl <;> rfl
    rw [h]
    rcases ht with rfl | rfl
    · simp
    · simp; omega
  · have h : (t * 2 ^ n + x) % 2 ^ n = x := by rw [Nat.mul_comm, Nat.mul_add_mod, Nat.mod_eq_of_lt hx]
    have h2 := Nat.testBit_mod_two_pow (t * 2 ^ n + x) n i
    rw [h, decide_eq_true hi, Bool.true_and] at h2
    exact h2.symm
theorem pChk_ok : ∀ n b c, pChk n b c = true → ∀ x, x < 2 ^ n → pF (b * 2 ^ n + x) = c + pcT x n := by
  intro n
  induction n with
  | zero =>
    intro b c h x hx
    have hx : x = 0 := by simpa using hx
    subst hx
    rw [pcT, Nat.pow_zero, Nat.mul_one]
    exact Nat.eq_of_beq_eq_true h
  | succ n ih =>
    intro b c h x hx
    rw [pChk, Bool.and_eq_true] at h
    have hp := Nat.two_pow_pos n
    rw [Nat.pow_succ] at hx
    by_cases d : x < 2 ^ n
    · have := ih (2 * b) c h.1 x d
      rw [show b * 2 ^ (n + 1) + x = 2 * b * 2 ^ n + x by rw [Nat.pow_succ, Nat.mul_comm 2 b, Nat.mul_assoc, Nat.mul_comm 2]]
      rw [this]
      have := pcT_top (t := 0) d (Or.inl rfl)
      rw [Nat.zero_mul, Nat.zero_add, Nat.zero_add] at this
      rw [this]
    · have := ih (2 * b + 1) (c + 1) h.2 (x - 2 ^ n) (by omega)
      rw [show b * 2 ^ (n + 1) + x = (2 * b + 1) * 2 ^ n + (x - 2 ^ n) by
        rw [Nat.add_mul, Nat.one_mul, Nat.pow_succ, Nat.mul_comm 2 b, Nat.mul_assoc, Nat.mul_comm 2]
        omega]
      rw [this]
      have := pcT_top (x := x - 2 ^ n) (t := 1) (n := n) (by omega) (Or.inr rfl)
      rw [Nat.one_mul, show 2 ^ n + (x - 2 ^ n) = x by omega] at this
      rw [this]
      omega
theorem pF_18 {b : Nat} (h : b < 2 ^ 18) : pF b = pcT b 18 := by
  have hq : b / 2 ^ 16 < 4 := by omega
  have hr : b % 2 ^ 16 < 2 ^ 16 := Nat.mod_lt _ (by decide)
  have e : b = (b / 2 ^ 16) * 2 ^ 16 + b % 2 ^ 16 := by omega
  have e2 : pcT b 18 = pcT (b % 2 ^ 16) 16 + ((if b.testBit 16 = true then 1 else 0) + if b.testBit 17 = true then 1 else 0) := by
    rw [show (18 : Nat) = 16 + 1 + 1 from rfl, pcT, pcT, pcT_cg (y := b % 2 ^ 16) 16 (fun i hi => by rw [Nat.testBit_mod_two_pow, decide_eq_true hi, Bool.true_and])]
    exact Nat.add_assoc _ _ _
  have t16 : b.testBit 16 = decide (b / 2 ^ 16 % 2 = 1) := Nat.testBit_eq_decide_div_mod_eq
  have t17 : b.testBit 17 = decide (b / 2 ^ 16 / 2 % 2 = 1) := by
    rw [Nat.testBit_eq_decide_div_mod_eq, Nat.div_div_eq_div_mul]
  rw [e2, t16, t17]
  have key : pF ((b / 2 ^ 16) * 2 ^ 16 + b % 2 ^ 16) = pF b := by rw [← e]
  rw [← key]
  generalize b % 2 ^ 16 = r at *
  generalize b / 2 ^ 16 = q at *
  have hc : q = 0 ∨ q = 1 ∨ q = 2 ∨ q = 3 := by omega
  rcases hc with rfl | rfl | rfl | rfl
  · rw [pChk_ok 16 0 0 pChk_0 r hr]; simp
  · rw [pChk_ok 16 1 1 pChk_1 r hr]; simp; omega
  · rw [pChk_ok 16 2 1 pChk_2 r hr]; simp; omega
  · rw [pChk_ok 16 3 2 pChk_3 r hr]; simp; omega
section XS
variable {P : Int → GS → Prop} {g : GS}
theorem X_bits {b : Nat} (hb : b < 2 ^ 18) (hP : P (pcT b 18 : Int) g) : MXi mJ6_bitCount_0f7a4 [vi (b : Int)] g P := by
  refine uJ6_bitCount_0f7a4 g _ ?_
  rw [← pF_18 hb] at hP
  have u : ∀ (a k : Nat), a < 2 ^ 31 → k < 32 → b_ushr (a : Int) (k : Int) = ((a / 2 ^ k : Nat) : Int) := fun a k h1 h2 => b_ushr_nat h1 h2
  have n1 : ∀ (a m : Nat), a < 2 ^ 31 → m < 2 ^ 31 → b_and (a : Int) (m : Int) = ((a &&& m : Nat) : Int) := fun a m h1 h2 => b_and_nat h1 h2
  have le1 : ((b / 2) &&& 1431655765) ≤ b / 2 := Nat.and_le_left
  have s1 : (b : Int) - b_and (b_ushr (b : Int) 1) 1431655765 = ((b - ((b / 2) &&& 1431655765) : Nat) : Int) := by
    have h1 := u b 1 (by omega) (by omega)
    have h1 : b_ushr (b : Int) 1 = ((b / 2 : Nat) : Int) := h1
    have h2 := n1 (b / 2) 1431655765 (by omega) (by omega)
    have h2 : b_and ((b / 2 : Nat) : Int) 1431655765 = (((b / 2) &&& 1431655765 : Nat) : Int) := h2
    rw [h1, h2]
    omega
  rw [s1]
  have hA : (b - ((b / 2) &&& 1431655765)) < 2 ^ 18 := by omega
  have hPa : pF b = (let a := b - ((b / 2) &&& 1431655765)
    let b := (a &&& 858993459) + ((a / 4) &&& 858993459)
    let c := (b + b / 16) &&& 252645135
    let d := c + c / 256
    (d + d / 65536) &&& 63) := rfl
  rw [hPa] at hP
  generalize b - ((b / 2) &&& 1431655765) = a at *
  have le2 : (a &&& 858993459) ≤ a := Nat.and_le_left
  have le3 : ((a / 4) &&& 858993459) ≤ a / 4 := Nat.and_le_left
  have s2 : b_and (a : Int) 858993459 + b_and (b_ushr (a : Int) 2) 858993459 = (((a &&& 858993459) + ((a / 4) &&& 858993459) : Nat) : Int) := by
    have h1 : b_ushr (a : Int) 2 = ((a / 4 : Nat) : Int) := u a 2 (by omega) (by omega)
    have h2 : b_and ((a / 4 : Nat) : Int) 858993459 = (((a / 4) &&& 858993459 : Nat) : Int) := n1 (a / 4) 858993459 (by omega) (by omega)
    have h3 : b_and (a : Int) 858993459 = ((a &&& 858993459 : Nat) : Int) := n1 a 858993459 (by omega) (by omega)
    rw [h1, h2, h3]
    omega
  rw [s2]
  have hB : (a &&& 858993459) + ((a / 4) &&& 858993459) < 2 ^ 20 := by omega
  simp only at hP
  generalize (a &&& 858993459) + ((a / 4) &&& 858993459) = v at *
  have s3 : b_and ((v : Int) + b_ushr (v : Int) 4) 252645135 = (((v + v / 16) &&& 252645135 : Nat) : Int) := by
    have h1 : b_ushr (v : Int) 4 = ((v / 16 : Nat) : Int) := u v 4 (by omega) (by omega)
    have h2 : b_and ((v + v / 16 : Nat) : Int) 252645135 = (((v + v / 16) &&& 252645135 : Nat) : Int) := n1 (v + v / 16) 252645135 (by omega) (by omega)
    rw [h1, ← h2, Int.natCast_add]
  rw [s3]
  have le4 : ((v + v / 16) &&& 252645135) ≤ v + v / 16 := Nat.and_le_left
  have hC : ((v + v / 16) &&& 252645135) < 2 ^ 22 := by omega
  generalize (v + v / 16) &&& 252645135 = c at *
  have s4 : (c : Int) + b_ushr (c : Int) 8 = ((c + c / 256 : Nat) : Int) := by
    have h1 : b_ushr (c : Int) 8 = ((c / 256 : Nat) : Int) := u c 8 (by omega) (by omega)
    rw [h1, Int.natCast_add]
  rw [s4]
  have hD : c + c / 256 < 2 ^ 24 := by omega
  generalize c + c / 256 = d at *
  have s5 : b_and ((d : Int) + b_ushr (d : Int) 16) 63 = (((d + d / 65536) &&& 63 : Nat) : Int) := by
    have h1 : b_ushr (d : Int) 16 = ((d / 65536 : Nat) : Int) := u d 16 (by omega) (by omega)
    have h2 : b_and ((d + d / 65536 : Nat) : Int) 63 = (((d + d / 65536) &&& 63 : Nat) : Int) := n1 (d + d / 65536) 63 (by omega) (by omega)
    rw [h1, ← h2, Int.natCast_add]
  rw [s5]
  exact hP
end XS

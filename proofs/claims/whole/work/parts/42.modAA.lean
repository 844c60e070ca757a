/-! the reference: part -/
def ePart (E : EE) (a b : Nat) : EE := (eN E, eK E, eY E, eA E, eL E, eW E, fun i j => if (i = a ∧ j = b) ∨ (i = b ∧ j = a) then !eP E i j else eP E i j, eB E)
section MAA
variable {P : Int → MS → Prop} {E : EE} {m : MS}
theorem xor_bit {b k j : Nat} : (b ^^^ 2 ^ k).testBit j = if j = k then !b.testBit j else b.testBit j := by
  rw [Nat.testBit_xor]
  by_cases c : j = k
  · rw [if_pos c, c, Nat.testBit_two_pow_self, Bool.xor_true]
  · rw [if_neg c, Nat.testBit_two_pow_of_ne (fun z => c z.symm), Bool.xor_false]
theorem ePart_w {a b : Nat} (hW : WF E) (hab : a ≠ b) : WF (ePart E a b) := by
  obtain ⟨w1, w2, w3, w4, w5⟩ := hW
  refine ⟨w1, w2, fun i j => ?_, fun i => ?_, w5⟩
  · show (if (i = a ∧ j = b) ∨ (i = b ∧ j = a) then !eP E i j else eP E i j) = (if (j = a ∧ i = b) ∨ (j = b ∧ i = a) then !eP E j i else eP E j i)
    rw [w3 i j]
    by_cases c : (i = a ∧ j = b) ∨ (i = b ∧ j = a)
    · rw [if_pos c, if_pos (by omega)]
    · rw [if_neg c, if_neg (by omega)]
  · show (if (i = a ∧ i = b) ∨ (i = b ∧ i = a) then !eP E i i else eP E i i) = false
    rw [if_neg (by omega)]
    exact w4 i
theorem M_part1 {x y : Int} (hR : RepM E m) (hW : WF E) (rx : rng x) (ry : rng y) (h0 : inE E x = false ∨ inE E y = false ∨ x = y → P (-101) m) (h1 : ∀ a b : Nat, x = (a : Int) → y = (b : Int) → a < eN E → b < eN E → a ≠ b → ∀ m', RepM (ePart E a b) m' → Kp (fun z _ => z = 7) m m' → P (bi (!eP E a b)) m') : MMi mX10_part [vr 0, vi x, vi y] m P := by
  have hn := hW.1
  refine uX10_part m x y ?_
  refine M_isE hR hW rx (fun a ha haE => ⟨⟨by decide, by decide⟩, fun z => absurd z (by decide), fun _ => ?_⟩) (fun f => ⟨rng_0, fun _ => h0 (Or.inl f), fun z => absurd rfl z⟩)
  refine M_isE hR hW ry (fun b hb hbE => ⟨⟨by decide, by decide⟩, fun z => absurd z (by decide), fun _ => ⟨rx, ry, fun c => ?_, fun c => h0 (Or.inr (Or.inr c))⟩⟩) (fun f => ⟨rng_0, fun _ => h0 (Or.inr (Or.inl f)), fun z => absurd rfl z⟩)
  have hab : a ≠ b := by omega
  have hgo := h1 a b ha hb haE hbE hab
  subst ha hb
  simp only [Int.toNat_natCast]
  obtain ⟨-, -, -, -, -, ba, p1, p2, p3⟩ := hR.2.1 a haE
  obtain ⟨-, -, -, -, -, bb, q1, q2, q3⟩ := hR.2.1 b hbE
  have hN : 2 ^ eN E < 2 ^ 31 := Nat.pow_lt_pow_right (by omega) (by omega)
  have hA : 2 ^ a < 2 ^ eN E := Nat.pow_lt_pow_right (by omega) haE
  have hB : 2 ^ b < 2 ^ eN E := Nat.pow_lt_pow_right (by omega) hbE
  rw [p1, b_bit (by omega), b_bit (by omega), b_xor_nat (by omega) (by omega)]
  refine ⟨by omega, by omega, fun m1 e1 => ?_⟩
  have q1' : m1 7 b = (bb : Int) := by rw [e1, mI_ne (by omega)]; exact q1
  rw [q1', b_xor_nat (by omega) (by omega)]
  refine ⟨by omega, by omega, fun m2 e2 => ?_⟩
  have hk : Kp (fun z _ => z = 7) m m2 := by
    rw [e2, e1]
    have st : ∀ (m : MS) (k : Nat) (x : Int), Kp (fun z _ => z = 7) m (mI m 7 k x) := fun m k x => Kp.st (S := fun z _ => z = 7) rfl
    exact (st _ _ _).tr (st _ _ _)
  have hR2 : RepM (ePart E a b) m2 := by
    obtain ⟨r1, r2, r3, r4, r5⟩ := hR
    refine ⟨by rw [hk 0 2 (by omega)]; exact r1, fun i hi => ?_, by rw [hk 8 0 (by omega)]; exact r3, by rw [hk 8 1 (by omega)]; exact r4, by rw [hk 8 2 (by omega)]; exact r5⟩
    obtain ⟨a1, a2, a3, a4, a5, bi', a6, a7, a8⟩ := r2 i hi
    refine ⟨by rw [hk 2 i (by omega)]; exact a1, by rw [hk 3 i (by omega)]; exact a2, by rw [hk 4 i (by omega)]; exact a3, by rw [hk 5 i (by omega)]; exact a4, fun k hkl => by rw [hk 6 _ (by omega)]; exact a5 k hkl, ?_⟩
    show ∃ c : Nat, m2 7 i = (c : Int) ∧ c < 2 ^ eN E ∧ ∀ j, j < eN E → c.testBit j = (if (i = a ∧ j = b) ∨ (i = b ∧ j = a) then !eP E i j else eP E i j)
    by_cases c1 : i = b
    · subst c1
      refine ⟨bb ^^^ 2 ^ a, by rw [e2, mI_eq], Nat.xor_lt_two_pow q2 hA, fun j hj => ?_⟩
      rw [xor_bit, q3 j hj]
      by_cases c2 : j = a
      · rw [if_pos c2, if_pos (by omega)]
      · rw [if_neg c2, if_neg (by omega)]
    · by_cases c2 : i = a
      · subst c2
        refine ⟨ba ^^^ 2 ^ b, by rw [e2, mI_ne (by omega), e1, mI_eq], Nat.xor_lt_two_pow p2 hB, fun j hj => ?_⟩
        rw [xor_bit, p3 j hj]
        by_cases c3 : j = b
        · rw [if_pos c3, if_pos (by omega)]
        · rw [if_neg c3, if_neg (by omega)]
      · refine ⟨bi', by rw [e2, mI_ne (by omega), e1, mI_ne (by omega)]; exact a6, a7, fun j hj => ?_⟩
        rw [if_neg (by omega)]
        exact a8 j hj
  have hf := hgo m2 hR2 hk
  have hpv : eP (ePart E a b) a b = !eP E a b := by
    show (if (a = a ∧ b = b) ∨ (a = b ∧ b = a) then !eP E a b else eP E a b) = !eP E a b
    rw [if_pos (Or.inl ⟨rfl, rfl⟩)]
  refine M_parted hR2 (ePart_w hW hab) haE hbE (fun t => ?_) (fun t => ?_)
  · rw [hpv] at t
    rw [t] at hf
    exact ⟨⟨by decide, by decide⟩, fun z => absurd z (by decide), fun _ => hf⟩
  · rw [hpv] at t
    rw [t] at hf
    exact ⟨rng_0, fun _ => hf, fun z => absurd rfl z⟩
end MAA

/-! the class: part -/
theorem RegX_part {E : EE} {a b : Nat} {g g' : GS} (hR : RegX E g) (hW : WF E) (ha : a < eN E) (hb : b < eN E) (hab : a ≠ b) (hk : Kx (fun x k => ((x = sE g a ∨ x = sE g b) ∧ k = 7) ∨ (x = 0 ∧ k = 11)) g g') (h1 : ∀ i j, ((i = a ∧ j = b) ∨ (i = b ∧ j = a)) → ∀ c : Nat, g.1 (sE g i) 7 = (c : Int) → c < 2 ^ 18 → g'.1 (sE g i) 7 = ((c ^^^ 2 ^ g.2.1 j : Nat) : Int)) : RegX (ePart E a b) g' := by
  have h18 := hW.1
  obtain ⟨r1, r2, r3, r4, r5, r6, r7, r8, r9⟩ := hR
  obtain ⟨k1, k2⟩ := hk
  have e : g'.2.1 = g.2.1 := congrArg (fun z => z.1) k2
  have sa := r2 a (by omega)
  have sb := r2 b (by omega)
  have c0 : cK (ePart E a b) 0 (eN E) = cK E 0 (eN E) := cK_cg (E := E) (F := ePart E a b) 0 (fun _ => rfl) _
  have c1 : cK (ePart E a b) 1 (eN E) = cK E 1 (eN E) := cK_cg (E := E) (F := ePart E a b) 1 (fun _ => rfl) _
  have c2 : cK (ePart E a b) 2 (eN E) = cK E 2 (eN E) := cK_cg (E := E) (F := ePart E a b) 2 (fun _ => rfl) _
  unfold RegX RowX sE
  rw [e]
  unfold sE at k1 h1
  refine ⟨by rw [k1 _ _ (by omega)]; exact r1, r2, r3, fun s hs => by rw [k1 _ _ (by omega)]; exact r4 s hs, fun j hj => ?_, fun j l hj hl hn => ?_, ?_, ?_, ?_⟩
  · have hj : j < eN E := hj
    obtain ⟨a1, a2, a3, a4, a5, c, a6, a7, a8⟩ := r5 j hj
    have hs := r2 j (by omega)
    refine ⟨by rw [k1 _ _ (by omega)]; exact a1, by rw [k1 _ _ (by omega)]; exact a2, by rw [k1 _ _ (by omega)]; exact a3, by rw [k1 _ _ (by omega)]; exact a4, fun k hl => by rw [k1 _ _ (by omega)]; exact a5 k hl, ?_⟩
    have key : ∀ l, l < eN E → ((j = a ∧ l = b) ∨ (j = b ∧ l = a)) → ∃ d : Nat, g'.1 (11 + 3 * g.2.1 j) 7 = (d : Int) ∧ d < 2 ^ 18 ∧ ∀ x, x < 18 → d.testBit (g.2.1 x) = (decide (x < eN E) && (if (j = a ∧ x = b) ∨ (j = b ∧ x = a) then !eP E j x else eP E j x)) := by
      intro l hl hjl
      have sl := r2 l (by omega)
      refine ⟨c ^^^ 2 ^ g.2.1 l, h1 j l hjl c a6 a7, Nat.xor_lt_two_pow a7 (Nat.pow_lt_pow_right (by omega) sl), fun x hx => ?_⟩
      rw [xor_bit, a8 x hx]
      by_cases q : x = l
      · subst q
        rw [if_pos rfl, if_pos hjl, decide_eq_true hl]
        simp
      · rw [if_neg (fun z => q (r3 x l hx (by omega) z)), if_neg (by omega)]
    show ∃ d : Nat, g'.1 (11 + 3 * g.2.1 j) 7 = (d : Int) ∧ d < 2 ^ 18 ∧ ∀ x, x < 18 → d.testBit (g.2.1 x) = (decide (x < eN E) && (if (j = a ∧ x = b) ∨ (j = b ∧ x = a) then !eP E j x else eP E j x))
    by_cases q : j = a
    · exact key b hb (Or.inl ⟨q, rfl⟩)
    · by_cases q2 : j = b
      · exact key a ha (Or.inr ⟨q2, rfl⟩)
      · have n1 : g.2.1 j ≠ g.2.1 a := fun z => q (r3 j a (by omega) (by omega) z)
        have n2 : g.2.1 j ≠ g.2.1 b := fun z => q2 (r3 j b (by omega) (by omega) z)
        refine ⟨c, by rw [k1 _ _ (by omega)]; exact a6, a7, fun x hx => ?_⟩
        rw [a8 x hx, if_neg (by omega)]
  · have hj : j < eN E := hj
    have hs := r2 j (by omega)
    rw [k1 _ _ (by omega)]
    exact r6 j l hj hl hn
  · rw [k1 _ _ (by omega)]; show _ = ((cK (ePart E a b) 0 (eN E) : Nat) : Int); rw [c0]; exact r7
  · rw [k1 _ _ (by omega)]; show _ = ((cK (ePart E a b) 1 (eN E) : Nat) : Int); rw [c1]; exact r8
  · rw [k1 _ _ (by omega)]; show _ = ((cK (ePart E a b) 2 (eN E) : Nat) : Int); rw [c2]; exact r9
section XV
variable {P : Int → GS → Prop} {A : AA} {g : GS}
theorem K_part {x y : Int} (hR : RepX A g) (hW : WFA A) (rx : rng x) (ry : rng y) (hP : ∀ g', RepX (nPart A x y) g' → P (zPart A x y) g') : MXi mX9_part [vr 0, vi x, vi y] g P := by
  have h18 := hW.2.2.1.1
  unfold nPart zPart at hP
  refine uX9_part g x y ?_
  refine X_areTwo hR.1.2.2.1 hW.2.2.1 rx ry (fun a b ha hb haE hbE hab => ⟨⟨by decide, by decide⟩, fun _ g1 e1 => ?_, fun z => absurd z (by decide)⟩) (fun f => ⟨rng_0, fun z => absurd rfl z, fun _ => ?_⟩)
  · subst ha hb
    have hc : ¬ noTwo (pE A) (a : Int) (b : Int) := by
      rintro (h | h | h)
      · rw [inE_t haE] at h; cases h
      · rw [inE_t hbE] at h; cases h
      · omega
    rw [if_neg hc, if_neg hc] at hP
    simp only [Int.toNat_natCast] at hP ⊢
    have hR0 := hR.1.2.2.1
    have sa := hR0.2.1 a (by omega)
    have sb := hR0.2.1 b (by omega)
    have q : g1.2.1 = g.2.1 := by rw [e1]; rfl
    rw [q]
    refine ⟨by omega, by omega, sa, by omega, by omega, sb, ?_⟩
    obtain ⟨-, -, -, -, -, ca, p1, p2, p3⟩ := hR0.2.2.2.2.1 a haE
    obtain ⟨-, -, -, -, -, cb, q1, q2, q3⟩ := hR0.2.2.2.2.1 b hbE
    have nab : g.2.1 a ≠ g.2.1 b := fun z => hab (hR0.2.2.1 a b (by omega) (by omega) z)
    have l1 : 2 ^ g.2.1 a < 2 ^ 18 := Nat.pow_lt_pow_right (by omega) sa
    have l2 : 2 ^ g.2.1 b < 2 ^ 18 := Nat.pow_lt_pow_right (by omega) sb
    refine uX8_turnParted g1 _ sa _ sb (fun g2 e2 g3 e3 => ?_)
    have va : g1.1 (11 + 3 * g.2.1 a) 7 = (ca : Int) := by rw [e1, gI_ne (by omega)]; exact p1
    have vb : g2.1 (11 + 3 * g.2.1 b) 7 = (cb : Int) := by rw [e2, gI_ne (by omega), e1, gI_ne (by omega)]; exact q1
    have sl1 : g1.1 (11 + 3 * g.2.1 b) 0 = (g.2.1 b : Int) := by rw [e1, gI_ne (by omega)]; exact hR0.2.2.2.1 _ sb
    have sl2 : g2.1 (11 + 3 * g.2.1 a) 0 = (g.2.1 a : Int) := by rw [e2, gI_ne (by omega), e1, gI_ne (by omega)]; exact hR0.2.2.2.1 _ sa
    rw [va, sl1, b_bit (by omega), b_xor_nat (by omega) (by omega)] at e2
    rw [vb, sl2, b_bit (by omega), b_xor_nat (by omega) (by omega)] at e3
    have hk : Kx (fun x k => ((x = sE g a ∨ x = sE g b) ∧ k = 7) ∨ (x = 0 ∧ k = 11)) g g3 := by
      rw [e3, e2, e1]
      exact ((Kx.st (S := fun x k => ((x = sE g a ∨ x = sE g b) ∧ k = 7) ∨ (x = 0 ∧ k = 11)) (Or.inr ⟨rfl, rfl⟩)).tr (Kx.st (S := fun x k => ((x = sE g a ∨ x = sE g b) ∧ k = 7) ∨ (x = 0 ∧ k = 11)) (Or.inl ⟨Or.inl rfl, rfl⟩))).tr (Kx.st (S := fun x k => ((x = sE g a ∨ x = sE g b) ∧ k = 7) ∨ (x = 0 ∧ k = 11)) (Or.inl ⟨Or.inr rfl, rfl⟩))
    have hE : RegX (ePart (pE A) a b) g3 := by
      refine RegX_part hR0 hW.2.2.1 haE hbE hab hk (fun i j hij c hc hc18 => ?_)
      unfold sE at hc p1 q1 ⊢
      rcases hij with ⟨rfl, rfl⟩ | ⟨rfl, rfl⟩
      · rw [e3, gI_ne (by omega), e2, gI_eq]
        have : c = ca := by omega
        rw [this]
      · rw [e3, gI_eq]
        have : c = cb := by omega
        rw [this]
    have hX : RepX (setE A (ePart (pE A) a b)) g3 := by
      refine RepX_E hR (fun x k h => hk.1 x k h) (congrArg (fun z => z.2) hk.2) (fun x k h z => by unfold sE at z; omega) ?_ hE ?_
      · rw [e3, gI_ne (by omega), e2, gI_ne (by omega), e1, gI_eq]
      · obtain ⟨b1, b2, b3⟩ := hR.1.2.2.2.1
        exact ⟨by rw [hk.1 _ _ (by unfold sE; omega)]; exact b1, by rw [hk.1 _ _ (by unfold sE; omega)]; exact b2, by rw [hk.1 _ _ (by unfold sE; omega)]; exact b3⟩
    have hgo := hP g3 hX
    have hpv : eP (ePart (pE A) a b) a b = !eP (pE A) a b := by
      show (if (a = a ∧ b = b) ∨ (a = b ∧ b = a) then !eP (pE A) a b else eP (pE A) a b) = !eP (pE A) a b
      rw [if_pos (Or.inl ⟨rfl, rfl⟩)]
    have g3e : g3.2.1 = g.2.1 := congrArg (fun z => z.1) hk.2
    have hpt := X_parted (g := g3) (P := fun y8 g7 => (y8 = 0 ∨ y8 = 1) ∧ rng y8 ∧ (y8 = 0 → (P 0 g7)) ∧ (¬ y8 = 0 → (P 1 g7))) hE (ePart_w hW.2.2.1 hab) haE hbE (fun t => ?_) (fun t => ?_)
    · unfold sE at hpt
      rw [g3e] at hpt
      exact hpt
    · rw [hpv] at t
      rw [t] at hgo
      exact ⟨Or.inr rfl, ⟨by decide, by decide⟩, fun z => absurd z (by decide), fun _ => hgo⟩
    · rw [hpv] at t
      rw [t] at hgo
      exact ⟨Or.inl rfl, rng_0, fun _ => hgo, fun z => absurd rfl z⟩
  · rw [if_pos f, if_pos f] at hP
    exact hP g hR
end XV
/-! a bit is cleared -/
def bClr (b s : Nat) : Nat := (b ||| 2 ^ s) ^^^ 2 ^ s
theorem bClr_bit {b s i : Nat} : (bClr b s).testBit i = (decide (i ≠ s) && b.testBit i) := by
  unfold bClr
  rw [xor_bit, Nat.testBit_or]
  by_cases c : i = s
  · rw [if_pos c, c, Nat.testBit_two_pow_self]; simp
  · rw [if_neg c, Nat.testBit_two_pow_of_ne (fun z => c z.symm)]; simp [c]
theorem bClr_lt {b s n : Nat} (hb : b < 2 ^ n) (hs : s < n) : bClr b s < 2 ^ n := Nat.xor_lt_two_pow (Nat.or_lt_two_pow hb (Nat.pow_lt_pow_right (by omega) hs)) (Nat.pow_lt_pow_right (by omega) hs)
theorem m1_bits : ∀ i, i < 32 → (Int32.ofInt (-1)).toBitVec.getLsbD i = true := by decide +kernel
theorem oI_bit {n : Nat} (h : n < 2 ^ 31) (i : Nat) : (Int32.ofInt (n : Int)).toBitVec.getLsbD i = n.testBit i := by
  show (Int32.ofInt (n : Int)).toBitVec.toNat.testBit i = _
  rw [oI_bv h]
theorem b_clear {b s : Nat} (hb : b < 2 ^ 18) (hs : s < 18) : b_and (b : Int) (b_xor (b_shl 1 (s : Int)) (-1)) = ((bClr b s : Nat) : Int) := by
  have h2 : 2 ^ s < 2 ^ 18 := Nat.pow_lt_pow_right (by omega) hs
  have hl := bClr_lt hb hs
  rw [b_bit (by omega)]
  unfold b_and b_xor
  rw [Int32.ofInt_toInt]
  have e : Int32.ofInt (b : Int) &&& (Int32.ofInt ((2 ^ s : Nat) : Int) ^^^ Int32.ofInt (-1)) = Int32.ofInt ((bClr b s : Nat) : Int) := by
    apply Int32.toBitVec_inj.1
    apply BitVec.eq_of_getLsbD_eq
    intro i hi
    rw [Int32.toBitVec_and, Int32.toBitVec_xor, BitVec.getLsbD_and, BitVec.getLsbD_xor, oI_bit (by omega), oI_bit (by omega), oI_bit (by omega), m1_bits i hi, bClr_bit]
    by_cases c : i = s
    · rw [c, Nat.testBit_two_pow_self]; simp
    · rw [Nat.testBit_two_pow_of_ne (fun z => c z.symm)]; simp [c]
  rw [e, rng_to (rng_nat (by omega))]

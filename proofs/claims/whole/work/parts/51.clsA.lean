/-! THE CLASS: what of its state stays, and how it holds the ENTRIES -/
def Kx (S : Nat → Nat → Prop) (g g' : GS) : Prop := (∀ a k, ¬ S a k → g'.1 a k = g.1 a k) ∧ g'.2 = g.2
theorem Kx.rf {S : Nat → Nat → Prop} {g : GS} : Kx S g g := ⟨fun _ _ _ => rfl, rfl⟩
theorem Kx.tr {S : Nat → Nat → Prop} {g g1 g2 : GS} (h1 : Kx S g g1) (h2 : Kx S g1 g2) : Kx S g g2 := ⟨fun a k h => (h2.1 a k h).trans (h1.1 a k h), h2.2.trans h1.2⟩
theorem Kx.mo {S T : Nat → Nat → Prop} {g g' : GS} (h : Kx S g g') (hST : ∀ a k, S a k → T a k) : Kx T g g' := ⟨fun a k hn => h.1 a k (fun z => hn (hST a k z)), h.2⟩
theorem gI_eq {g : GS} {a k : Nat} {x : Int} : (gI g a k x).1 a k = x := by simp [gI]
theorem gI_ne {g : GS} {a k b j : Nat} {x : Int} (h : ¬ (b = a ∧ j = k)) : (gI g a k x).1 b j = g.1 b j := if_neg h
theorem gI_2 {g : GS} {a k : Nat} {x : Int} : (gI g a k x).2 = g.2 := rfl
theorem Kx.st {S : Nat → Nat → Prop} {g : GS} {a k : Nat} {x : Int} (h : S a k) : Kx S g (gI g a k x) := ⟨fun b j hn => by
  by_cases e : b = a ∧ j = k
  · obtain ⟨rfl, rfl⟩ := e
    exact absurd h hn
  · exact gI_ne e, rfl⟩
/-- the place of an entry -/
abbrev sE (g : GS) (i : Nat) : Nat := 11 + 3 * g.2.1 i
def RowX (E : EE) (g : GS) (i : Nat) : Prop := g.1 (sE g i) 3 = eL E i ∧ g.1 (sE g i) 4 = eK E i ∧ g.1 (sE g i) 5 = eY E i ∧ g.1 (sE g i) 6 = eA E i ∧ (∀ k : Nat, (k : Int) < eL E i → g.1 (12 + 3 * g.2.1 i) k = eW E i k) ∧ (∃ b : Nat, g.1 (sE g i) 7 = (b : Int) ∧ b < 2 ^ 18 ∧ (∀ j, j < 18 → b.testBit (g.2.1 j) = (decide (j < eN E) && eP E i j)))
def RegX (E : EE) (g : GS) : Prop := g.1 8 2 = (eN E : Int) ∧ (∀ i, i < 18 → g.2.1 i < 18) ∧ (∀ i j, i < 18 → j < 18 → g.2.1 i = g.2.1 j → i = j) ∧ (∀ s, s < 18 → g.1 (11 + 3 * s) 0 = (s : Int)) ∧ (∀ i, i < eN E → RowX E g i) ∧ (∀ i j, i < eN E → j < eN E → i ≠ j → g.1 (13 + 3 * g.2.1 i) (g.2.1 j) = sDi E i j) ∧ g.1 10 0 = (cK E 0 (eN E) : Int) ∧ g.1 10 1 = (cK E 1 (eN E) : Int) ∧ g.1 10 2 = (cK E 2 (eN E) : Int)
def BndX (E : EE) (g : GS) : Prop := g.1 0 7 = eB E 0 ∧ g.1 0 8 = eB E 1 ∧ g.1 0 9 = eB E 2
def coreX (a k : Nat) : Prop := (a = 0 ∧ 7 ≤ k ∧ k ≤ 9) ∨ (a = 8 ∧ k = 2) ∨ a = 10 ∨ (11 ≤ a ∧ a < 65 ∧ (a % 3 = 2 → k < 8))
theorem RegX.kx {E : EE} {S : Nat → Nat → Prop} {g g' : GS} (h : RegX E g) (hW : eN E ≤ 18) (hk : Kx S g g') (hS : ∀ a k, coreX a k → ¬ S a k) : RegX E g' := by
  obtain ⟨h1, h2, h3, h4, h5, h6, h7, h8, h9⟩ := h
  obtain ⟨k1, k2⟩ := hk
  have kk : ∀ a k, coreX a k → g'.1 a k = g.1 a k := fun a k c => k1 a k (hS a k c)
  have e : g'.2.1 = g.2.1 := congrArg (fun z => z.1) k2
  unfold RegX RowX sE
  rw [e]
  refine ⟨by rw [kk 8 2 (by unfold coreX; omega)]; exact h1, h2, h3, fun s hs => by rw [kk _ _ (by unfold coreX; omega)]; exact h4 s hs, fun i hi => ?_, fun i j hi hj hn => ?_, by rw [kk 10 _ (by unfold coreX; omega)]; exact h7, by rw [kk 10 _ (by unfold coreX; omega)]; exact h8, by rw [kk 10 _ (by unfold coreX; omega)]; exact h9⟩
  · obtain ⟨a1, a2, a3, a4, a5, b, a6, a7⟩ := h5 i hi
    have hs := h2 i (by omega)
    exact ⟨by rw [kk _ _ (by unfold coreX; omega)]; exact a1, by rw [kk _ _ (by unfold coreX; omega)]; exact a2, by rw [kk _ _ (by unfold coreX; omega)]; exact a3, by rw [kk _ _ (by unfold coreX; omega)]; exact a4, fun k hl => by rw [kk _ _ (by unfold coreX; omega)]; exact a5 k hl, b, by rw [kk _ _ (by unfold coreX; omega)]; exact a6, a7⟩
  · have hs := h2 i (by omega)
    rw [kk _ _ (by unfold coreX; omega)]
    exact h6 i j hi hj hn
theorem BndX.kx {E : EE} {S : Nat → Nat → Prop} {g g' : GS} (h : BndX E g) (hk : Kx S g g') (hS : ∀ a k, coreX a k → ¬ S a k) : BndX E g' := by
  obtain ⟨h1, h2, h3⟩ := h
  exact ⟨by rw [hk.1 0 7 (hS _ _ (by unfold coreX; omega))]; exact h1, by rw [hk.1 0 8 (hS _ _ (by unfold coreX; omega))]; exact h2, by rw [hk.1 0 9 (hS _ _ (by unfold coreX; omega))]; exact h3⟩
def BornX (E : EE) (g : GS) : Prop := ∀ i, i < eN E → g.1 (sE g i) 8 = sF E i ∧ g.1 (sE g i) 9 = sL E i
theorem BornX.kx {E : EE} {S : Nat → Nat → Prop} {g g' : GS} (h : BornX E g) (hR : RegX E g) (hW : eN E ≤ 18) (hk : Kx S g g') (hS : ∀ a k, (11 ≤ a ∧ a < 65) → ¬ S a k) : BornX E g' := by
  intro i hi
  obtain ⟨h1, h2⟩ := h i hi
  have hs := hR.2.1 i (by omega)
  unfold sE
  rw [show g'.2.1 = g.2.1 from congrArg (fun z => z.1) hk.2, hk.1 _ 8 (hS _ _ (by omega)), hk.1 _ 9 (hS _ _ (by omega))]
  exact ⟨h1, h2⟩
/-! two entries of the class -/
section XA
variable {P : Int → GS → Prop} {E : EE} {g : GS}
theorem X_dist {i j : Nat} (hR : RegX E g) (hW : WF E) (hi : i < eN E) (hj : j < eN E) (hn : i ≠ j) (hP : P (sDi E i j) g) : MXi mX0_distanceTo [vr (sE g i), vr (sE g j)] g P := by
  have h18 := hW.1
  have si := hR.2.1 i (by omega)
  have sj := hR.2.1 j (by omega)
  refine uX0_distanceTo g _ si _ sj ?_
  rw [hR.2.2.2.1 _ sj, Int.toNat_natCast, hR.2.2.2.2.2.1 i j hi hj hn]
  exact ⟨by omega, by omega, hP⟩
theorem X_like {i j : Nat} (hR : RegX E g) (hW : WF E) (hi : i < eN E) (hj : j < eN E) (hn : i ≠ j) (hP : P (sLk E i j) g) : MXi mX0_likenessTo [vr (sE g i), vr (sE g j)] g P := by
  have h18 := hW.1
  obtain ⟨a1, -⟩ := hR.2.2.2.2.1 i hi
  obtain ⟨b1, -⟩ := hR.2.2.2.2.1 j hj
  obtain ⟨-, -, -, w4, -⟩ := hW.2.1 i hi
  obtain ⟨-, -, -, v4, -⟩ := hW.2.1 j hj
  have hd := sDi_b hW hi hj
  refine uX0_likenessTo g _ (hR.2.1 i (by omega)) _ (hR.2.1 j (by omega)) ?_
  rw [a1, b1]
  refine ⟨⟨by omega, by omega⟩, ⟨by omega, by omega⟩, ⟨by omega, by omega⟩, ?_⟩
  refine X_dist hR hW hi hj hn ⟨⟨by omega, by omega⟩, ⟨by omega, by omega⟩, by omega, ?_⟩
  unfold sLk at hP
  rw [show max 1 (max (eL E i) (eL E j)) = max (eL E i) (eL E j) by omega]
  exact hP
theorem X_years {i j : Nat} (hR : RegX E g) (hB : BornX E g) (hW : WF E) (hi : i < eN E) (hj : j < eN E) (hP : P (sYr E i j) g) : MXi mX0_yearsWith [vr (sE g i), vr (sE g j)] g P := by
  have h18 := hW.1
  obtain ⟨a1, a2⟩ := hB i hi
  obtain ⟨b1, b2⟩ := hB j hj
  have h1 := sF_b hW hi
  have h2 := sF_b hW hj
  have h3 := sL_b hW hi
  have h4 := sL_b hW hj
  refine uX0_yearsWith g _ (hR.2.1 i (by omega)) _ (hR.2.1 j (by omega)) ?_
  rw [a1, a2, b1, b2]
  exact ⟨⟨by omega, by omega⟩, ⟨by omega, by omega⟩, ⟨by omega, by omega⟩, ⟨by omega, by omega⟩, ⟨by omega, by omega⟩, hP⟩
theorem X_parted {i j : Nat} (hR : RegX E g) (hW : WF E) (hi : i < eN E) (hj : j < eN E) (hT : eP E i j = true → P 1 g) (hF : eP E i j = false → P 0 g) : MXi mX0_isPartedFrom [vr (sE g i), vr (sE g j)] g P := by
  have h18 := hW.1
  obtain ⟨-, -, -, -, -, b, b1, b2, b3⟩ := hR.2.2.2.2.1 i hi
  have sj := hR.2.1 j (by omega)
  have hb : b < 2 ^ 31 := by omega
  refine uX0_isPartedFrom g _ (hR.2.1 i (by omega)) _ sj ?_
  rw [b1, hR.2.2.2.1 _ sj]
  have ht := b_test2 hb (k := g.2.1 j) (by omega)
  have hq := b3 j (by omega)
  rw [decide_eq_true hj, Bool.true_and] at hq
  rw [hq] at ht
  have hl : 2 ^ g.2.1 j < 2 ^ 18 := Nat.pow_lt_pow_right (by omega) sj
  refine ⟨?_, fun c => hF (ht.1 c), fun c => hT ?_⟩
  · rw [b_bit (by omega), b_and_nat hb (by omega)]
    have : b &&& 2 ^ g.2.1 j < 2 ^ 31 := Nat.and_lt_two_pow b (by omega)
    exact ⟨by omega, by omega⟩
  · cases hp : eP E i j
    · exact absurd (ht.2 hp) c
    · rfl
theorem X_order {i j : Nat} (hR : RegX E g) (hW : WF E) (hi : i < eN E) (hj : j < eN E) (hT : sO E i j = true → P 1 g) (hF : sO E i j = false → P 0 g) : MXi mX0_isInWrongOrderWith [vr (sE g i), vr (sE g j)] g P := by
  have h18 := hW.1
  obtain ⟨-, a2, a3, -⟩ := hR.2.2.2.2.1 i hi
  obtain ⟨-, b2, b3, -⟩ := hR.2.2.2.2.1 j hj
  obtain ⟨w1, w2, -⟩ := hW.2.1 i hi
  obtain ⟨v1, v2, -⟩ := hW.2.1 j hj
  refine uX0_isInWrongOrderWith g _ (hR.2.1 i (by omega)) _ (hR.2.1 j (by omega)) ?_
  rw [a2, a3, b3]
  unfold sO at hT hF
  unfold rng
  refine ⟨by omega, fun c => ⟨fun d => hF (by grind), fun d => ⟨by omega, by omega, fun z => hF (by grind), fun z => hT (by grind)⟩⟩, fun c => ⟨by omega, by omega, fun z => hT (by grind), fun z => ⟨fun d => hF (by grind), fun d => by omega⟩⟩⟩
end XA

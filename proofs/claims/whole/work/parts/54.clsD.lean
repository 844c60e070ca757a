/-! the class's match: the best -/
section XD
variable {P : Int → GS → Prop} {E : EE} {g : GS}
theorem X_fit {i j : Nat} (hX : PrX E g) (hW : WF E) (hi : i < eN E) (hj : j < eN E) (hn : i ≠ j) (hT : sFt E i j = true → sWo E i j ≠ -1 → P 1 g) (hF : sFt E i j = false → sWo E i j = -1 → P 0 g) : MXi mX6_fit [vr 65, vi (i : Int), vi (j : Int)] g P := by
  have h18 := hW.1
  have hb := sWo_b hW hi hj
  refine uX6_fit g _ _ ?_
  simp only [Int.toNat_natCast]
  rw [(hX.2.2 i j hi hj hn).2]
  refine ⟨by omega, by omega, by omega, by omega, ⟨by omega, by omega⟩, fun c => ?_, fun c => ?_⟩
  · refine hF ?_ c
    cases q : sFt E i j
    · rfl
    · have := (sWo_fit hW hi hj q).1
      omega
  · refine hT ?_ c
    cases q : sFt E i j
    · exact absurd (sWo_no q) c
    · rfl
theorem X_self {i : Nat} (hX : PrX E g) (hW : WF E) (hi : i < eN E) (hF : P 0 g) : MXi mX6_fit [vr 65, vi (i : Int), vi (i : Int)] g P := by
  have h18 := hW.1
  refine uX6_fit g _ _ ?_
  simp only [Int.toNat_natCast]
  rw [hX.2.1 i hi]
  exact ⟨by omega, by omega, by omega, by omega, ⟨by decide, by decide⟩, fun _ => hF, fun c => absurd rfl c⟩
theorem bd_neE {i k : Nat} (hi : i < nB E) (hk : k < nD E) : aB E i ≠ aD E k := bd_ne hi hk
theorem X_free {i k u : Nat} (hX : PrX E g) (hL : LKy E (eN E) g) (hW : WF E) (h7 : W7 E) (hi : i < nB E) (hk : k < nD E) (hu : u < 2 ^ nD E) (hT : u.testBit k = false → sWo E (aB E i) (aD E k) ≠ -1 → P 1 g) (hF : bV E i u k = -1 → P 0 g) : MXi mX3_isFree [vr 104, vi (i : Int), vi (k : Int), vi (u : Int), vr 65] g P := by
  have h2 := two_le h7
  have hpw : (0 : Int) ≤ ((2 ^ nD E : Nat) : Int) := Int.natCast_nonneg _
  have hB7 : nB E ≤ 7 := h7.1
  have hD7 : nD E ≤ 7 := h7.2.2
  refine uX3_isFree g _ _ _ ?_
  have ht := b_test2 (show u < 2 ^ 31 by omega) (k := k) (by omega)
  simp only [Int.toNat_natCast]
  rw [hL.2.2.1 i hi, hL.2.2.2 k hk]
  refine ⟨?_, fun c => hF ?_, fun c => ⟨by omega, by omega, by omega, by omega, ?_⟩⟩
  · have hl : 2 ^ k < 2 ^ 31 := Nat.pow_lt_pow_right (by omega) (by omega)
    rw [b_bit (by omega), b_and_nat (by omega) hl]
    have : u &&& 2 ^ k < 2 ^ 31 := Nat.and_lt_two_pow u hl
    exact ⟨by omega, by omega⟩
  · unfold bV bW
    rw [if_neg (fun z => c (ht.2 z.1))]
  · refine X_fit hX hW (aB_ok hi).1 (aD_ok hk).1 (bd_ne hi hk) (fun _ d => ⟨⟨by decide, by decide⟩, fun z => absurd z (by decide), fun _ => hT (ht.1 c) d⟩) (fun _ d => ⟨rng_0, fun _ => hF ?_, fun z => absurd rfl z⟩)
    unfold bV bW
    rw [if_neg (fun z => z.2 d)]
theorem X_with {i k u : Nat} (hX : PrX E g) (hL : LKy E (eN E) g) (hB : BRx E g (i + 1)) (hW : WF E) (h7 : W7 E) (hi : i < nB E) (hk : k < nD E) (hu : u < 2 ^ nD E) (hb : u.testBit k = false) (hw : sWo E (aB E i) (aD E k) ≠ -1) (hP : P (bV E i u k) g) : MXi mX3_worthWith [vr 104, vi (i : Int), vi (k : Int), vi (u : Int), vr 65] g P := by
  have h18 := hW.1
  have h2 := two_le h7
  have hpw : (0 : Int) ≤ ((2 ^ nD E : Nat) : Int) := Int.natCast_nonneg _
  have hB7 : nB E ≤ 7 := h7.1
  have hD7 : nD E ≤ 7 := h7.2.2
  obtain ⟨a1, -⟩ := aB_ok hi
  obtain ⟨d1, -⟩ := aD_ok hk
  have a1' : aK E 0 (eN E) i < eN E := a1
  have d1' : aK E 2 (eN E) k < eN E := d1
  have hl : 2 ^ k < 2 ^ nD E := Nat.pow_lt_pow_right (by omega) hk
  have ho : u ||| 2 ^ k < 2 ^ nD E := Nat.or_lt_two_pow hu hl
  refine uX3_worthWith g _ _ _ ?_
  rw [b_bit (by omega), b_or_nat (by omega) (by omega), show (i : Int) + 1 = ((i + 1 : Nat) : Int) by omega]
  simp only [Int.toNat_natCast]
  rw [hL.2.2.1 i hi, hL.2.2.2 k hk]
  simp only [Int.toNat_natCast]
  rw [(hX.2.2 _ _ a1 d1 (bd_ne hi hk)).2, hB _ ho]
  unfold bV bW at hP
  rw [if_pos ⟨hb, hw⟩] at hP
  exact ⟨by omega, by omega, by omega, by omega, by omega, by omega, by omega, by omega, by omega, by omega, by omega, by omega, hP⟩
theorem X_bestFrom {i u : Nat} (hX : PrX E g) (hL : LKy E (eN E) g) (hB : BRx E g (i + 1)) (hW : WF E) (h7 : W7 E) (hi : i < nB E) (hu : u < 2 ^ nD E) (hP : P (bE E (nB E - i) u) g) : MXi mX3_bestFrom [vr 104, vi (i : Int), vi (u : Int), vr 65] g P := by
  have h2 := two_le h7
  have hpw : (0 : Int) ≤ ((2 ^ nD E : Nat) : Int) := Int.natCast_nonneg _
  have hB7 : nB E ≤ 7 := h7.1
  have hD7 : nD E ≤ 7 := h7.2.2
  have loop : ∀ (t k : Nat), k + t = nD E → XXi mX3_bestFrom 15 [some (vr 104), some (vi (i : Int)), some (vi (u : Int)), some (vr 65), some (vi (bMM E i u k)), some (vi (k : Int))] [] g P := by
    intro t
    induction t with
    | zero =>
      intro k hk
      have hk : k = nD E := by omega
      subst hk
      refine uX3_bestFrom_15 g _ _ _ _ ?_
      rw [show g.1 104 6 = ((nD E : Nat) : Int) from hL.2.1]
      refine ⟨⟨by omega, by omega⟩, ⟨by omega, by omega⟩, fun _ => ?_, fun z => by omega⟩
      rw [← bE_at E hi]
      exact hP
    | succ t ih =>
      intro k hk
      have hkD : k < nD E := by omega
      have hh := ih (k + 1) (by omega)
      rw [bMM_s] at hh
      have b1 := bMM_b hW (u := u) hi (show k ≤ nD E by omega)
      have b2 := bV_b hW (u := u) hi hkD
      refine uX3_bestFrom_15 g _ _ _ _ ?_
      rw [show g.1 104 6 = ((nD E : Nat) : Int) from hL.2.1]
      refine ⟨⟨by omega, by omega⟩, ⟨by omega, by omega⟩, fun z => by omega, fun _ => ?_⟩
      refine X_free hX hL hW h7 hi hkD hu (fun c d => ⟨⟨by decide, by decide⟩, fun z => absurd z (by decide), fun _ => ?_⟩) (fun c => ⟨rng_0, fun _ => ?_, fun z => absurd rfl z⟩)
      · exact X_with hX hL hB hW h7 hi hkD hu c d ⟨⟨by omega, by omega⟩, ⟨by omega, by omega⟩, hh⟩
      · rw [c, show max (bMM E i u k) (-1) = bMM E i u k by omega] at hh
        exact hh
  refine uX3_bestFrom g _ _ ?_
  rw [show (i : Int) + 1 = ((i + 1 : Nat) : Int) by omega]
  simp only [Int.toNat_natCast]
  refine ⟨by omega, by omega, by omega, by omega, ?_⟩
  rw [hB u hu]
  exact loop (nD E) 0 (by omega)
end XD
section XD2
variable {P : GS → Prop} {E : EE}
theorem LKy.of {g g' : GS} (h : LKy E (eN E) g) (hk : ∀ k, g'.1 104 k = g.1 104 k) (h6 : ∀ k, g'.1 106 k = g.1 106 k) (h7 : ∀ k, g'.1 107 k = g.1 107 k) : LKy E (eN E) g' := by
  obtain ⟨l1, l2, l3, l4⟩ := h
  exact ⟨by rw [hk]; exact l1, by rw [hk]; exact l2, fun i hi => by rw [h6]; exact l3 i hi, fun i hi => by rw [h7]; exact l4 i hi⟩
/-- the state while the best are laid -/
def BXx (E : EE) (g0 g : GS) : Prop := Kx Sx104 g0 g ∧ LKx E (eN E) g
theorem BXx.st {g0 g : GS} (h : BXx E g0 g) {a k : Nat} {x : Int} (ha : 109 ≤ a ∧ a < 117) : BXx E g0 (gI g a k x) := by
  obtain ⟨hk, ⟨l1, l2, l3, l4⟩, l5⟩ := h
  exact ⟨hk.tr (Kx.st (by unfold Sx104; omega)), ⟨by rw [gI_ne (by omega)]; exact l1, by rw [gI_ne (by omega)]; exact l2, fun i hi => by rw [gI_ne (by omega)]; exact l3 i hi, fun i hi => by rw [gI_ne (by omega)]; exact l4 i hi⟩, fun e he => by rw [gI_ne (by omega)]; exact l5 e he⟩
theorem X_st19 (hW : WF E) (h7 : W7 E) {g0 : GS} (hX0 : PrX E g0) {i : Nat} (hi : i < nB E) (hP : ∀ g', BXx E g0 g' → (∀ j, i ≤ j → j ≤ nB E → BRx E g' j) → XXv mX3_settle 12 [some (vr 104), none, some (vr 65), some (vi ((i : Int) + (-1))), none] [] g' P) : ∀ (t u : Nat) (g : GS), u + t = 2 ^ nD E → BXx E g0 g → (∀ j, i + 1 ≤ j → j ≤ nB E → BRx E g j) → (∀ v, v < u → g.1 (109 + i) v = bE E (nB E - i) v) → XXv mX3_settle 19 [some (vr 104), none, some (vr 65), some (vi (i : Int)), some (vi (u : Int))] [] g P := by
  have h2 := two_le h7
  have hpw : (0 : Int) ≤ ((2 ^ nD E : Nat) : Int) := Int.natCast_nonneg _
  have hB7 : nB E ≤ 7 := h7.1
  have hD7 : nD E ≤ 7 := h7.2.2
  intro t
  induction t with
  | zero =>
    intro u g hu hb hr hv
    have hu : u = 2 ^ nD E := by omega
    subst hu
    refine uX3_settle_19 g _ _ ?_
    rw [show g.1 104 6 = ((nD E : Nat) : Int) from hb.2.1.2.1, b_bit (by omega)]
    refine ⟨⟨by omega, by omega⟩, ⟨by omega, by omega⟩, fun _ => hP g hb (fun j hj hj2 => ?_), fun z => by omega⟩
    by_cases c : j = i
    · rw [c]; exact hv
    · exact hr j (by omega) hj2
  | succ t ih =>
    intro u g hu hb hr hv
    refine uX3_settle_19 g _ _ ?_
    rw [show g.1 104 6 = ((nD E : Nat) : Int) from hb.2.1.2.1, b_bit (by omega)]
    simp only [Int.toNat_natCast]
    refine ⟨⟨by omega, by omega⟩, ⟨by omega, by omega⟩, fun z => by omega, fun _ => ⟨by omega, by omega, ?_⟩⟩
    refine X_bestFrom (hX0.k104 hW hb.1) hb.2.1 (hr (i + 1) (by omega) (by omega)) hW h7 hi (by omega) ⟨by omega, by omega, fun g1 e1 => ?_⟩
    refine ih (u + 1) g1 (by omega) (by rw [e1]; exact hb.st (by omega)) (fun j hj hj2 v hv2 => ?_) (fun v hv2 => ?_)
    · rw [e1, gI_ne (by omega)]; exact hr j hj hj2 v hv2
    · by_cases c : v = u
      · rw [c, e1, gI_eq]
      · rw [e1, gI_ne (by omega)]; exact hv v (by omega)
theorem X_st12 (hW : WF E) (h7 : W7 E) {g0 : GS} (hX0 : PrX E g0) (hP : ∀ g', BXx E g0 g' → (∀ j, j ≤ nB E → BRx E g' j) → MXv mX3_choose [vr 104, vr 65] g' P) : ∀ (i : Nat) (g : GS), i ≤ nB E → BXx E g0 g → (∀ j, i ≤ j → j ≤ nB E → BRx E g j) → XXv mX3_settle 12 [some (vr 104), none, some (vr 65), some (vi ((i : Int) + (-1))), none] [] g P := by
  have hB7 : nB E ≤ 7 := h7.1
  intro i
  induction i with
  | zero =>
    intro g hi hb hr
    refine uX3_settle_12 g _ ⟨⟨by omega, by omega⟩, fun _ => hP g hb (fun j hj => hr j (by omega) hj), fun z => by omega⟩
  | succ i ih =>
    intro g hi hb hr
    rw [show ((i + 1 : Nat) : Int) + (-1) = (i : Int) by omega]
    refine uX3_settle_12 g _ ⟨⟨by omega, by omega⟩, fun z => by omega, fun _ => ?_⟩
    exact X_st19 hW h7 hX0 (by omega) (fun g' hb' hr' => ih g' (by omega) hb' hr') (2 ^ nD E) 0 g (by omega) hb hr (fun v hv => absurd hv (Nat.not_lt_zero _))
end XD2

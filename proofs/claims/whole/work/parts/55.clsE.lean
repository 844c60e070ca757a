/-! the class's match: the choice -/
def MtX (E : EE) (g : GS) : Prop := (∀ e, e < eN E → g.1 105 e = sMt E e) ∧ g.1 104 1 = sPa E ∧ g.1 104 2 = sPw E
def CHx (E : EE) (g0 : GS) (i : Nat) (g : GS) : Prop := Kx Sx104 g0 g ∧ LKy E (eN E) g ∧ (∀ j, j ≤ nB E → BRx E g j) ∧ (∀ e, e < eN E → g.1 105 e = (cS E i).2.2 e) ∧ g.1 104 1 = ((cS E i).2.1 : Int) ∧ g.1 104 2 = sPw E
section XE
variable {P : GS → Prop} {E : EE}
theorem X_ch32 (hW : WF E) (h7 : W7 E) {g0 : GS} (hX0 : PrX E g0) {i : Nat} (hi : i < nB E) (kk : ∀ g', CHx E g0 (i + 1) g' → XXv mX3_choose 21 [some (vr 104), some (vr 65), some (vi ((cS E (i + 1)).1 : Int)), some (vi ((i : Int) + 1)), none] [] g' P) {g : GS} (hC : CHx E g0 i g) : ∀ (t k : Nat), k + t = nD E → cF (bV E i (cS E i).1) (bE E (nB E - i) (cS E i).1) t k = cT E i → XXv mX3_choose 32 [some (vr 104), some (vr 65), some (vi ((cS E i).1 : Int)), some (vi (i : Int)), some (vi (k : Int))] [] g P := by
  have h2 := two_le h7
  have hpw : (0 : Int) ≤ ((2 ^ nD E : Nat) : Int) := Int.natCast_nonneg _
  have hn := hW.1
  have hB7 : nB E ≤ 7 := h7.1
  have hD7 : nD E ≤ 7 := h7.2.2
  obtain ⟨v1, v2, v3, v4⟩ := MV_ok hW i (by omega)
  obtain ⟨a1, a2⟩ := aB_ok hi
  have hX := hX0.k104 hW hC.1
  intro t
  induction t with
  | zero =>
    intro k hk hc
    have hk : k = nD E := by omega
    subst hk
    have hc : nD E = cT E i := hc
    refine uX3_choose_32 g _ _ _ ?_
    rw [show g.1 104 6 = ((nD E : Nat) : Int) from hC.2.1.2.1]
    refine ⟨⟨by omega, by omega⟩, ⟨by omega, by omega⟩, fun _ => ?_, fun z => by omega⟩
    have he := cS_no (E := E) (i := i) (by omega)
    rw [← he]
    refine kk g ?_
    unfold CHx
    rw [he]
    exact hC
  | succ t ih =>
    intro k hk hc
    have hkD : k < nD E := by omega
    refine uX3_choose_32 g _ _ _ ?_
    rw [show g.1 104 6 = ((nD E : Nat) : Int) from hC.2.1.2.1]
    refine ⟨⟨by omega, by omega⟩, ⟨by omega, by omega⟩, fun z => by omega, fun _ => ?_⟩
    have b1 := bV_b hW (u := (cS E i).1) hi hkD
    have b2 := bE_b hW (nB E - i) (by omega) (cS E i).1
    obtain ⟨d1, d2⟩ := aD_ok hkD
    have next : bV E i (cS E i).1 k ≠ bE E (nB E - i) (cS E i).1 → XXv mX3_choose 32 [some (vr 104), some (vr 65), some (vi ((cS E i).1 : Int)), some (vi (i : Int)), some (vi ((k : Int) + 1))] [] g P := by
      intro c
      rw [cF, if_neg c] at hc
      exact ih (k + 1) (by omega) hc
    refine X_free hX hC.2.1 hW h7 hi hkD v1 (fun f1 f2 => ⟨⟨by decide, by decide⟩, fun z => absurd z (by decide), fun _ => ?_⟩) (fun c => ⟨rng_0, fun _ => next (by rw [c]; omega), fun z => absurd rfl z⟩)
    refine X_with hX hC.2.1 (hC.2.2.1 (i + 1) (by omega)) hW h7 hi hkD v1 f1 f2 ?_
    obtain ⟨hk0, ⟨l1, l2, l3, l4⟩, p2, p3, p4, p5⟩ := hC
    have l3' : g.1 106 i = (aB E i : Int) := l3 i hi
    have l4' : g.1 107 k = (aD E k : Int) := l4 k hkD
    simp only [Int.toNat_natCast]
    rw [p2 i (by omega) _ v1, l3', l4']
    simp only [Int.toNat_natCast]
    refine ⟨by omega, by omega, by omega, by omega, ⟨by omega, by omega⟩, ⟨by omega, by omega⟩, next, fun c => ⟨by omega, by omega, by omega, by omega, by omega, fun g2 e2 => ?_⟩⟩
    have hT : k = cT E i := by rw [← hc, cF, if_pos c]
    have hy := cS_yes (E := E) (i := i) (by omega)
    rw [← hT] at hy
    have q1 : g2.1 107 k = (aD E k : Int) := by rw [e2, gI_ne (by omega)]; exact l4'
    have q2 : g2.1 106 i = (aB E i : Int) := by rw [e2, gI_ne (by omega)]; exact l3'
    rw [q1, q2, Int.toNat_natCast]
    refine ⟨by omega, by omega, fun g3 e3 g4 e4 => ?_⟩
    have hp : 2 ^ k < 2 ^ nD E := Nat.pow_lt_pow_right (by omega) hkD
    rw [b_bit (by omega), b_or_nat (by omega) (by omega)]
    have hbd : aB E i ≠ aD E k := bd_ne hi hkD
    have hgo := kk g4 ?_
    · rw [hy] at hgo
      exact hgo
    · refine ⟨hk0.tr ?_, ⟨?_, ?_, fun j hj => ?_, fun j hj => ?_⟩, fun j hj u hu => ?_, fun e he => ?_, ?_, ?_⟩
      · rw [e4, e3, e2]; exact ((Kx.st (by unfold Sx104; omega)).tr (Kx.st (by unfold Sx104; omega))).tr (Kx.st (by unfold Sx104; omega))
      · rw [e4, gI_ne (by omega), e3, gI_ne (by omega), e2, gI_ne (by omega)]; exact l1
      · rw [e4, gI_ne (by omega), e3, gI_ne (by omega), e2, gI_ne (by omega)]; exact l2
      · rw [e4, gI_ne (by omega), e3, gI_ne (by omega), e2, gI_ne (by omega)]; exact l3 j hj
      · rw [e4, gI_ne (by omega), e3, gI_ne (by omega), e2, gI_ne (by omega)]; exact l4 j hj
      · rw [e4, gI_ne (by omega), e3, gI_ne (by omega), e2, gI_ne (by omega)]; exact p2 j hj u hu
      · rw [hy, e4, gI_ne (by omega)]
        simp only
        by_cases c1 : e = aD E k
        · rw [if_pos c1, c1, e3, gI_eq]
        · rw [if_neg c1, e3, gI_ne (by omega)]
          by_cases c2 : e = aB E i
          · rw [if_pos c2, c2, e2, gI_eq]
          · rw [if_neg c2, e2, gI_ne (by omega)]
            exact p3 e he
      · rw [hy, e4, gI_eq, e3, gI_ne (by omega), e2, gI_ne (by omega), p4]
        simp only
        omega
      · rw [e4, gI_ne (by omega), e3, gI_ne (by omega), e2, gI_ne (by omega)]; exact p5
theorem X_ch21 (hW : WF E) (h7 : W7 E) {g0 : GS} (hX0 : PrX E g0) (hP : ∀ g', Kx Sx104 g0 g' → MtX E g' → P g') : ∀ (t i : Nat) (g : GS), i + t = nB E → CHx E g0 i g → XXv mX3_choose 21 [some (vr 104), some (vr 65), some (vi ((cS E i).1 : Int)), some (vi (i : Int)), none] [] g P := by
  have hB7 : nB E ≤ 7 := h7.1
  intro t
  induction t with
  | zero =>
    intro i g hi hC
    have hi : i = nB E := by omega
    subst hi
    refine uX3_choose_21 g _ _ ?_
    rw [show g.1 104 5 = ((nB E : Nat) : Int) from hC.2.1.1]
    exact ⟨⟨by omega, by omega⟩, ⟨by omega, by omega⟩, fun _ => hP g hC.1 ⟨hC.2.2.2.1, hC.2.2.2.2.1, hC.2.2.2.2.2⟩, fun z => by omega⟩
  | succ t ih =>
    intro i g hi hC
    refine uX3_choose_21 g _ _ ?_
    rw [show g.1 104 5 = ((nB E : Nat) : Int) from hC.2.1.1]
    refine ⟨⟨by omega, by omega⟩, ⟨by omega, by omega⟩, fun z => by omega, fun _ => ?_⟩
    exact X_ch32 hW h7 hX0 (show i < nB E by omega) (fun g' hC' => ih (i + 1) g' (by omega) hC') hC (nD E) 0 (by omega) rfl
theorem X_match (hW : WF E) (h7 : W7 E) {g : GS} (hR : RegX E g) (hX : PrX E g) (hP : ∀ g', Kx Sx104 g g' → MtX E g' → P g') : MXv mX3_settle [vr 104, vr 8, vr 65] g P := by
  have hB7 : nB E ≤ 7 := h7.1
  refine uX3_settle g ?_
  refine X_list hW h7 hR (fun g1 k1 hL1 hB1 => ?_)
  rw [show g1.1 104 5 = ((nB E : Nat) : Int) from hL1.1.1, show ((nB E : Nat) : Int) - 1 = ((nB E : Nat) : Int) + (-1) by omega]
  refine X_st12 hW h7 hX (fun g2 hb2 hr2 => ?_) (nB E) g1 (Nat.le_refl _) ⟨k1, hL1⟩ (fun j hj hj2 => ?_)
  · obtain ⟨k2, ⟨l1, l2, l3, l4⟩, l5⟩ := hb2
    refine uX3_choose g2 (fun g3 e3 g4 e4 => ?_)
    have hz : g3.1 109 0 = sPw E := by
      rw [e3, gI_ne (by omega)]
      exact hr2 0 (by omega) 0 (Nat.two_pow_pos _)
    refine X_ch21 hW h7 hX hP (nB E) 0 g4 (by omega) ⟨k2.tr ?_, ⟨?_, ?_, fun j hj => ?_, fun j hj => ?_⟩, fun j hj u hu => ?_, fun e he => ?_, ?_, ?_⟩
    · rw [e4, e3]; exact (Kx.st (by unfold Sx104; omega)).tr (Kx.st (by unfold Sx104; omega))
    · rw [e4, gI_ne (by omega), e3, gI_ne (by omega)]; exact l1
    · rw [e4, gI_ne (by omega), e3, gI_ne (by omega)]; exact l2
    · rw [e4, gI_ne (by omega), e3, gI_ne (by omega)]; exact l3 j hj
    · rw [e4, gI_ne (by omega), e3, gI_ne (by omega)]; exact l4 j hj
    · rw [e4, gI_ne (by omega), e3, gI_ne (by omega)]; exact hr2 j hj u hu
    · rw [e4, gI_ne (by omega), e3, gI_ne (by omega)]; exact l5 e he
    · rw [e4, gI_ne (by omega), e3, gI_eq]; rfl
    · rw [e4, gI_eq]; exact hz
  · rw [show j = nB E by omega]; exact hB1
end XE

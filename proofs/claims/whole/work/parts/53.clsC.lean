/-! the class's match: the lists -/
def Sx104 (a _ : Nat) : Prop := 104 ≤ a ∧ a < 117
def LKy (E : EE) (n : Nat) (g : GS) : Prop := g.1 104 5 = (cK E 0 n : Int) ∧ g.1 104 6 = (cK E 2 n : Int) ∧ (∀ i, i < cK E 0 n → g.1 106 i = (aK E 0 n i : Int)) ∧ (∀ i, i < cK E 2 n → g.1 107 i = (aK E 2 n i : Int))
def LKx (E : EE) (n : Nat) (g : GS) : Prop := LKy E n g ∧ (∀ e, e < n → g.1 105 e = -1)
/-- a row of best is right -/
def BRx (E : EE) (g : GS) (i : Nat) : Prop := ∀ u, u < 2 ^ nD E → g.1 (109 + i) u = bE E (nB E - i) u
section XC
variable {P : GS → Prop} {E : EE}
theorem RegX.k104 {g g' : GS} (h : RegX E g) (hW : WF E) (hk : Kx Sx104 g g') : RegX E g' := h.kx hW.1 hk (fun a k c z => by unfold coreX at c; unfold Sx104 at z; omega)
theorem PrX.k104 {g g' : GS} (h : PrX E g) (hW : WF E) (hk : Kx Sx104 g g') : PrX E g' := by
  have h18 := hW.1
  obtain ⟨h1, h2, h3⟩ := h
  refine ⟨by rw [hk.1 _ _ (by unfold Sx104; omega)]; exact h1, fun i hi => by rw [hk.1 _ _ (by unfold Sx104; omega)]; exact h2 i hi, fun i j hi hj hn => ?_⟩
  unfold PairX
  rw [hk.1 _ _ (by unfold Sx104; omega), hk.1 _ _ (by unfold Sx104; omega)]
  exact h3 i j hi hj hn
theorem X_list115 (hW : WF E) (h7 : W7 E) {g0 : GS} (hP : ∀ g', Kx Sx104 g0 g' → LKx E (eN E) g' → BRx E g' (nB E) → P g') : ∀ (t u : Nat) (g : GS), u + t = 2 ^ nD E → Kx Sx104 g0 g → LKx E (eN E) g → (∀ v, v < u → g.1 (109 + nB E) v = 0) → XXv mX3_list 115 [some (vr 104), none, some (vi (u : Int)), none] [] g P := by
  have h2 := two_le h7
  have hpw : (0 : Int) ≤ ((2 ^ nD E : Nat) : Int) := Int.natCast_nonneg _
  have hB7 : nB E ≤ 7 := h7.1
  have hD7 : nD E ≤ 7 := h7.2.2
  intro t
  induction t with
  | zero =>
    intro u g hu hk hL hr
    have hu : u = 2 ^ nD E := by omega
    subst hu
    refine uX3_list_115 g _ ?_
    rw [show g.1 104 6 = ((nD E : Nat) : Int) from hL.1.2.1, b_bit (by omega)]
    refine ⟨⟨by omega, by omega⟩, ⟨by omega, by omega⟩, fun _ => hP g hk hL (fun v hv => ?_), fun z => by omega⟩
    rw [hr v hv, show nB E - nB E = 0 by omega]
    rfl
  | succ t ih =>
    intro u g hu hk hL hr
    refine uX3_list_115 g _ ?_
    rw [show g.1 104 6 = ((nD E : Nat) : Int) from hL.1.2.1, show g.1 104 5 = ((nB E : Nat) : Int) from hL.1.1, b_bit (by omega)]
    simp only [Int.toNat_natCast]
    refine ⟨⟨by omega, by omega⟩, ⟨by omega, by omega⟩, fun z => by omega, fun _ => ⟨by omega, by omega, by omega, by omega, fun g1 e1 => ?_⟩⟩
    obtain ⟨⟨l1, l2, l3, l4⟩, l5⟩ := hL
    refine ih (u + 1) g1 (by omega) (hk.tr (by rw [e1]; exact Kx.st (by unfold Sx104; omega))) ⟨⟨by rw [e1, gI_ne (by omega)]; exact l1, by rw [e1, gI_ne (by omega)]; exact l2, fun i hi => by rw [e1, gI_ne (by omega)]; exact l3 i hi, fun i hi => by rw [e1, gI_ne (by omega)]; exact l4 i hi⟩, fun e he => by rw [e1, gI_ne (by omega)]; exact l5 e he⟩ (fun v hv => ?_)
    by_cases c : v = u
    · rw [c, e1, gI_eq]
    · rw [e1, gI_ne (by omega)]; exact hr v (by omega)
theorem X_list12 (hW : WF E) (h7 : W7 E) {g0 : GS} (hR0 : RegX E g0) (hP : ∀ g', Kx Sx104 g0 g' → LKx E (eN E) g' → BRx E g' (nB E) → P g') : ∀ (t i : Nat) (g : GS), i + t = eN E → Kx Sx104 g0 g → LKx E i g → XXv mX3_list 12 [some (vr 104), some (vr 8), some (vi (i : Int)), none] [] g P := by
  have hn := hW.1
  intro t
  induction t with
  | zero =>
    intro i g hi hk hL
    have hi : i = eN E := by omega
    subst hi
    refine uX3_list_12 g _ ?_
    rw [(hR0.k104 hW hk).1]
    exact ⟨⟨by omega, by omega⟩, ⟨by omega, by omega⟩, fun _ => X_list115 hW h7 hP (2 ^ nD E) 0 g (by omega) hk hL (fun v hv => absurd hv (Nat.not_lt_zero _)), fun z => by omega⟩
  | succ t ih =>
    intro i g hi hk hL
    have hR := hR0.k104 hW hk
    obtain ⟨-, a2, -⟩ := hR.2.2.2.2.1 i (by omega)
    obtain ⟨w1, -⟩ := hW.2.1 i (by omega)
    have hs := hR.2.1 i (by omega)
    obtain ⟨⟨l1, l2, l3, l4⟩, l5⟩ := hL
    have b0 : cK E 0 (i + 1) ≤ 7 := Nat.le_trans (cK_mono E 0 (by omega)) h7.1
    have b2 : cK E 2 (i + 1) ≤ 7 := Nat.le_trans (cK_mono E 2 (by omega)) h7.2.2
    refine uX3_list_12 g _ ?_
    rw [hR.1]
    simp only [Int.toNat_natCast]
    refine ⟨⟨by omega, by omega⟩, ⟨by omega, by omega⟩, fun z => by omega, fun _ => ⟨by omega, by omega, fun g1 e1 => ?_⟩⟩
    have q2 : g1.2.1 = g.2.1 := by rw [e1]; rfl
    have k1 : Kx Sx104 g0 g1 := hk.tr (by rw [e1]; exact Kx.st (by unfold Sx104; omega))
    have qk : g1.1 (11 + 3 * g1.2.1 i) 4 = eK E i := by rw [q2, e1, gI_ne (by omega)]; exact a2
    have m1 : g1.1 104 5 = (cK E 0 i : Int) := by rw [e1, gI_ne (by omega)]; exact l1
    have m2 : g1.1 104 6 = (cK E 2 i : Int) := by rw [e1, gI_ne (by omega)]; exact l2
    have m3 : ∀ j, j < cK E 0 i → g1.1 106 j = (aK E 0 i j : Int) := fun j hj => by rw [e1, gI_ne (by omega)]; exact l3 j hj
    have m4 : ∀ j, j < cK E 2 i → g1.1 107 j = (aK E 2 i j : Int) := fun j hj => by rw [e1, gI_ne (by omega)]; exact l4 j hj
    have m5 : ∀ e, e < i + 1 → g1.1 105 e = -1 := fun e he => by
      by_cases c : e = i
      · rw [c, e1, gI_eq]
      · rw [e1, gI_ne (by omega)]; exact l5 e (by omega)
    rw [qk, m1, m2]
    simp only [Int.toNat_natCast]
    refine ⟨by rw [q2]; exact hs, ⟨by omega, by omega⟩, fun c => ⟨fun d => ?_, fun d => ?_⟩, fun c => ?_⟩
    · refine ih (i + 1) g1 (by omega) k1 ⟨⟨by rw [cK, if_neg c]; exact m1, by rw [cK, if_neg d]; exact m2, fun j hj => ?_, fun j hj => ?_⟩, m5⟩
      · rw [cK, if_neg c] at hj
        rw [aK, if_neg (fun z => c z.1)]
        exact m3 j hj
      · rw [cK, if_neg d] at hj
        rw [aK, if_neg (fun z => d z.1)]
        exact m4 j hj
    · have h1 : cK E 2 (i + 1) = cK E 2 i + 1 := by rw [cK, if_pos d]
      refine ⟨⟨by omega, by omega⟩, fun z => by omega, fun _ => ⟨by omega, by omega, fun g2 e2 g3 e3 => ?_⟩⟩
      refine ih (i + 1) g3 (by omega) (k1.tr ?_) ⟨⟨?_, ?_, fun j hj => ?_, fun j hj => ?_⟩, fun e he => ?_⟩
      · rw [e3, e2]; exact (Kx.st (by unfold Sx104; omega)).tr (Kx.st (by unfold Sx104; omega))
      · rw [cK, if_neg c, e3, gI_ne (by omega), e2, gI_ne (by omega)]; exact m1
      · rw [e3, gI_eq, e2, gI_ne (by omega), m2, h1]; omega
      · rw [cK, if_neg c] at hj
        rw [aK, if_neg (fun z => c z.1), e3, gI_ne (by omega), e2, gI_ne (by omega)]
        exact m3 j hj
      · rw [e3, gI_ne (by omega), aK, e2]
        by_cases q : cK E 2 i = j
        · rw [if_pos ⟨d, q⟩, q, gI_eq]
        · rw [if_neg (fun z => q z.2), gI_ne (by omega)]
          exact m4 j (by omega)
      · rw [e3, gI_ne (by omega), e2, gI_ne (by omega)]; exact m5 e he
    · have h1 : cK E 0 (i + 1) = cK E 0 i + 1 := by rw [cK, if_pos c]
      have d : ¬ eK E i = 2 := by omega
      refine ⟨⟨by omega, by omega⟩, fun z => by omega, fun _ => ⟨by omega, by omega, fun g2 e2 g3 e3 => ?_⟩⟩
      refine ih (i + 1) g3 (by omega) (k1.tr ?_) ⟨⟨?_, ?_, fun j hj => ?_, fun j hj => ?_⟩, fun e he => ?_⟩
      · rw [e3, e2]; exact (Kx.st (by unfold Sx104; omega)).tr (Kx.st (by unfold Sx104; omega))
      · rw [e3, gI_eq, e2, gI_ne (by omega), m1, h1]; omega
      · rw [cK, if_neg d, e3, gI_ne (by omega), e2, gI_ne (by omega)]; exact m2
      · rw [e3, gI_ne (by omega), aK, e2]
        by_cases q : cK E 0 i = j
        · rw [if_pos ⟨c, q⟩, q, gI_eq]
        · rw [if_neg (fun z => q z.2), gI_ne (by omega)]
          exact m3 j (by omega)
      · rw [cK, if_neg d] at hj
        rw [aK, if_neg (fun z => d z.1), e3, gI_ne (by omega), e2, gI_ne (by omega)]
        exact m4 j hj
      · rw [e3, gI_ne (by omega), e2, gI_ne (by omega)]; exact m5 e he
theorem X_list (hW : WF E) (h7 : W7 E) {g : GS} (hR : RegX E g) (hP : ∀ g', Kx Sx104 g g' → LKx E (eN E) g' → BRx E g' (nB E) → P g') : MXv mX3_list [vr 104, vr 8] g P := by
  refine uX3_list g (fun g1 e1 g2 e2 => ?_)
  refine X_list12 hW h7 hR hP (eN E) 0 g2 (by omega) ?_ ⟨⟨?_, ?_, fun i hi => absurd hi (Nat.not_lt_zero _), fun i hi => absurd hi (Nat.not_lt_zero _)⟩, fun e he => absurd he (Nat.not_lt_zero _)⟩
  · rw [e2, e1]; exact (Kx.st (by unfold Sx104; omega)).tr (Kx.st (by unfold Sx104; omega))
  · rw [e2, gI_ne (by omega), e1, gI_eq]; rfl
  · rw [e2, gI_eq]; rfl
end XC

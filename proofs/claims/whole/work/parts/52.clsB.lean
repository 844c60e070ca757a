/-! the class: why, the pairs' tables -/
def PairX (E : EE) (g : GS) (i j : Nat) : Prop := g.1 (67 + i) j = sWh E i j ∧ g.1 (86 + i) j = sWo E i j
theorem sWo_sym {E : EE} {i j : Nat} (hp : eP E i j = eP E j i) : sWo E i j = sWo E j i := by unfold sWo; rw [sWh_sym hp, sLk_sym, sYr_sym]
section XB
variable {P : Int → GS → Prop} {E : EE} {g : GS}
theorem X_why16 {i j : Nat} (hR : RegX E g) (hB : BornX E g) (hW : WF E) (hi : i < eN E) (hj : j < eN E) (hn : i ≠ j) (h0 : ¬ (eK E i = 0 ∧ eK E j = 0)) (hP : P (sWh E i j) g) : XXi mX6_whyNot 16 [some (vr (sE g i)), some (vr (sE g j)), some (vi (eB E 0))] [] g P := by
  have h18 := hW.1
  obtain ⟨-, a2, -⟩ := hR.2.2.2.2.1 i hi
  obtain ⟨-, b2, -⟩ := hR.2.2.2.2.1 j hj
  obtain ⟨w1, -⟩ := hW.2.1 i hi
  obtain ⟨v1, -⟩ := hW.2.1 j hj
  have hy := sYr_b hW hi hj
  have hl := sLk_b hW hi hj
  obtain ⟨l1, l2⟩ := hW.2.2.2.2.1
  unfold sWh at hP
  rw [if_neg h0] at hP
  have rest : ¬ (eK E i = 2 ∧ eK E j = 2) → MXi mX0_isPartedFrom [vr (sE g i), vr (sE g j)] g (fun y3 g2 => rng y3 ∧ (y3 = 0 → (MXi mX0_isInWrongOrderWith [vr (sE g i), vr (sE g j)] g2 (fun y6 g5 => rng y6 ∧ (¬ y6 = 0 → (P 4 g5)) ∧ (y6 = 0 → (MXi mX0_isInWrongOrderWith [vr (sE g j), vr (sE g i)] g5 (fun y9 g8 => rng y9 ∧ (y9 = 0 → (MXi mX0_yearsWith [vr (sE g i), vr (sE g j)] g8 (fun y12 g11 => rng y12 ∧ (¬ y12 = 0 → (MXi mX0_likenessTo [vr (sE g i), vr (sE g j)] g11 (fun y15 g14 => rng y15 ∧ rng (eB E 0) ∧ (eB E 0 ≤ y15 → (P 0 g14)) ∧ (y15 < eB E 0 → (P 6 g14))))) ∧ (y12 = 0 → (P 5 g11))))) ∧ (¬ y9 = 0 → (P 4 g8)))))))) ∧ (¬ y3 = 0 → (P 3 g2))) := by
    intro hd
    rw [if_neg hd] at hP
    refine X_parted hR hW hi hj (fun p => ?_) (fun p => ?_)
    · rw [if_pos p] at hP
      exact ⟨⟨by decide, by decide⟩, fun z => absurd z (by decide), fun _ => hP⟩
    · rw [if_neg (by rw [p]; decide)] at hP
      refine ⟨rng_0, fun _ => ?_, fun z => absurd rfl z⟩
      refine X_order hR hW hi hj (fun o => ?_) (fun o => ?_)
      · rw [if_pos (Or.inl o)] at hP
        exact ⟨⟨by decide, by decide⟩, fun _ => hP, fun z => absurd z (by decide)⟩
      · refine ⟨rng_0, fun z => absurd rfl z, fun _ => ?_⟩
        refine X_order hR hW hj hi (fun o' => ?_) (fun o' => ?_)
        · rw [if_pos (Or.inr o')] at hP
          exact ⟨⟨by decide, by decide⟩, fun z => absurd z (by decide), fun _ => hP⟩
        · rw [if_neg (by rw [o, o']; decide)] at hP
          refine ⟨rng_0, fun _ => ?_, fun z => absurd rfl z⟩
          refine X_years hR hB hW hi hj ⟨⟨by omega, by omega⟩, fun c => ?_, fun c => ?_⟩
          · rw [if_neg c] at hP
            refine X_like hR hW hi hj hn ⟨⟨by omega, by omega⟩, ⟨by omega, by omega⟩, fun d => ?_, fun d => ?_⟩
            · rw [if_neg (by omega)] at hP; exact hP
            · rw [if_pos d] at hP; exact hP
          · rw [if_pos c] at hP; exact hP
  refine uX6_whyNot_16 g _ (hR.2.1 i (by omega)) _ (hR.2.1 j (by omega)) _ ?_
  rw [a2, b2]
  refine ⟨⟨by omega, by omega⟩, fun c => rest (fun z => c z.1), fun c => ⟨⟨by omega, by omega⟩, fun d => rest (fun z => d z.2), fun d => ?_⟩⟩
  rw [if_pos ⟨c, d⟩] at hP
  exact hP
theorem X_why {i j : Nat} (hR : RegX E g) (hB : BornX E g) (hW : WF E) (hi : i < eN E) (hj : j < eN E) (hn : i ≠ j) (hP : P (sWh E i j) g) : MXi mX6_whyNot [vr (sE g i), vr (sE g j), vi (eB E 0)] g P := by
  have h18 := hW.1
  obtain ⟨-, a2, -⟩ := hR.2.2.2.2.1 i hi
  obtain ⟨-, b2, -⟩ := hR.2.2.2.2.1 j hj
  obtain ⟨w1, -⟩ := hW.2.1 i hi
  obtain ⟨v1, -⟩ := hW.2.1 j hj
  refine uX6_whyNot g _ (hR.2.1 i (by omega)) _ (hR.2.1 j (by omega)) _ ?_
  rw [a2, b2]
  refine ⟨⟨by omega, by omega⟩, fun c => X_why16 hR hB hW hi hj hn (fun z => c z.1) hP, fun c => ⟨⟨by omega, by omega⟩, fun d => X_why16 hR hB hW hi hj hn (fun z => d z.2) hP, fun d => ?_⟩⟩
  unfold sWh at hP
  rw [if_pos ⟨c, d⟩] at hP
  exact hP
end XB
section XB2
variable {P : GS → Prop} {E : EE} {g : GS}
/-- what the pairs' tables alone may have changed -/
def Sx65 (a _ : Nat) : Prop := 65 ≤ a ∧ a < 104
theorem X_two {i j : Nat} (hR : RegX E g) (hB : BornX E g) (hW : WF E) (hi : i < eN E) (hj : j < eN E) (hn : i ≠ j) (hP : ∀ g', Kx Sx65 g g' → (∀ a b, a < 18 → b < 18 → ((g'.1 (67 + a) b = if (a = i ∧ b = j) ∨ (a = j ∧ b = i) then sWh E i j else g.1 (67 + a) b) ∧ (g'.1 (86 + a) b = if (a = i ∧ b = j) ∨ (a = j ∧ b = i) then sWo E i j else g.1 (86 + a) b))) → g'.1 65 2 = g.1 65 2 → P g') : MXv mX6_settleTwo [vr 65, vr 8, vi (i : Int), vi (j : Int), vi (eB E 0)] g P := by
  have h18 := hW.1
  have hy := sYr_b hW hi hj
  have hw := sWh_b (E := E) (i := i) (j := j)
  have last : ∀ (v : Int) g1, v = sWo E i j → g1 = g → ∀ g2, g2 = gI g1 (67 + i) j (sWh E i j) → ∀ g3, g3 = gI g2 (67 + j) i (sWh E i j) → ∀ g4, g4 = gI g3 (86 + i) j v → ∀ g5, g5 = gI g4 (86 + j) i v → P g5 := by
    intro v g1 ev e1 g2 e2 g3 e3 g4 e4 g5 e5
    rw [e1] at e2
    refine hP g5 ?_ (fun a b ha hb => ⟨?_, ?_⟩) ?_
    · rw [e5, e4, e3, e2]
      exact (((Kx.st (by unfold Sx65; omega)).tr (Kx.st (by unfold Sx65; omega))).tr (Kx.st (by unfold Sx65; omega))).tr (Kx.st (by unfold Sx65; omega))
    · rw [e5, gI_ne (by omega), e4, gI_ne (by omega)]
      by_cases c : a = j ∧ b = i
      · rw [if_pos (Or.inr c), c.1, c.2, e3, gI_eq]
      · rw [e3, gI_ne (by omega)]
        by_cases d : a = i ∧ b = j
        · rw [if_pos (Or.inl d), d.1, d.2, e2, gI_eq]
        · rw [if_neg (by omega), e2, gI_ne (by omega)]
    · by_cases c : a = j ∧ b = i
      · rw [if_pos (Or.inr c), c.1, c.2, e5, gI_eq, ev]
      · rw [e5, gI_ne (by omega)]
        by_cases d : a = i ∧ b = j
        · rw [if_pos (Or.inl d), d.1, d.2, e4, gI_eq, ev]
        · rw [if_neg (by omega), e4, gI_ne (by omega), e3, gI_ne (by omega), e2, gI_ne (by omega)]
    · rw [e5, gI_ne (by omega), e4, gI_ne (by omega), e3, gI_ne (by omega), e2, gI_ne (by omega)]
  have hno : sWh E i j ≠ 0 → (-1 : Int) = sWo E i j := fun c => by unfold sWo; rw [if_neg c]
  refine uX6_settleTwo g _ _ _ ?_
  simp only [Int.toNat_natCast]
  refine ⟨by omega, by omega, hR.2.1 i (by omega), by omega, by omega, hR.2.1 j (by omega), ?_⟩
  refine X_why hR hB hW hi hj hn ?_
  refine X_years hR hB hW hi hj ⟨⟨by omega, by omega⟩, fun c => last (-1) g (hno c) rfl, fun c => ⟨⟨by omega, by omega⟩, fun d => ?_, fun d => ?_⟩⟩
  · exfalso
    have := sWo_fit hW hi hj (by unfold sFt; exact decide_eq_true c)
    omega
  · refine X_like hR hW hi hj hn ⟨by omega, ?_⟩
    exact last _ g (by unfold sWo; rw [if_pos c]) rfl
/-- the tables of the pairs -/
def PrX (E : EE) (g : GS) : Prop := g.1 65 2 = (eN E : Int) ∧ (∀ i, i < eN E → g.1 (86 + i) i = -1) ∧ (∀ i j, i < eN E → j < eN E → i ≠ j → PairX E g i j)
def PrP (E : EE) (n : Nat) (g : GS) : Prop := g.1 65 2 = (eN E : Int) ∧ (∀ i, i < n → g.1 (86 + i) i = -1) ∧ (∀ i j, i < n → j < n → i ≠ j → PairX E g i j)
theorem RegX.k65 {g g' : GS} (h : RegX E g) (hW : WF E) (hk : Kx Sx65 g g') : RegX E g' := h.kx hW.1 hk (fun a k c z => by unfold coreX at c; unfold Sx65 at z; omega)
theorem BornX.k65 {g g' : GS} (h : BornX E g) (hR : RegX E g) (hW : WF E) (hk : Kx Sx65 g g') : BornX E g' := h.kx hR hW.1 hk (fun a k c z => by unfold Sx65 at z; omega)
theorem X_pr30 (hW : WF E) {i : Nat} (hi : i < eN E) {g0 : GS} (hR0 : RegX E g0) (hB0 : BornX E g0) (hP : ∀ g', Kx Sx65 g0 g' → PrP E (i + 1) g' → XXv mX6_settle 10 [some (vr 65), some (vr 8), some (vi (eB E 0)), some (vi ((i : Int) + 1)), none] [] g' P) : ∀ (t j : Nat) (g : GS), j + t = i → Kx Sx65 g0 g → PrP E i g → g.1 (86 + i) i = -1 → (∀ k, k < j → PairX E g i k ∧ PairX E g k i) → XXv mX6_settle 30 [some (vr 65), some (vr 8), some (vi (eB E 0)), some (vi (i : Int)), some (vi (j : Int))] [] g P := by
  have h18 := hW.1
  intro t
  induction t with
  | zero =>
    intro j g hj hK hA hd hr
    have hj : j = i := by omega
    subst hj
    refine uX6_settle_30 g _ _ _ ⟨⟨by omega, by omega⟩, ⟨by omega, by omega⟩, fun _ => hP g hK ?_, fun z => by omega⟩
    obtain ⟨p1, p2, p3⟩ := hA
    refine ⟨p1, fun k hk => ?_, fun k l hk hl hn => ?_⟩
    · by_cases c : k = j
      · rw [c]; exact hd
      · exact p2 k (by omega)
    · by_cases c : k = j
      · rw [c]; exact (hr l (by omega)).1
      · by_cases d : l = j
        · rw [d]; exact (hr k (by omega)).2
        · exact p3 k l (by omega) (by omega) hn
  | succ t ih =>
    intro j g hj hK hA hd hr
    have hR := hR0.k65 hW hK
    have hB := hB0.k65 hR0 hW hK
    refine uX6_settle_30 g _ _ _ ⟨⟨by omega, by omega⟩, ⟨by omega, by omega⟩, fun z => by omega, fun _ => ?_⟩
    refine X_two hR hB hW hi (by omega) (by omega) (fun g' hk' ht h65 => ?_)
    have pX : ∀ a b, a < 18 → b < 18 → PairX E g a b → PairX E g' a b := by
      intro a b ha hb hp
      obtain ⟨t1, t2⟩ := ht a b ha hb
      unfold PairX
      rw [t1, t2]
      by_cases c : (a = i ∧ b = j) ∨ (a = j ∧ b = i)
      · rw [if_pos c, if_pos c]
        rcases c with c | c
        · rw [c.1, c.2]; exact ⟨rfl, rfl⟩
        · rw [c.1, c.2, sWh_sym (hW.2.2.1 i j), sWo_sym (hW.2.2.1 i j)]; exact ⟨rfl, rfl⟩
      · rw [if_neg c, if_neg c]; exact hp
    have dX : ∀ a, a < 18 → g'.1 (86 + a) a = g.1 (86 + a) a := by
      intro a ha
      rw [(ht a a ha ha).2, if_neg (by omega)]
    refine ih (j + 1) g' (by omega) (hK.tr hk') ⟨by rw [h65]; exact hA.1, fun a ha => by rw [dX a (by omega)]; exact hA.2.1 a ha, fun a b ha hb hn => pX a b (by omega) (by omega) (hA.2.2 a b ha hb hn)⟩ (by rw [dX i (by omega)]; exact hd) (fun k hk => ?_)
    by_cases c : k = j
    · rw [c]
      obtain ⟨t1, t2⟩ := ht i j (by omega) (by omega)
      obtain ⟨t3, t4⟩ := ht j i (by omega) (by omega)
      rw [if_pos (Or.inl ⟨rfl, rfl⟩)] at t1 t2
      rw [if_pos (Or.inr ⟨rfl, rfl⟩)] at t3 t4
      exact ⟨⟨t1, t2⟩, by rw [t3]; exact sWh_sym (hW.2.2.1 i j), by rw [t4]; exact sWo_sym (hW.2.2.1 i j)⟩
    · obtain ⟨q1, q2⟩ := hr k (by omega)
      exact ⟨pX i k (by omega) (by omega) q1, pX k i (by omega) (by omega) q2⟩
theorem X_pr10 (hW : WF E) {g0 : GS} (hR0 : RegX E g0) (hB0 : BornX E g0) (hP : ∀ g', Kx Sx65 g0 g' → PrX E g' → P g') : ∀ (t i : Nat) (g : GS), i + t = eN E → Kx Sx65 g0 g → PrP E i g → XXv mX6_settle 10 [some (vr 65), some (vr 8), some (vi (eB E 0)), some (vi (i : Int)), none] [] g P := by
  have h18 := hW.1
  intro t
  induction t with
  | zero =>
    intro i g hi hK hA
    have hi : i = eN E := by omega
    subst hi
    refine uX6_settle_10 g _ _ ?_
    rw [hA.1]
    exact ⟨⟨by omega, by omega⟩, ⟨by omega, by omega⟩, fun _ => hP g hK hA, fun z => by omega⟩
  | succ t ih =>
    intro i g hi hK hA
    refine uX6_settle_10 g _ _ ?_
    rw [hA.1]
    simp only [Int.toNat_natCast]
    refine ⟨⟨by omega, by omega⟩, ⟨by omega, by omega⟩, fun z => by omega, fun _ => ⟨by omega, by omega, fun g1 e1 => ?_⟩⟩
    have k1 : Kx Sx65 g g1 := by rw [e1]; exact Kx.st (by unfold Sx65; omega)
    refine X_pr30 hW (by omega) hR0 hB0 (fun g2 k2 hA2 => ih (i + 1) g2 (by omega) k2 hA2) i 0 g1 (by omega) (hK.tr k1) ⟨by rw [e1, gI_ne (by omega)]; exact hA.1, fun a ha => by rw [e1, gI_ne (by omega)]; exact hA.2.1 a ha, fun a b ha hb hn => ?_⟩ (by rw [e1, gI_eq]) (fun k hk => absurd hk (Nat.not_lt_zero _))
    unfold PairX
    rw [e1, gI_ne (by omega), gI_ne (by omega)]
    exact hA.2.2 a b ha hb hn
theorem X_prs {g : GS} (hR : RegX E g) (hB : BornX E g) (hW : WF E) (hP : ∀ g', Kx Sx65 g g' → PrX E g' → P g') : MXv mX6_settle [vr 65, vr 8, vi (eB E 0)] g P := by
  refine uX6_settle g _ (fun g1 e1 => ?_)
  have k1 : Kx Sx65 g g1 := by rw [e1]; exact Kx.st (by unfold Sx65; omega)
  exact X_pr10 hW hR hB hP (eN E) 0 g1 (by omega) k1 ⟨by rw [e1, gI_eq]; exact hR.1, fun a ha => absurd ha (Nat.not_lt_zero _), fun a b ha => absurd ha (Nat.not_lt_zero _)⟩
/-! born -/
def Sxb (a k : Nat) : Prop := 11 ≤ a ∧ a < 65 ∧ a % 3 = 2 ∧ 8 ≤ k
theorem RegX.kb {g g' : GS} (h : RegX E g) (hW : WF E) (hk : Kx Sxb g g') : RegX E g' := h.kx hW.1 hk (fun a k c z => by unfold coreX at c; unfold Sxb at z; omega)
theorem X_born1 {g : GS} {i : Nat} (hR : RegX E g) (hW : WF E) (hi : i < eN E) (hP : ∀ g', Kx (fun a k => a = sE g i ∧ 8 ≤ k) g g' → g'.1 (sE g i) 8 = sF E i → g'.1 (sE g i) 9 = sL E i → P g') : MXv mX0_settleBorn [vr (sE g i), vi (eB E 1)] g P := by
  have h18 := hW.1
  obtain ⟨-, a2, a3, a4, -⟩ := hR.2.2.2.2.1 i hi
  obtain ⟨w1, w2, w3, -⟩ := hW.2.1 i hi
  have fin : ∀ (x y : Int) g1, g1 = gI g (sE g i) 8 x → ∀ g2, g2 = gI g1 (sE g i) 9 y → x = sF E i → y = sL E i → P g2 := by
    intro x y g1 e1 g2 e2 hx hy
    refine hP g2 ?_ ?_ ?_
    · rw [e2, e1]
      exact (Kx.st ⟨rfl, by omega⟩).tr (Kx.st ⟨rfl, by omega⟩)
    · rw [e2, gI_ne (by omega), e1, gI_eq, hx]
    · rw [e2, gI_eq, hy]
  have c5 : ∀ (x : Int), (gI g (sE g i) 8 x).1 (sE g i) 5 = eY E i := fun x => by rw [gI_ne (by omega)]; exact a3
  have c6 : ∀ (x : Int), (gI g (sE g i) 8 x).1 (sE g i) 6 = eA E i := fun x => by rw [gI_ne (by omega)]; exact a4
  unfold sF sL at fin
  refine uX0_settleBorn g _ (hR.2.1 i (by omega)) _ ?_
  rw [a2, a3, a4]
  refine ⟨⟨by omega, by omega⟩, fun c => ⟨⟨by omega, by omega⟩, fun d => ⟨fun f g1 e1 g2 e2 => ?_, fun f g1 e1 g2 e2 => ?_⟩, fun d g1 e1 g2 e2 => ?_⟩, fun c g1 e1 g2 e2 => ?_⟩
  · rw [e1, c5, ← e1] at e2
    refine fin _ _ g1 e1 g2 e2 ?_ ?_
    · rw [if_neg c, if_pos d, if_neg f]
    · rw [if_neg c, if_pos d, if_neg f]
  · rw [e1, c5, ← e1] at e2
    refine fin _ _ g1 e1 g2 e2 ?_ ?_
    · rw [if_neg c, if_pos d, if_pos f]
    · rw [if_neg c, if_pos d, if_pos f]
  · rw [e1, c5, c6, ← e1] at e2
    refine fin _ _ g1 e1 g2 e2 ?_ ?_
    · rw [if_neg c, if_neg d]
    · rw [if_neg c, if_neg d]
  · rw [e1, c5, ← e1] at e2
    refine fin _ _ g1 e1 g2 e2 ?_ ?_
    · rw [if_pos c]
    · rw [if_pos c]
theorem X_born {g : GS} (hR : RegX E g) (hW : WF E) (hP : ∀ g', Kx Sxb g g' → BornX E g' → P g') : MXv mX8_settleBorn [vr 8, vi (eB E 1)] g P := by
  have h18 := hW.1
  have loop : ∀ (t i : Nat) (g1 : GS), i + t = eN E → Kx Sxb g g1 → (∀ j, j < i → g1.1 (sE g j) 8 = sF E j ∧ g1.1 (sE g j) 9 = sL E j) → XXv mX8_settleBorn 2 [some (vr 8), some (vi (eB E 1)), some (vi (i : Int))] [] g1 P := by
    intro t
    induction t with
    | zero =>
      intro i g1 hi hk hb
      have hi : i = eN E := by omega
      subst hi
      refine uX8_settleBorn_2 g1 _ _ ?_
      rw [(hR.kb hW hk).1]
      refine ⟨⟨by omega, by omega⟩, ⟨by omega, by omega⟩, fun _ => hP g1 hk (fun j hj => ?_), fun z => by omega⟩
      unfold sE
      rw [show g1.2.1 = g.2.1 from congrArg (fun z => z.1) hk.2]
      exact hb j hj
    | succ t ih =>
      intro i g1 hi hk hb
      have hR1 := hR.kb hW hk
      have e2 : g1.2.1 = g.2.1 := congrArg (fun z => z.1) hk.2
      refine uX8_settleBorn_2 g1 _ _ ?_
      rw [hR1.1]
      simp only [Int.toNat_natCast]
      refine ⟨⟨by omega, by omega⟩, ⟨by omega, by omega⟩, fun z => by omega, fun _ => ⟨by omega, by omega, hR1.2.1 i (by omega), ?_⟩⟩
      have hs := hR1.2.1 i (by omega)
      refine X_born1 hR1 hW (show i < eN E by omega) (fun g2 k2 b1 b2 => ?_)
      refine ih (i + 1) g2 (by omega) (hk.tr (k2.mo (fun a k z => by unfold Sxb; obtain ⟨z1, z2⟩ := z; unfold sE at z1; omega))) (fun j hj => ?_)
      by_cases c : j = i
      · rw [c]; unfold sE at b1 b2 ⊢; rw [e2] at b1 b2; exact ⟨b1, b2⟩
      · have hne : sE g j ≠ sE g1 i := fun z => by
          have z : 11 + 3 * g.2.1 j = 11 + 3 * g1.2.1 i := z
          rw [e2] at z
          exact c (hR.2.2.1 j i (by omega) (by omega) (by omega))
        rw [k2.1 _ 8 (fun z => hne z.1), k2.1 _ 9 (fun z => hne z.1)]
        exact hb j (by omega)
  exact uX8_settleBorn g _ (loop (eN E) 0 g (by omega) Kx.rf (fun j hj => absurd hj (Nat.not_lt_zero _)))
end XB2

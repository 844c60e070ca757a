/-! the class's reader: names, years, ages -/
section XY1
variable {P : Int → GS → Prop} {C : Nat → Int} {q : QQ} {p : Nat} {g : GS}
/-- the head of what it holds, when no entry begins -/
theorem RdX_hd {q' : QQ} {tk : Nat} {g' : GS} (h : RdX C q p tk g) (hN : qN q' = qN q) (hK : ∀ i, qK q' i = qK q i) (hk : Kx (fun a k => a = 3 ∧ k ≠ 1 ∧ k ≠ 8) g g') : g'.1 3 1 = (qN q' : Int) ∧ g'.1 3 8 = (tk : Int) ∧ (g'.1 4 0 = (cQ q' 0 (qN q') : Int) ∧ g'.1 4 1 = (cQ q' 1 (qN q') : Int) ∧ g'.1 4 2 = (cQ q' 2 (qN q') : Int)) := by
  obtain ⟨a1, a2, ⟨a3, a4, a5⟩, -⟩ := h
  rw [hN, cQ_cg (q := q) (q' := q') (k := 0) _ (fun i _ => hK i), cQ_cg (q := q) (q' := q') (k := 1) _ (fun i _ => hK i), cQ_cg (q := q) (q' := q') (k := 2) _ (fun i _ => hK i)]
  exact ⟨by rw [hk.1 _ _ (by omega)]; exact a1, by rw [hk.1 _ _ (by omega)]; exact a2, by rw [hk.1 _ _ (by omega)]; exact a3, by rw [hk.1 _ _ (by omega)]; exact a4, by rw [hk.1 _ _ (by omega)]; exact a5⟩
theorem K3 {k : Nat} {x : Int} (h : k ≠ 1 ∧ k ≠ 8) : Kx (fun a k => a = 3 ∧ k ≠ 1 ∧ k ≠ 8) g (gI g 3 k x) := Kx.st (S := fun a k => a = 3 ∧ k ≠ 1 ∧ k ≠ 8) ⟨rfl, h.1, h.2⟩
theorem K3R {g' : GS} (h : Kx (fun a k => a = 3 ∧ k ≠ 1 ∧ k ≠ 8) g g') : Kx SR g g' := h.mo (fun a k z => Or.inl z.1)
theorem X_tName {tk : Nat} {c : Int} (h : RdX C q p tk g) (hw : WFQ p q) (hs : qS q = 1 ∨ qS q = 2) (hC : C p = c) (rc : rng c) (hS : ∀ q', rT q c = some q' → ∀ g', RdX C q' (p + 1) tk g' → Kx SR g g' → P 1 g') (hN : rT q c = none → P 0 g) : MXi mX7_takesInName [vr 3, vi c] g P := by
  obtain ⟨w1, -, w3, w4, -, w6⟩ := hw
  have hcur := w3 (by omega)
  obtain ⟨-, hl8, -⟩ := w4 (qN q - 1) (by omega)
  obtain ⟨v1, v2, -⟩ := w6 (by omega)
  obtain ⟨b1, b2, b3, ⟨st, s1, s2, s3, s4⟩, b5, -⟩ := h.2.2.2.2 (by omega)
  obtain ⟨b6, b7, b8⟩ := b5 (by omega)
  unfold rT at hS hN
  rw [if_neg (by omega), if_pos (by omega)] at hS hN
  have let_ : (97 ≤ c ∧ c ≤ 122) → c ≠ 58 → qL q (qN q - 1) < 8 → ∀ g1, g1 = gI g 3 4 ((qL q (qN q - 1) : Int) + 1) → P 1 g1 := by
    intro hc hc2 hl g1 e1
    have k1 : Kx (fun a k => a = 3 ∧ k ≠ 1 ∧ k ≠ 8) g g1 := by rw [e1]; exact K3 (by omega)
    rw [if_neg (by omega), if_pos ⟨hc, hl⟩] at hS
    obtain ⟨d1, d2, d3⟩ := RdX_hd (q' := qLet q c) h rfl (fun _ => rfl) k1
    refine hS _ rfl g1 ⟨d1, d2, d3, fun z => absurd z (show ¬ (2 = 0) by omega), fun _ => ⟨?_, ?_, ?_, ⟨st, ?_, ?_, fun _ => ?_, fun j hj => ?_⟩, fun _ => ⟨?_, ?_, ?_⟩, fun z => absurd z (show ¬ (3 ≤ 2) by omega), fun z => absurd z (show ¬ (2 = 7) by omega), fun z => absurd z (show ¬ (8 ≤ 2) by omega), fun z => absurd z (show ¬ (2 = 8) by omega), fun z => absurd z (show ¬ (9 ≤ 2) by omega), fun z => absurd z (show ¬ (2 = 9 ∨ 2 = 11) by omega), fun z => absurd z (show ¬ (2 = 10) by omega)⟩⟩ (K3R k1)
    · rw [e1, gI_ne (by omega)]; exact b1
    · show g1.1 3 4 = ((fU (qL q) (qN q - 1) (qL q (qN q - 1) + 1) (qN q - 1) : Nat) : Int)
      rw [fU_eq, e1, gI_eq]; rfl
    · rw [e1, gI_ne (by omega)]; exact b3
    · rw [e1, gI_ne (by omega)]; exact s1
    · show st + fU (qL q) (qN q - 1) (qL q (qN q - 1) + 1) (qN q - 1) ≤ p + 1
      rw [fU_eq]; omega
    · show st + fU (qL q) (qN q - 1) (qL q (qN q - 1) + 1) (qN q - 1) = p + 1
      rw [fU_eq]; have := s3 (by omega); omega
    · have hj : j < fU (qL q) (qN q - 1) (qL q (qN q - 1) + 1) (qN q - 1) := hj
      rw [fU_eq] at hj
      show C (st + j) = fU (qW q) (qN q - 1) (fU (qW q (qN q - 1)) (qL q (qN q - 1)) c) (qN q - 1) j
      rw [fU_eq]
      by_cases z : j = qL q (qN q - 1)
      · rw [z, fU_eq, s3 (by omega)]; exact hC
      · rw [fU_ne z]; exact s4 j (by omega)
    · rw [e1, gI_ne (by omega)]; exact b6
    · rw [e1, gI_ne (by omega)]; exact b7
    · rw [e1, gI_ne (by omega)]; exact b8
  refine uX7_takesInName g c ?_
  rw [b2]
  refine ⟨rc, fun c1 => ⟨fun c2 => hN ?_, fun c2 => ⟨fun c3 => hN ?_, fun c3 => ⟨⟨by omega, by omega⟩, fun c4 => let_ ⟨c2, c3⟩ c1 (by omega), fun c4 => hN ?_⟩⟩⟩, fun c1 => ⟨⟨by omega, by omega⟩, fun c2 => ⟨fun c3 => hN ?_, fun c3 => by omega⟩, fun c2 g1 e1 => ?_⟩⟩
  · rw [if_neg (by omega), if_neg (by omega)]
  · rw [if_neg (by omega), if_neg (by omega)]
  · rw [if_neg (by omega), if_neg (by omega)]
  · have : qS q ≠ 2 := fun z => by have := v2 (by omega); omega
    rw [if_neg (by omega), if_neg (by omega)]
  · have h2 : qS q = 2 := by
      by_cases z : qS q = 1
      · have := v1 z; omega
      · omega
    rw [if_pos ⟨c1, h2⟩] at hS
    have k1 : Kx (fun a k => a = 3 ∧ k ≠ 1 ∧ k ≠ 8) g g1 := by rw [e1]; exact K3 (by omega)
    obtain ⟨d1, d2, d3⟩ := RdX_hd (q' := qTo q 3) h rfl (fun _ => rfl) k1
    refine hS _ rfl g1 ⟨d1, d2, d3, fun z => absurd z (show ¬ (3 = 0) by omega), fun _ => ⟨?_, ?_, ?_, ⟨st, ?_, ?_, fun z => absurd z (show ¬ (3 ≤ 2) by omega), s4⟩, fun z => absurd z (show ¬ (3 ≤ 2) by omega), fun _ _ => ⟨?_, ?_, ?_⟩, fun z => absurd z (show ¬ (3 = 7) by omega), fun z => absurd z (show ¬ (8 ≤ 3) by omega), fun z => absurd z (show ¬ (3 = 8) by omega), fun z => absurd z (show ¬ (9 ≤ 3) by omega), fun z => absurd z (show ¬ (3 = 9 ∨ 3 = 11) by omega), fun z => absurd z (show ¬ (3 = 10) by omega)⟩⟩ (K3R k1)
    · rw [e1, gI_ne (by omega)]; exact b1
    · rw [e1, gI_ne (by omega)]; exact b2
    · rw [e1, gI_ne (by omega)]; exact b3
    · rw [e1, gI_ne (by omega)]; exact s1
    · show st + qL q (qN q - 1) ≤ p + 1
      omega
    · rw [e1, gI_eq]
    · rw [e1, gI_ne (by omega), b8]; rfl
    · rw [e1, gI_ne (by omega)]; exact b7
theorem X_tYear {tk : Nat} {c : Int} (h : RdX C q p tk g) (hw : WFQ p q) (hs : 3 ≤ qS q ∧ qS q ≤ 6) (rc : rng c) (hS : ∀ q', rT q c = some q' → ∀ g', RdX C q' (p + 1) tk g' → Kx SR g g' → P 1 g') (hN : rT q c = none → P 0 g) : MXi mX7_takesFigureOfYear [vr 3, vi c] g P := by
  obtain ⟨w1, -, w3, w4, -, w6⟩ := hw
  have hcur := w3 (by omega)
  obtain ⟨b1, b2, b3, ⟨st, s1, s2, s3, s4⟩, -, b5, -⟩ := h.2.2.2.2 (by omega)
  obtain ⟨b6, b7, b8⟩ := b5 hs.1 hs.2
  have hok : (rT q c = some (qYr q c) ∧ (if qS q = 3 then c = 49 else if qS q = 4 then 54 ≤ c ∧ c ≤ 56 else 48 ≤ c ∧ c ≤ 57)) ∨ (rT q c = none ∧ ¬ (if qS q = 3 then c = 49 else if qS q = 4 then 54 ≤ c ∧ c ≤ 56 else 48 ≤ c ∧ c ≤ 57)) := by
    unfold rT
    rw [if_neg (show ¬ qS q = 0 by omega), if_neg (show ¬ qS q ≤ 2 by omega)]
    by_cases y3 : qS q = 3
    · rw [if_pos y3, if_pos y3]
      by_cases d : c = 49
      · rw [if_pos d]; exact Or.inl ⟨rfl, d⟩
      · rw [if_neg d]; exact Or.inr ⟨rfl, d⟩
    · rw [if_neg y3, if_neg y3]
      by_cases y4 : qS q = 4
      · rw [if_pos y4, if_pos y4]
        by_cases d : 54 ≤ c ∧ c ≤ 56
        · rw [if_pos d]; exact Or.inl ⟨rfl, d⟩
        · rw [if_neg d]; exact Or.inr ⟨rfl, d⟩
      · rw [if_neg y4, if_neg y4, if_pos (show qS q ≤ 6 by omega)]
        by_cases d : 48 ≤ c ∧ c ≤ 57
        · rw [if_pos d]; exact Or.inl ⟨rfl, d⟩
        · rw [if_neg d]; exact Or.inr ⟨rfl, d⟩
  have go : (if qS q = 3 then c = 49 else if qS q = 4 then 54 ≤ c ∧ c ≤ 56 else 48 ≤ c ∧ c ≤ 57) → ∀ g5 : GS, g5 = gI g 3 5 (((g.1 3 5) * 10) + (c - 48)) → (∀ g8 : GS, g8 = gI g5 3 9 ((g5.1 3 9) + 1) → (rng (g8.1 3 9) ∧ (¬ g8.1 3 9 = 4 → (P 1 g8)) ∧ (g8.1 3 9 = 4 → (∀ g12 : GS, g12 = gI g8 3 7 3 → (P 1 g12))))) := by
    intro hc g1 e1 g2 e2
    have ht : rT q c = some (qYr q c) := by
      rcases hok with ⟨z, -⟩ | ⟨-, z⟩
      · exact z
      · exact absurd hc z
    have v9 : g2.1 3 9 = (qS q : Int) - 2 := by rw [e2, gI_eq, e1, gI_ne (by omega), b7]; omega
    have v5 : g2.1 3 5 = 10 * qY q (qN q - 1) + (c - 48) := by rw [e2, gI_ne (by omega), e1, gI_eq, b3]; omega
    have vj : ∀ j, j ≠ 5 → j ≠ 9 → g2.1 3 j = g.1 3 j := fun j h1 h2 => by rw [e2, gI_ne (by omega), e1, gI_ne (by omega)]
    have k2 : Kx (fun a k => a = 3 ∧ k ≠ 1 ∧ k ≠ 8) g g2 := by rw [e2, e1]; exact (K3 (by omega)).tr (K3 (by omega))
    have mk : ∀ g3 : GS, Kx (fun a k => a = 3 ∧ k ≠ 1 ∧ k ≠ 8) g g3 → (∀ j, j ≠ 7 → g3.1 3 j = g2.1 3 j) → (qS q ≤ 5 → g3.1 3 7 = 2) → (qS q = 6 → g3.1 3 7 = 3) → P 1 g3 := by
      intro g3 k3 hj h72 h73
      obtain ⟨d1, d2, d3⟩ := RdX_hd (q' := qYr q c) h rfl (fun _ => rfl) k3
      refine hS _ ht g3 ⟨d1, d2, d3, fun z => absurd (show qS q + 1 = 0 from z) (by omega), fun _ => ⟨?_, ?_, ?_, ⟨st, ?_, ?_, fun z => absurd (show qS q + 1 ≤ 2 from z) (by omega), s4⟩, fun z => absurd (show qS q + 1 ≤ 2 from z) (by omega), fun _ z => ⟨?_, ?_, ?_⟩, fun z => ⟨?_, ?_⟩, fun z => absurd (show 8 ≤ qS q + 1 from z) (by omega), fun z => absurd (show qS q + 1 = 8 from z) (by omega), fun z => absurd (show 9 ≤ qS q + 1 from z) (by omega), fun z => absurd (show qS q + 1 = 9 ∨ qS q + 1 = 11 from z) (by omega), fun z => absurd (show qS q + 1 = 10 from z) (by omega)⟩⟩ (K3R k3)
      · rw [hj 2 (by omega), vj 2 (by omega) (by omega)]; exact b1
      · rw [hj 4 (by omega), vj 4 (by omega) (by omega)]; exact b2
      · show g3.1 3 5 = fU (qY q) (qN q - 1) (10 * qY q (qN q - 1) + (c - 48)) (qN q - 1)
        rw [fU_eq, hj 5 (by omega), v5]
      · rw [hj 3 (by omega), vj 3 (by omega) (by omega)]; exact s1
      · show st + qL q (qN q - 1) ≤ p + 1
        omega
      · exact h72 (by have z : qS q + 1 ≤ 6 := z; omega)
      · rw [hj 9 (by omega), v9]
        show (qS q : Int) - 2 = ((qS q + 1 : Nat) : Int) - 3
        omega
      · rw [hj 6 (by omega), vj 6 (by omega) (by omega)]; exact b8
      · exact h73 (by have z : qS q + 1 = 7 := z; omega)
      · rw [hj 6 (by omega), vj 6 (by omega) (by omega)]; exact b8
    rw [v9]
    refine ⟨⟨by omega, by omega⟩, fun z => mk g2 k2 (fun _ _ => rfl) (fun _ => by rw [vj 7 (by omega) (by omega)]; exact b6) (fun y => by omega), fun z g3 e3 => mk g3 ?_ (fun j hj => by rw [e3, gI_ne (by omega)]) (fun y => by omega) (fun _ => by rw [e3, gI_eq])⟩
    rw [e3]; exact k2.tr (K3 (by omega))
  have no : ¬ (if qS q = 3 then c = 49 else if qS q = 4 then 54 ≤ c ∧ c ≤ 56 else 48 ≤ c ∧ c ≤ 57) → P 0 g := by
    intro hc
    rcases hok with ⟨-, z⟩ | ⟨z, -⟩
    · exact absurd z hc
    · exact hN z
  have key : ∀ lo : Int, lo = (if qS q = 3 then 49 else if qS q = 4 then 54 else 48) → XXi mX7_takesFigureOfYear 27 [some (vr 3), some (vi c), none, none] [vi lo] g P := by
    intro lo hlo
    have rl : rng lo := by rw [hlo]; split <;> (try split) <;> exact ⟨by decide, by decide⟩
    refine uX7_takesFigureOfYear_27 g c lo ?_
    rw [b7]
    refine ⟨⟨by omega, by omega⟩, fun y3 => ⟨fun y4 => ⟨rc, rl, fun z => no ?_, fun z => ⟨fun y => go ?_, fun y => no ?_⟩⟩, fun y4 => ⟨rc, rl, fun z => no ?_, fun z => ⟨fun y => go ?_, fun y => no ?_⟩⟩⟩, fun y3 => ⟨rc, rl, fun z => no ?_, fun z => ⟨fun y => go ?_, fun y => no ?_⟩⟩⟩
    · rw [if_neg (show ¬ qS q = 3 by omega), if_neg (show ¬ qS q = 4 by omega)] at hlo ⊢; omega
    · rw [if_neg (show ¬ qS q = 3 by omega), if_neg (show ¬ qS q = 4 by omega)] at hlo ⊢; omega
    · rw [if_neg (show ¬ qS q = 3 by omega), if_neg (show ¬ qS q = 4 by omega)] at hlo ⊢; omega
    · rw [if_neg (show ¬ qS q = 3 by omega), if_pos (show qS q = 4 by omega)] at hlo ⊢; omega
    · rw [if_neg (show ¬ qS q = 3 by omega), if_pos (show qS q = 4 by omega)] at hlo ⊢; omega
    · rw [if_neg (show ¬ qS q = 3 by omega), if_pos (show qS q = 4 by omega)] at hlo ⊢; omega
    · rw [if_pos (show qS q = 3 by omega)] at hlo ⊢; omega
    · rw [if_pos (show qS q = 3 by omega)] at hlo ⊢; omega
    · rw [if_pos (show qS q = 3 by omega)] at hlo ⊢; omega
  refine uX7_takesFigureOfYear g c ?_
  rw [b7]
  refine ⟨⟨by omega, by omega⟩, fun y3 => ⟨fun y4 => key 48 ?_, fun y4 => key 54 ?_⟩, fun y3 => key 49 ?_⟩
  · rw [if_neg (show ¬ qS q = 3 by omega), if_neg (show ¬ qS q = 4 by omega)]
  · rw [if_neg (show ¬ qS q = 3 by omega), if_pos (show qS q = 4 by omega)]
  · rw [if_pos (show qS q = 3 by omega)]
theorem X_tBehind {tk : Nat} {c : Int} (h : RdX C q p tk g) (hw : WFQ p q) (hs : qS q = 7) (rc : rng c) (hS : ∀ q', rT q c = some q' → ∀ g', RdX C q' (p + 1) tk g' → Kx SR g g' → P 1 g') (hN : rT q c = none → P 0 g) : MXi mX7_takesBehindYear [vr 3, vi c] g P := by
  obtain ⟨w1, -, w3, w4, -, w6⟩ := hw
  have hcur := w3 (by omega)
  obtain ⟨kk, -⟩ := w4 (qN q - 1) (by omega)
  obtain ⟨b1, b2, b3, ⟨st, s1, s2, s3, s4⟩, -, -, b5, -⟩ := h.2.2.2.2 (by omega)
  obtain ⟨b6, b8⟩ := b5 hs
  unfold rT at hS hN
  rw [if_neg (show ¬ qS q = 0 by omega), if_neg (show ¬ qS q ≤ 2 by omega), if_neg (show ¬ qS q = 3 by omega), if_neg (show ¬ qS q = 4 by omega), if_neg (show ¬ qS q ≤ 6 by omega), if_pos hs] at hS hN
  refine uX7_takesBehindYear g c ?_
  rw [b1]
  refine ⟨rc, fun c1 => ⟨fun c2 => hN (by rw [if_neg c1, if_neg (fun z => c2 z.1)]), fun c2 => ⟨⟨by omega, by omega⟩, fun c3 g1 e1 g2 e2 g3 e3 => ?_, fun c3 => hN (by rw [if_neg c1, if_neg (fun z => z.2 c3)])⟩⟩, fun c1 => ?_⟩
  · rw [if_neg c1, if_pos ⟨c2, c3⟩] at hS
    have k3 : Kx (fun a k => a = 3 ∧ k ≠ 1 ∧ k ≠ 8) g g3 := by rw [e3, e2, e1]; exact ((K3 (by omega)).tr (K3 (by omega))).tr (K3 (by omega))
    have vj : ∀ j, j ≠ 6 → j ≠ 9 → j ≠ 7 → g3.1 3 j = g.1 3 j := fun j h1 h2 h3 => by rw [e3, gI_ne (by omega), e2, gI_ne (by omega), e1, gI_ne (by omega)]
    obtain ⟨d1, d2, d3⟩ := RdX_hd (q' := qTo q 8) h rfl (fun _ => rfl) k3
    refine hS _ rfl g3 ⟨d1, d2, d3, fun z => absurd z (show ¬ (8 = 0) by omega), fun _ => ⟨?_, ?_, ?_, ⟨st, ?_, ?_, fun z => absurd z (show ¬ (8 ≤ 2) by omega), s4⟩, fun z => absurd z (show ¬ (8 ≤ 2) by omega), fun _ z => absurd z (show ¬ (8 ≤ 6) by omega), fun z => absurd z (show ¬ (8 = 7) by omega), fun _ => ⟨?_, c3⟩, fun _ => ⟨?_, ?_⟩, fun z => absurd z (show ¬ (9 ≤ 8) by omega), fun z => absurd z (show ¬ (8 = 9 ∨ 8 = 11) by omega), fun z => absurd z (show ¬ (8 = 10) by omega)⟩⟩ (K3R k3)
    · rw [vj 2 (by omega) (by omega) (by omega)]; exact b1
    · rw [vj 4 (by omega) (by omega) (by omega)]; exact b2
    · rw [vj 5 (by omega) (by omega) (by omega)]; exact b3
    · rw [vj 3 (by omega) (by omega) (by omega)]; exact s1
    · show st + qL q (qN q - 1) ≤ p + 1
      omega
    · rw [e3, gI_eq]
    · rw [e3, gI_ne (by omega), e2, gI_eq]
    · rw [e3, gI_ne (by omega), e2, gI_ne (by omega), e1, gI_eq]
  · rw [if_pos c1] at hS
    exact X_startE (fun g' k' h7 h4 h5 h6 h9 => hS _ rfl g' (RdX_end h k' h7 h4 h5 h6 h9) (k'.mo (fun a k z => Or.inl z.1)))
end XY1

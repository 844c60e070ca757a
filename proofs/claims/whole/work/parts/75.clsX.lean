/-! THE CLASS's READER: it follows a text -/
def SR (a _ : Nat) : Prop := a = 3 ∨ a = 4
/-- p letters are behind it, it counts tk of them -/
def RdX (C : Nat → Int) (q : QQ) (p tk : Nat) (g : GS) : Prop := g.1 3 1 = (qN q : Int) ∧ g.1 3 8 = (tk : Int) ∧ (g.1 4 0 = (cQ q 0 (qN q) : Int) ∧ g.1 4 1 = (cQ q 1 (qN q) : Int) ∧ g.1 4 2 = (cQ q 2 (qN q) : Int)) ∧ (qS q = 0 → g.1 3 7 = 0 ∧ g.1 3 4 = 0 ∧ g.1 3 5 = 0 ∧ g.1 3 6 = -1 ∧ g.1 3 9 = 0) ∧
  (qS q ≠ 0 → g.1 3 2 = qK q (qN q - 1) ∧ g.1 3 4 = (qL q (qN q - 1) : Int) ∧ g.1 3 5 = qY q (qN q - 1) ∧ (∃ st : Nat, g.1 3 3 = (st : Int) ∧ st + qL q (qN q - 1) ≤ p ∧ (qS q ≤ 2 → st + qL q (qN q - 1) = p) ∧ ∀ j, j < qL q (qN q - 1) → C (st + j) = qW q (qN q - 1) j) ∧
    (qS q ≤ 2 → g.1 3 7 = 1 ∧ g.1 3 6 = -1 ∧ g.1 3 9 = 0) ∧ (3 ≤ qS q → qS q ≤ 6 → g.1 3 7 = 2 ∧ g.1 3 9 = (qS q : Int) - 3 ∧ g.1 3 6 = -1) ∧ (qS q = 7 → g.1 3 7 = 3 ∧ g.1 3 6 = -1) ∧ (8 ≤ qS q → g.1 3 7 = 4 ∧ qK q (qN q - 1) ≠ 0) ∧ (qS q = 8 → g.1 3 9 = 0 ∧ g.1 3 6 = 0) ∧ (9 ≤ qS q → g.1 3 6 = qA q (qN q - 1)) ∧ (qS q = 9 ∨ qS q = 11 → g.1 3 9 = 1) ∧ (qS q = 10 → ((g.1 3 9 = 1 ∧ qA q (qN q - 1) = 0) ∨ g.1 3 9 = 2) ∧ (qK q (qN q - 1) = 1 → 14 ≤ qA q (qN q - 1))))
theorem cQ_cg {q q' : QQ} {k : Int} : ∀ n, (∀ i, i < n → qK q' i = qK q i) → cQ q' k n = cQ q k n := by
  intro n
  induction n with
  | zero => intro _; rfl
  | succ n ih => intro h; rw [cQ, cQ, ih (fun i hi => h i (by omega)), h n (by omega)]
section XX1
variable {P : Int → GS → Prop} {C : Nat → Int} {q : QQ} {p : Nat} {g : GS}
theorem X_startE {P : GS → Prop} (hP : ∀ g', Kx (fun a k => a = 3 ∧ (k = 7 ∨ k = 4 ∨ k = 5 ∨ k = 6 ∨ k = 9)) g g' → g'.1 3 7 = 0 → g'.1 3 4 = 0 → g'.1 3 5 = 0 → g'.1 3 6 = -1 → g'.1 3 9 = 0 → P g') : MXv mX7_startEntry [vr 3] g P := by
  refine uX7_startEntry g (fun g1 e1 g2 e2 g3 e3 g4 e4 g5 e5 => hP g5 ?_ ?_ ?_ ?_ ?_ ?_)
  · have st : ∀ (r : GS) (j : Nat) (v : Int), (j = 7 ∨ j = 4 ∨ j = 5 ∨ j = 6 ∨ j = 9) → Kx (fun a k => a = 3 ∧ (k = 7 ∨ k = 4 ∨ k = 5 ∨ k = 6 ∨ k = 9)) r (gI r 3 j v) := fun r j v h => Kx.st (S := fun a k => a = 3 ∧ (k = 7 ∨ k = 4 ∨ k = 5 ∨ k = 6 ∨ k = 9)) ⟨rfl, h⟩
    rw [e5, e4, e3, e2, e1]
    exact ((((st _ _ _ (by omega)).tr (st _ _ _ (by omega))).tr (st _ _ _ (by omega))).tr (st _ _ _ (by omega))).tr (st _ _ _ (by omega))
  · rw [e5, gI_ne (by omega), e4, gI_ne (by omega), e3, gI_ne (by omega), e2, gI_ne (by omega), e1, gI_eq]
  · rw [e5, gI_ne (by omega), e4, gI_ne (by omega), e3, gI_ne (by omega), e2, gI_eq]
  · rw [e5, gI_ne (by omega), e4, gI_ne (by omega), e3, gI_eq]
  · rw [e5, gI_ne (by omega), e4, gI_eq]
  · rw [e5, gI_eq]
/-- an entry ends -/
theorem RdX_end {tk : Nat} {g' : GS} (h : RdX C q p tk g) (hk : Kx (fun a k => a = 3 ∧ (k = 7 ∨ k = 4 ∨ k = 5 ∨ k = 6 ∨ k = 9)) g g') (h7 : g'.1 3 7 = 0) (h4 : g'.1 3 4 = 0) (h5 : g'.1 3 5 = 0) (h6 : g'.1 3 6 = -1) (h9 : g'.1 3 9 = 0) : RdX C (qTo q 0) (p + 1) tk g' := by
  obtain ⟨a1, a2, ⟨a3, a4, a5⟩, -⟩ := h
  have ck : ∀ k : Int, cQ (qTo q 0) k (qN q) = cQ q k (qN q) := fun k => cQ_cg _ (fun _ _ => rfl)
  refine ⟨by rw [hk.1 _ _ (by omega)]; exact a1, by rw [hk.1 _ _ (by omega)]; exact a2, ⟨?_, ?_, ?_⟩, fun _ => ⟨h7, h4, h5, h6, h9⟩, fun z => absurd rfl z⟩
  · rw [hk.1 _ _ (by omega)]; show _ = ((cQ (qTo q 0) 0 (qN q) : Nat) : Int); rw [ck]; exact a3
  · rw [hk.1 _ _ (by omega)]; show _ = ((cQ (qTo q 0) 1 (qN q) : Nat) : Int); rw [ck]; exact a4
  · rw [hk.1 _ _ (by omega)]; show _ = ((cQ (qTo q 0) 2 (qN q) : Nat) : Int); rw [ck]; exact a5
theorem X_tKind {tk : Nat} {c : Int} (h : RdX C q p p g) (hs : qS q = 0) (rc : rng c) (hS : ∀ q', rT q c = some q' → ∀ g', RdX C q' (p + 1) p g' → Kx SR g g' → P 1 g') (hN : rT q c = none → P 0 g) : MXi mX7_takesKind [vr 3, vi c] g P := by
  obtain ⟨a1, a2, ⟨a3, a4, a5⟩, a6, -⟩ := h
  obtain ⟨b1, b2, b3, b4, b5⟩ := a6 hs
  unfold rT at hS hN
  rw [if_pos hs] at hS hN
  have leaf : ∀ (k : Nat), k < 3 → (∀ q', some (qBeg q (k : Int)) = some q' → ∀ g', RdX C q' (p + 1) p g' → Kx SR g g' → P 1 g') → ∀ g3 : GS, g3 = gI g 3 2 (k : Int) → (0 ≤ g3.1 3 2 ∧ g3.1 3 2 < 3 ∧ ∀ g8 : GS, g8 = gI g3 4 (g3.1 3 2).toNat ((g3.1 4 (g3.1 3 2).toNat) + 1) → (∀ g11 : GS, g11 = gI g8 3 1 ((g8.1 3 1) + 1) → (∀ g14 : GS, g14 = gI g11 3 3 ((g11.1 3 8) + 1) → (∀ g17 : GS, g17 = gI g14 3 7 1 → (P 1 g17))))) := by
    intro k hk3 hgo g1 e1
    have q2 : g1.1 3 2 = (k : Int) := by rw [e1, gI_eq]
    rw [q2, Int.toNat_natCast]
    refine ⟨by omega, by omega, fun g2 e2 g3 e3 g4 e4 g5 e5 => hgo _ rfl g5 ⟨?_, ?_, ?_, fun z => absurd z (show ¬ (1 = 0) by omega), fun _ => ⟨?_, ?_, ?_, ⟨p + 1, ?_, ?_, fun _ => ?_, fun j hj => ?_⟩, fun _ => ⟨?_, ?_, ?_⟩, fun z => absurd z (show ¬ (3 ≤ 1) by omega), fun z => absurd z (show ¬ (1 = 7) by omega), fun z => absurd z (show ¬ (8 ≤ 1) by omega), fun z => absurd z (show ¬ (1 = 8) by omega), fun z => absurd z (show ¬ (9 ≤ 1) by omega), fun z => absurd z (show ¬ (1 = 9 ∨ 1 = 11) by omega), fun z => absurd z (show ¬ (1 = 10) by omega)⟩⟩ ?_⟩
    · rw [e5, gI_ne (by omega), e4, gI_ne (by omega), e3, gI_eq, e2, gI_ne (by omega), e1, gI_ne (by omega), a1]; rfl
    · rw [e5, gI_ne (by omega), e4, gI_ne (by omega), e3, gI_ne (by omega), e2, gI_ne (by omega), e1, gI_ne (by omega)]; exact a2
    · have key : ∀ j : Nat, j < 3 → g.1 4 j = (cQ q (j : Int) (qN q) : Int) → g5.1 4 j = ((cQ (qBeg q (k : Int)) (j : Int) (qN q + 1) : Nat) : Int) := by
        intro j hj hv
        have hc : cQ (qBeg q (k : Int)) (j : Int) (qN q + 1) = (if (k : Int) = (j : Int) then cQ q (j : Int) (qN q) + 1 else cQ q (j : Int) (qN q)) := by
          rw [cQ, show qK (qBeg q (k : Int)) (qN q) = (k : Int) from fU_eq, cQ_cg (q := q) (q' := qBeg q (k : Int)) (qN q) (fun i hi => fU_ne (by omega))]
        rw [hc, e5, gI_ne (by omega), e4, gI_ne (by omega), e3, gI_ne (by omega), e2]
        by_cases z : j = k
        · rw [z, gI_eq, if_pos rfl, e1, gI_ne (by omega), ← z, hv]; rfl
        · rw [gI_ne (by omega), if_neg (by omega), e1, gI_ne (by omega), hv]
      exact ⟨key 0 (by omega) a3, key 1 (by omega) a4, key 2 (by omega) a5⟩
    · show g5.1 3 2 = fU (qK q) (qN q) (k : Int) (qN q)
      rw [fU_eq, e5, gI_ne (by omega), e4, gI_ne (by omega), e3, gI_ne (by omega), e2, gI_ne (by omega), q2]
    · show g5.1 3 4 = ((fU (qL q) (qN q) 0 (qN q) : Nat) : Int)
      rw [fU_eq, e5, gI_ne (by omega), e4, gI_ne (by omega), e3, gI_ne (by omega), e2, gI_ne (by omega), e1, gI_ne (by omega)]; exact b2
    · show g5.1 3 5 = fU (qY q) (qN q) 0 (qN q)
      rw [fU_eq, e5, gI_ne (by omega), e4, gI_ne (by omega), e3, gI_ne (by omega), e2, gI_ne (by omega), e1, gI_ne (by omega)]; exact b3
    · rw [e5, gI_ne (by omega), e4, gI_eq, e3, gI_ne (by omega), e2, gI_ne (by omega), e1, gI_ne (by omega), a2]; rfl
    · show p + 1 + fU (qL q) (qN q) 0 (qN q) ≤ p + 1
      rw [fU_eq]; omega
    · show p + 1 + fU (qL q) (qN q) 0 (qN q) = p + 1
      rw [fU_eq]
    · have hj : j < fU (qL q) (qN q) 0 (qN q) := hj
      rw [fU_eq] at hj
      exact absurd hj (Nat.not_lt_zero _)
    · rw [e5, gI_eq]
    · rw [e5, gI_ne (by omega), e4, gI_ne (by omega), e3, gI_ne (by omega), e2, gI_ne (by omega), e1, gI_ne (by omega)]; exact b4
    · rw [e5, gI_ne (by omega), e4, gI_ne (by omega), e3, gI_ne (by omega), e2, gI_ne (by omega), e1, gI_ne (by omega)]; exact b5
    · have st : ∀ (r : GS) (a j : Nat) (v : Int), (a = 3 ∨ a = 4) → Kx SR r (gI r a j v) := fun r a j v ha => Kx.st ha
      rw [e5, e4, e3, e2, e1]
      exact ((((st _ _ _ _ (by omega)).tr (st _ _ _ _ (by omega))).tr (st _ _ _ _ (by omega))).tr (st _ _ _ _ (by omega))).tr (st _ _ _ _ (by omega))
  refine uX7_takesKind g c ⟨rc, fun c1 => ?_, fun c1 => ⟨fun c2 => ?_, fun c2 => ⟨fun c3 => ?_, fun c3 => hN (by rw [if_neg c1, if_neg c2, if_neg c3])⟩⟩⟩
  · refine uX7_takesKind_20 g c ⟨rc, fun z => absurd c1 z, fun _ => leaf 0 (by omega) (fun q' e => hS q' (by rw [if_pos c1]; exact e))⟩
  · refine uX7_takesKind_20 g c ⟨rc, fun _ => ⟨fun z => absurd c2 z, fun _ => leaf 1 (by omega) (fun q' e => hS q' (by rw [if_neg c1, if_pos c2]; exact e))⟩, fun z => absurd z c1⟩
  · refine uX7_takesKind_20 g c ⟨rc, fun _ => ⟨fun _ => leaf 2 (by omega) (fun q' e => hS q' (by rw [if_neg c1, if_neg c2, if_pos c3]; exact e)), fun z => absurd z c2⟩, fun z => absurd z c1⟩
end XX1

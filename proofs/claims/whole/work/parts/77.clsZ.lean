/-! the class's reader: ages; a letter is taken; a text is whole -/
section XZ1
variable {P : Int → GS → Prop} {C : Nat → Int} {q : QQ} {p : Nat} {g : GS}
theorem X_mayB {k a : Int} (rk : rng k) (ra : rng a) (hT : k ≠ 0 → (if k = 1 then 14 else 0) ≤ a → a ≤ 99 → P 1 g) (hF : ¬ (k ≠ 0 ∧ (if k = 1 then 14 else 0) ≤ a ∧ a ≤ 99) → P 0 g) : MXi mX9_mayHaveAge [vi k, vi a] g P := by
  refine uX9_mayHaveAge g k a ⟨rk, fun c => hF (fun z => z.1 c), fun c => ?_⟩
  refine uX9_leastAge g k ⟨rk, fun d => ⟨ra, rng_0, fun e => hF ?_, fun e => ⟨fun f => hF ?_, fun f => hT c ?_ f⟩⟩, fun d => ⟨ra, ⟨by decide, by decide⟩, fun e => hF ?_, fun e => ⟨fun f => hF ?_, fun f => hT c ?_ f⟩⟩⟩
  · rw [if_neg d]; omega
  · rw [if_neg d]; omega
  · rw [if_neg d]; exact e
  · rw [if_pos d]; omega
  · rw [if_pos d]; omega
  · rw [if_pos d]; exact e
/-- what it holds in an age -/
theorem X_ageF {tk : Nat} (h : RdX C q p tk g) (hw : WFQ p q) (hs : 8 ≤ qS q) : g.1 3 2 = qK q (qN q - 1) ∧ (qK q (qN q - 1) = 1 ∨ qK q (qN q - 1) = 2) ∧ (-1 ≤ qA q (qN q - 1) ∧ qA q (qN q - 1) ≤ 99) ∧ ((qS q = 8 ∧ g.1 3 9 = 0 ∧ g.1 3 6 = 0) ∨ (qS q = 9 ∧ qK q (qN q - 1) = 1 ∧ 1 ≤ qA q (qN q - 1) ∧ qA q (qN q - 1) ≤ 9 ∧ g.1 3 9 = 1 ∧ g.1 3 6 = qA q (qN q - 1)) ∨ (qS q = 10 ∧ g.1 3 9 = 1 ∧ qA q (qN q - 1) = 0 ∧ g.1 3 6 = 0 ∧ qK q (qN q - 1) = 2) ∨ (qS q = 10 ∧ g.1 3 9 = 2 ∧ 0 ≤ qA q (qN q - 1) ∧ (qK q (qN q - 1) = 1 → 14 ≤ qA q (qN q - 1)) ∧ g.1 3 6 = qA q (qN q - 1)) ∨ (qS q = 11 ∧ qK q (qN q - 1) = 2 ∧ 1 ≤ qA q (qN q - 1) ∧ qA q (qN q - 1) ≤ 9 ∧ g.1 3 9 = 1 ∧ g.1 3 6 = qA q (qN q - 1))) := by
  obtain ⟨w1, -, w3, w4, -, w6⟩ := hw
  have hcur := (w3 (by omega)).1
  obtain ⟨kk, -, -, aa⟩ := w4 (qN q - 1) (by omega)
  obtain ⟨-, -, -, -, -, -, -, -, v9, v10, v11, v12⟩ := w6 (by omega)
  obtain ⟨b1, b2, b3, -, -, -, -, b5, b6, b7, b8, b9⟩ := h.2.2.2.2 (by omega)
  obtain ⟨b10, b11⟩ := b5 hs
  have hk : qK q (qN q - 1) = 1 ∨ qK q (qN q - 1) = 2 := kk.resolve_left b11
  refine ⟨b1, hk, aa, ?_⟩
  have hcase : qS q = 8 ∨ qS q = 9 ∨ qS q = 10 ∨ qS q = 11 := by omega
  rcases hcase with z | z | z | z
  · exact Or.inl ⟨z, b6 z⟩
  · obtain ⟨y1, y2, y3⟩ := v10 z
    exact Or.inr (Or.inl ⟨z, y1, y2, y3, b8 (Or.inl z), b7 (by omega)⟩)
  · obtain ⟨y1, y2⟩ := b9 z
    have y3 := v12 z
    have y4 := b7 (by omega)
    rcases y1 with ⟨x1, x2⟩ | x1
    · refine Or.inr (Or.inr (Or.inl ⟨z, x1, x2, by rw [y4, x2], ?_⟩))
      rcases hk with k | k
      · have := y2 k
        omega
      · exact k
    · exact Or.inr (Or.inr (Or.inr (Or.inl ⟨z, x1, y3, y2, y4⟩)))
  · obtain ⟨y1, y2, y3⟩ := v11 z
    exact Or.inr (Or.inr (Or.inr (Or.inr ⟨z, y1, y2, y3, b8 (Or.inr z), b7 (by omega)⟩)))
/-- whether the age that was read can stand -/
theorem X_ageW {tk : Nat} (h : RdX C q p tk g) (hw : WFQ p q) (hs : 8 ≤ qS q) (hT : 10 ≤ qS q → P 1 g) (hF : qS q ≤ 9 → P 0 g) : MXi mX7_ageIsWhole [vr 3] g P := by
  obtain ⟨b1, hk, aa, hc⟩ := X_ageF h hw hs
  clear h hw hs
  refine uX7_ageIsWhole g ?_
  rcases hc with ⟨z, z1, z2⟩ | ⟨z, z1, z2, z3, z4, z5⟩ | ⟨z, z1, z2, z3, z4⟩ | ⟨z, z1, z2, z3, z4⟩ | ⟨z, z1, z2, z3, z4, z5⟩
  · rw [z1]
    exact ⟨rng_0, fun _ => hF (by omega), fun y => by omega⟩
  · rw [z4, b1, z5, z1]
    refine ⟨⟨by decide, by decide⟩, fun y => by omega, fun _ => ?_⟩
    exact X_mayB ⟨by decide, by decide⟩ ⟨by omega, by omega⟩ (fun _ c2 _ => by rw [if_pos rfl] at c2; omega) (fun _ => ⟨rng_0, fun _ => hF (by omega), fun y => absurd rfl y⟩)
  · rw [z1, b1, z3, z4]
    refine ⟨⟨by decide, by decide⟩, fun y => by omega, fun _ => ?_⟩
    exact X_mayB ⟨by decide, by decide⟩ rng_0 (fun _ _ _ => ⟨⟨by decide, by decide⟩, fun y => absurd y (by decide), fun _ => hT (by omega)⟩) (fun c => absurd ⟨by decide, by decide, by decide⟩ c)
  · rw [z1, b1, z4]
    refine ⟨⟨by decide, by decide⟩, fun y => by omega, fun _ => ?_⟩
    refine X_mayB ⟨by omega, by omega⟩ ⟨by omega, by omega⟩ (fun _ _ _ => ⟨⟨by decide, by decide⟩, fun y => absurd y (by decide), fun _ => hT (by omega)⟩) (fun c => absurd ⟨by omega, ?_, by omega⟩ c)
    by_cases x : qK q (qN q - 1) = 1
    · rw [if_pos x]; exact z3 x
    · rw [if_neg x]; exact z2
  · rw [z4, b1, z5, z1]
    refine ⟨⟨by decide, by decide⟩, fun y => by omega, fun _ => ?_⟩
    exact X_mayB ⟨by decide, by decide⟩ ⟨by omega, by omega⟩ (fun _ _ _ => ⟨⟨by decide, by decide⟩, fun y => absurd y (by decide), fun _ => hT (by omega)⟩) (fun c => absurd ⟨by decide, by rw [if_neg (by decide)]; omega, by omega⟩ c)
theorem X_goesOn {f : Int} (rf : 0 ≤ f ∧ f ≤ 9) (hs : 8 ≤ qS q) {tk : Nat} (h : RdX C q p tk g) (hw : WFQ p q) (hT : (qS q = 8 → (0 < f ∨ qK q (qN q - 1) ≠ 1)) → (qS q = 9 → 14 ≤ 10 * qA q (qN q - 1) + f) → qS q ≠ 10 → P 1 g) (hF : ¬ ((qS q = 8 → (0 < f ∨ qK q (qN q - 1) ≠ 1)) ∧ (qS q = 9 → 14 ≤ 10 * qA q (qN q - 1) + f) ∧ qS q ≠ 10) → P 0 g) : MXi mX7_ageGoesOnWith [vr 3, vi f] g P := by
  obtain ⟨b1, hk, aa, hc⟩ := X_ageF h hw hs
  clear h hw hs
  refine uX7_ageGoesOnWith g f ?_
  rcases hc with ⟨z, z1, z2⟩ | ⟨z, z1, z2, z3, z4, z5⟩ | ⟨z, z1, z2, z3, z4⟩ | ⟨z, z1, z2, z3, z4⟩ | ⟨z, z1, z2, z3, z4, z5⟩
  · rw [z1, b1]
    refine ⟨rng_0, fun y => absurd rfl y, fun _ => ⟨⟨by omega, by omega⟩, fun d => hT (fun _ => Or.inl d) (fun y => by omega) (by omega), fun d => ?_⟩⟩
    refine uX9_leastAge g _ ⟨⟨by omega, by omega⟩, fun e => ⟨rng_0, fun y => absurd rfl y, fun _ => hT (fun _ => Or.inr e) (fun y => by omega) (by omega)⟩, fun e => ⟨⟨by decide, by decide⟩, fun _ => hF (fun y => ?_), fun y => absurd y (by decide)⟩⟩
    rcases y.1 z with x | x
    · omega
    · exact x e
  · rw [z4, b1, z5, z1]
    refine ⟨⟨by decide, by decide⟩, fun _ => ⟨fun y => absurd rfl y, fun _ => ⟨⟨by omega, by omega⟩, fun y => by omega, fun _ => ?_⟩⟩, fun y => absurd y (by decide)⟩
    refine X_mayB ⟨by decide, by decide⟩ ⟨by omega, by omega⟩ (fun _ c2 _ => ⟨⟨by decide, by decide⟩, fun y => absurd y (by decide), fun _ => hT (fun y => by omega) (fun _ => ?_) (by omega)⟩) (fun c => ⟨rng_0, fun _ => hF (fun y => c ⟨by decide, ?_, by omega⟩), fun y => absurd rfl y⟩)
    · rw [if_pos rfl] at c2; omega
    · have := y.2.1 z
      rw [if_pos rfl]; omega
  · rw [z1, z3]
    exact ⟨⟨by decide, by decide⟩, fun _ => ⟨fun y => absurd rfl y, fun _ => ⟨rng_0, fun _ => hF (fun y => y.2.2 z), fun y => by omega⟩⟩, fun y => absurd y (by decide)⟩
  · rw [z1]
    exact ⟨⟨by decide, by decide⟩, fun _ => ⟨fun _ => hF (fun y => y.2.2 z), fun y => absurd y (by decide)⟩, fun y => absurd y (by decide)⟩
  · rw [z4, b1, z5, z1]
    refine ⟨⟨by decide, by decide⟩, fun _ => ⟨fun y => absurd rfl y, fun _ => ⟨⟨by omega, by omega⟩, fun y => by omega, fun _ => ?_⟩⟩, fun y => absurd y (by decide)⟩
    exact X_mayB ⟨by decide, by decide⟩ ⟨by omega, by omega⟩ (fun _ _ _ => ⟨⟨by decide, by decide⟩, fun y => absurd y (by decide), fun _ => hT (fun y => by omega) (fun y => by omega) (by omega)⟩) (fun c => absurd ⟨by decide, by rw [if_neg (by decide)]; omega, by omega⟩ c)
theorem X_tAge {tk : Nat} {c : Int} (h : RdX C q p tk g) (hw : WFQ p q) (hs : 8 ≤ qS q) (rc : rng c) (hS : ∀ q', rT q c = some q' → ∀ g', RdX C q' (p + 1) tk g' → Kx SR g g' → P 1 g') (hN : rT q c = none → P 0 g) : MXi mX7_takesInAge [vr 3, vi c] g P := by
  have hw0 := hw
  have h0 := h
  obtain ⟨c1, hk, aa, hc⟩ := X_ageF h hw hs
  have w1 := hw.1
  obtain ⟨b1, b2, b3, ⟨st, s1, s2, s3, s4⟩, -, -, -, b5, -⟩ := h.2.2.2.2 (by omega)
  obtain ⟨b10, b11⟩ := b5 hs
  have hr : rT q c = (if qS q = 8 then (if qK q (qN q - 1) = 1 then (if 49 ≤ c ∧ c ≤ 57 then some (qAg q 9 (c - 48)) else none) else if 48 ≤ c ∧ c ≤ 57 then some (qAg q (if c = 48 then 10 else 11) (c - 48)) else none)
      else if qS q = 9 then (if (48 ≤ c ∧ c ≤ 57) ∧ (qK q (qN q - 1) = 2 ∨ 14 ≤ 10 * qA q (qN q - 1) + (c - 48)) then some (qAg q 10 (10 * qA q (qN q - 1) + (c - 48))) else none)
      else if c = 59 then some (qTo q 0)
      else if qS q = 11 then (if (48 ≤ c ∧ c ≤ 57) ∧ (qK q (qN q - 1) = 2 ∨ 14 ≤ 10 * qA q (qN q - 1) + (c - 48)) then some (qAg q 10 (10 * qA q (qN q - 1) + (c - 48))) else none)
      else none) := by
    unfold rT
    rw [if_neg (show ¬ qS q = 0 by omega), if_neg (show ¬ qS q ≤ 2 by omega), if_neg (show ¬ qS q = 3 by omega), if_neg (show ¬ qS q = 4 by omega), if_neg (show ¬ qS q ≤ 6 by omega), if_neg (show ¬ qS q = 7 by omega)]
  rw [hr] at hS hN
  -- a figure is taken: the age grows
  have fig : ∀ (s : Nat) (a : Int), 9 ≤ s → s ≤ 11 → a = (g.1 3 6) * 10 + (c - 48) → (s = 9 ∨ s = 11 → g.1 3 9 = 0) → (s = 10 → ((g.1 3 9 = 0 ∧ a = 0) ∨ g.1 3 9 = 1) ∧ (qK q (qN q - 1) = 1 → 14 ≤ a)) → (∀ g', RdX C (qAg q s a) (p + 1) tk g' → Kx SR g g' → P 1 g') → ∀ g1, g1 = gI g 3 6 (((g.1 3 6) * 10) + (c - 48)) → ∀ g2, g2 = gI g1 3 9 ((g1.1 3 9) + 1) → P 1 g2 := by
    intro s a h9 h11 ha hsA hs10 hgo g1 e1 g2 e2
    have k2 : Kx (fun a k => a = 3 ∧ k ≠ 1 ∧ k ≠ 8) g g2 := by rw [e2, e1]; exact (K3 (by decide)).tr (K3 (by decide))
    have vj : ∀ j, j ≠ 6 → j ≠ 9 → g2.1 3 j = g.1 3 j := fun j h1 h2 => by rw [e2, gI_ne (fun z => h2 z.2), e1, gI_ne (fun z => h1 z.2)]
    have va : g2.1 3 6 = a := by rw [e2, gI_ne (fun z => absurd z.2 (by decide)), e1, gI_eq, ha]
    have vf : g2.1 3 9 = g.1 3 9 + 1 := by rw [e2, gI_eq, e1, gI_ne (fun z => absurd z.2 (by decide))]
    obtain ⟨d1, d2, d3⟩ := RdX_hd (q' := qAg q s a) h rfl (fun _ => rfl) k2
    have hA : qA (qAg q s a) (qN (qAg q s a) - 1) = a := fU_eq
    clear hr hS hN hc h0 hw0 hw h
    refine hgo g2 ⟨d1, d2, d3, fun z => absurd (show s = 0 from z) (by omega), fun _ => ⟨?_, ?_, ?_, ⟨st, ?_, ?_, fun z => absurd (show s ≤ 2 from z) (by omega), s4⟩, fun z => absurd (show s ≤ 2 from z) (by omega), fun _ z => absurd (show s ≤ 6 from z) (by omega), fun z => absurd (show s = 7 from z) (by omega), fun _ => ⟨?_, b11⟩, fun z => absurd (show s = 8 from z) (by omega), fun _ => ?_, fun z => ?_, fun z => ⟨?_, fun y => ?_⟩⟩⟩ (K3R k2)
    · rw [vj 2 (by decide) (by decide)]; exact b1
    · rw [vj 4 (by decide) (by decide)]; exact b2
    · rw [vj 5 (by decide) (by decide)]; exact b3
    · rw [vj 3 (by decide) (by decide)]; exact s1
    · show st + qL q (qN q - 1) ≤ p + 1
      omega
    · rw [vj 7 (by decide) (by decide)]; exact b10
    · rw [hA]; exact va
    · have z : s = 9 ∨ s = 11 := z
      rw [vf, hsA z]; rfl
    · have z : s = 10 := z
      rw [hA, vf]
      rcases (hs10 z).1 with ⟨y, y2⟩ | y
      · exact Or.inl ⟨by rw [y]; rfl, y2⟩
      · exact Or.inr (by rw [y]; rfl)
    · rw [hA]; exact (hs10 z).2 y
  -- no figure, no end
  have bad : c ≠ 59 → ¬ (48 ≤ c ∧ c ≤ 57) → P 0 g := by
    intro e1 e2
    refine hN ?_
    by_cases y8 : qS q = 8
    · rw [if_pos y8]
      by_cases k1 : qK q (qN q - 1) = 1
      · rw [if_pos k1, if_neg (by omega)]
      · rw [if_neg k1, if_neg e2]
    · rw [if_neg y8]
      by_cases y9 : qS q = 9
      · rw [if_pos y9, if_neg (fun z => e2 z.1)]
      · rw [if_neg y9, if_neg e1]
        by_cases y11 : qS q = 11
        · rw [if_pos y11, if_neg (fun z => e2 z.1)]
        · rw [if_neg y11]
  clear hr
  refine uX7_takesInAge g c ⟨rc, fun e1 => ⟨fun e2 => bad e1 (by omega), fun e2 => ⟨fun e3 => bad e1 (by omega), fun e3 => ?_⟩⟩, fun e1 => ?_⟩
  · refine X_goesOn (C := C) (q := q) (p := p) ⟨by omega, by omega⟩ hs h0 hw0 (fun h1 h2 h3 => ⟨⟨by decide, by decide⟩, fun _ => ?_, fun z => absurd z (by decide)⟩) (fun h1 => ⟨rng_0, fun z => absurd rfl z, fun _ => hN ?_⟩)
    · clear bad hN h0 hw0 hw h
      rcases hc with ⟨z, z1, z2⟩ | ⟨z, z1, z2, z3, z4, z5⟩ | ⟨z, z1, z2, z3, z4⟩ | ⟨z, z1, z2, z3, z4⟩ | ⟨z, z1, z2, z3, z4, z5⟩
      · rw [if_pos z] at hS
        by_cases k1 : qK q (qN q - 1) = 1
        · have := (h1 z).resolve_right (fun y => y k1)
          rw [if_pos k1, if_pos ⟨by omega, e3⟩] at hS
          exact fig 9 (c - 48) (by decide) (by decide) (by rw [z2]; omega) (fun _ => z1) (fun y => absurd y (by decide)) (fun g' => hS _ rfl g')
        · rw [if_neg k1, if_pos ⟨e2, e3⟩] at hS
          by_cases z0 : c = 48
          · rw [if_pos z0] at hS
            exact fig 10 (c - 48) (by decide) (by decide) (by rw [z2]; omega) (fun y => by rcases y with y | y <;> exact absurd y (by decide)) (fun _ => ⟨Or.inl ⟨z1, by rw [z0]; rfl⟩, fun y => absurd y k1⟩) (fun g' => hS _ rfl g')
          · rw [if_neg z0] at hS
            exact fig 11 (c - 48) (by decide) (by decide) (by rw [z2]; omega) (fun _ => z1) (fun y => absurd y (by decide)) (fun g' => hS _ rfl g')
      · have h14 := h2 z
        rw [if_neg (show ¬ qS q = 8 by rw [z]; decide), if_pos z, if_pos ⟨⟨e2, e3⟩, Or.inr h14⟩] at hS
        exact fig 10 (10 * qA q (qN q - 1) + (c - 48)) (by decide) (by decide) (by rw [z5]; omega) (fun y => by rcases y with y | y <;> exact absurd y (by decide)) (fun _ => ⟨Or.inr z4, fun _ => h14⟩) (fun g' => hS _ rfl g')
      · exact absurd z h3
      · exact absurd z h3
      · rw [if_neg (show ¬ qS q = 8 by rw [z]; decide), if_neg (show ¬ qS q = 9 by rw [z]; decide), if_neg e1, if_pos z, if_pos ⟨⟨e2, e3⟩, Or.inl z1⟩] at hS
        exact fig 10 (10 * qA q (qN q - 1) + (c - 48)) (by decide) (by decide) (by rw [z5]; omega) (fun y => by rcases y with y | y <;> exact absurd y (by decide)) (fun _ => ⟨Or.inr z4, fun y => by rw [z1] at y; exact absurd y (by decide)⟩) (fun g' => hS _ rfl g')
    · clear fig bad hS h0 hw0 hw h
      rcases hc with ⟨z, z1, z2⟩ | ⟨z, z1, z2, z3, z4, z5⟩ | ⟨z, z1, z2, z3, z4⟩ | ⟨z, z1, z2, z3, z4⟩ | ⟨z, z1, z2, z3, z4, z5⟩
      · rw [if_pos z]
        by_cases k1 : qK q (qN q - 1) = 1
        · rw [if_pos k1, if_neg (fun y => h1 ⟨fun _ => Or.inl (by omega), fun x => by rw [z] at x; exact absurd x (by decide), by rw [z]; decide⟩)]
        · exact absurd ⟨fun _ => Or.inr k1, fun x => by rw [z] at x; exact absurd x (by decide), by rw [z]; decide⟩ h1
      · rw [if_neg (show ¬ qS q = 8 by rw [z]; decide), if_pos z, if_neg (fun y => h1 ⟨fun x => by rw [z] at x; exact absurd x (by decide), fun _ => ?_, by rw [z]; decide⟩)]
        rcases y.2 with x | x
        · rw [z1] at x; exact absurd x (by decide)
        · exact x
      · rw [if_neg (show ¬ qS q = 8 by rw [z]; decide), if_neg (show ¬ qS q = 9 by rw [z]; decide), if_neg e1, if_neg (show ¬ qS q = 11 by rw [z]; decide)]
      · rw [if_neg (show ¬ qS q = 8 by rw [z]; decide), if_neg (show ¬ qS q = 9 by rw [z]; decide), if_neg e1, if_neg (show ¬ qS q = 11 by rw [z]; decide)]
      · exact absurd ⟨fun x => by rw [z] at x; exact absurd x (by decide), fun x => by rw [z] at x; exact absurd x (by decide), by rw [z]; decide⟩ h1
  · refine X_ageW h0 hw0 hs (fun h10 => ⟨⟨by decide, by decide⟩, fun _ => ?_, fun z => absurd z (by decide)⟩) (fun h9 => ⟨rng_0, fun z => absurd rfl z, fun _ => hN ?_⟩)
    · rw [if_neg (show ¬ qS q = 8 by omega), if_neg (show ¬ qS q = 9 by omega), if_pos e1] at hS
      exact X_startE (fun g' k' h7 h4 h5 h6 h9 => hS _ rfl g' (RdX_end h k' h7 h4 h5 h6 h9) (k'.mo (fun a k z => Or.inl z.1)))
    · clear hS hc fig bad h0 hw0 hw h
      by_cases y8 : qS q = 8
      · rw [if_pos y8]
        by_cases k1 : qK q (qN q - 1) = 1
        · rw [if_pos k1, if_neg (by omega)]
        · rw [if_neg k1, if_neg (by omega)]
      · rw [if_neg y8, if_pos (by omega), if_neg (by omega)]
/-- the reader takes a letter or not -/
theorem X_takes {c : Int} (h : RdX C q p p g) (hw : WFQ p q) (hC : C p = c) (rc : rng c) (hS : ∀ q', rT q c = some q' → ∀ g', RdX C q' (p + 1) (p + 1) g' → Kx SR g g' → P 1 g') (hN : rT q c = none → P 0 g) : MXi mX7_takes [vr 3, vi c] g P := by
  have fin1 : ∀ q', rT q c = some q' → ∀ g1, RdX C q' (p + 1) p g1 → Kx SR g g1 → rng (1 : Int) ∧ ((1 : Int) = 0 → (((1 : Int) = 0 ∨ (1 : Int) = 1) ∧ P 1 g1)) ∧ (¬ (1 : Int) = 0 → (∀ g6 : GS, g6 = gI g1 3 8 ((g1.1 3 8) + 1) → (((1 : Int) = 0 ∨ (1 : Int) = 1) ∧ P 1 g6))) := by
    intro q' e g1 hr hk
    refine ⟨⟨by decide, by decide⟩, fun z => absurd z (by decide), fun _ g2 e2 => ⟨Or.inr rfl, hS q' e g2 ?_ (hk.tr (by rw [e2]; exact Kx.st (Or.inl rfl)))⟩⟩
    have vj : ∀ a j, ¬ (a = 3 ∧ j = 8) → g2.1 a j = g1.1 a j := fun a j hj => by rw [e2, gI_ne hj]
    unfold RdX at hr ⊢
    rw [vj 3 1 (by omega), vj 4 0 (by omega), vj 4 1 (by omega), vj 4 2 (by omega), vj 3 2 (by omega), vj 3 3 (by omega), vj 3 4 (by omega), vj 3 5 (by omega), vj 3 6 (by omega), vj 3 7 (by omega), vj 3 9 (by omega)]
    exact ⟨hr.1, by rw [e2, gI_eq, hr.2.1]; rfl, hr.2.2⟩
  have fin0 : rT q c = none → rng (0 : Int) ∧ ((0 : Int) = 0 → (((0 : Int) = 0 ∨ (0 : Int) = 1) ∧ P 0 g)) ∧ (¬ (0 : Int) = 0 → (∀ g6 : GS, g6 = gI g 3 8 ((g.1 3 8) + 1) → (((0 : Int) = 0 ∨ (0 : Int) = 1) ∧ P 0 g6))) := fun e => ⟨rng_0, fun _ => ⟨Or.inl rfl, hN e⟩, fun z => absurd rfl z⟩
  have w1 := hw.1
  have st : (qS q = 0 → g.1 3 7 = 0) ∧ (1 ≤ qS q → qS q ≤ 2 → g.1 3 7 = 1) ∧ (3 ≤ qS q → qS q ≤ 6 → g.1 3 7 = 2) ∧ (qS q = 7 → g.1 3 7 = 3) ∧ (8 ≤ qS q → g.1 3 7 = 4) := by
    obtain ⟨-, -, -, h0, h1⟩ := h
    refine ⟨fun z => (h0 z).1, fun z y => ?_, fun z y => ?_, fun z => ?_, fun z => ?_⟩
    · exact ((h1 (by omega)).2.2.2.2.1 y).1
    · exact ((h1 (by omega)).2.2.2.2.2.1 z y).1
    · exact ((h1 (by omega)).2.2.2.2.2.2.1 z).1
    · exact ((h1 (by omega)).2.2.2.2.2.2.2.1 z).1
  obtain ⟨t0, t1, t2, t3, t4⟩ := st
  have r7 : 0 ≤ g.1 3 7 ∧ g.1 3 7 ≤ 4 := by
    have hcase : qS q = 0 ∨ (1 ≤ qS q ∧ qS q ≤ 2) ∨ (3 ≤ qS q ∧ qS q ≤ 6) ∨ qS q = 7 ∨ 8 ≤ qS q := by omega
    rcases hcase with z | z | z | z | z
    · rw [t0 z]; omega
    · rw [t1 z.1 z.2]; omega
    · rw [t2 z.1 z.2]; omega
    · rw [t3 z]; omega
    · rw [t4 z]; omega
  refine uX7_takes g c ⟨⟨by omega, by omega⟩, fun d => ?_, fun d => ?_, fun d => ?_, fun d => ?_, fun d => ?_⟩
  · have h8 : 8 ≤ qS q := by
      by_cases z : 8 ≤ qS q
      · exact z
      · exfalso
        have hcase : qS q = 0 ∨ (1 ≤ qS q ∧ qS q ≤ 2) ∨ (3 ≤ qS q ∧ qS q ≤ 6) ∨ qS q = 7 := by omega
        rcases hcase with z | z | z | z
        · have := t0 z; omega
        · have := t1 z.1 z.2; omega
        · have := t2 z.1 z.2; omega
        · have := t3 z; omega
    exact X_tAge h hw h8 rc fin1 fin0
  · have h0 : qS q = 0 := by
      by_cases z : qS q = 0
      · exact z
      · exfalso
        have hcase : (1 ≤ qS q ∧ qS q ≤ 2) ∨ (3 ≤ qS q ∧ qS q ≤ 6) ∨ qS q = 7 ∨ 8 ≤ qS q := by omega
        rcases hcase with z | z | z | z
        · have := t1 z.1 z.2; omega
        · have := t2 z.1 z.2; omega
        · have := t3 z; omega
        · have := t4 z; omega
    exact X_tKind (tk := p) h h0 rc fin1 fin0
  · have h0 : qS q = 1 ∨ qS q = 2 := by
      by_cases z : 1 ≤ qS q ∧ qS q ≤ 2
      · omega
      · exfalso
        have hcase : qS q = 0 ∨ (3 ≤ qS q ∧ qS q ≤ 6) ∨ qS q = 7 ∨ 8 ≤ qS q := by omega
        rcases hcase with z | z | z | z
        · have := t0 z; omega
        · have := t2 z.1 z.2; omega
        · have := t3 z; omega
        · have := t4 z; omega
    exact X_tName h hw h0 hC rc fin1 fin0
  · have h0 : 3 ≤ qS q ∧ qS q ≤ 6 := by
      by_cases z : 3 ≤ qS q ∧ qS q ≤ 6
      · exact z
      · exfalso
        have hcase : qS q = 0 ∨ (1 ≤ qS q ∧ qS q ≤ 2) ∨ qS q = 7 ∨ 8 ≤ qS q := by omega
        rcases hcase with z | z | z | z
        · have := t0 z; omega
        · have := t1 z.1 z.2; omega
        · have := t3 z; omega
        · have := t4 z; omega
    exact X_tYear h hw h0 rc fin1 fin0
  · have h0 : qS q = 7 := by
      by_cases z : qS q = 7
      · exact z
      · exfalso
        have hcase : qS q = 0 ∨ (1 ≤ qS q ∧ qS q ≤ 2) ∨ (3 ≤ qS q ∧ qS q ≤ 6) ∨ 8 ≤ qS q := by omega
        rcases hcase with z | z | z | z
        · have := t0 z; omega
        · have := t1 z.1 z.2; omega
        · have := t2 z.1 z.2; omega
        · have := t4 z; omega
    exact X_tBehind h hw h0 rc fin1 fin0
theorem X_isWhole {tk : Nat} (h : RdX C q p tk g) (hw : WFQ p q) (hT : qEnd q → P 1 g) (hF : ¬ qEnd q → P 0 g) : MXi mX7_isWhole [vr 3] g P := by
  have w1 := hw.1
  have st : (qS q = 0 → g.1 3 7 = 0) ∧ (1 ≤ qS q → qS q ≤ 2 → g.1 3 7 = 1) ∧ (3 ≤ qS q → qS q ≤ 6 → g.1 3 7 = 2) ∧ (qS q = 7 → g.1 3 7 = 3) ∧ (8 ≤ qS q → g.1 3 7 = 4) := by
    obtain ⟨-, -, -, h0, h1⟩ := h
    refine ⟨fun z => (h0 z).1, fun z y => ?_, fun z y => ?_, fun z => ?_, fun z => ?_⟩
    · exact ((h1 (by omega)).2.2.2.2.1 y).1
    · exact ((h1 (by omega)).2.2.2.2.2.1 z y).1
    · exact ((h1 (by omega)).2.2.2.2.2.2.1 z).1
    · exact ((h1 (by omega)).2.2.2.2.2.2.2.1 z).1
  obtain ⟨t0, t1, t2, t3, t4⟩ := st
  unfold qEnd at hT hF
  by_cases z8 : 8 ≤ qS q
  · have e := t4 z8
    refine uX7_isWhole g ?_
    rw [e]
    refine ⟨⟨by decide, by decide⟩, fun z => absurd z (by decide), fun _ => ⟨fun z => absurd rfl z, fun _ => ?_⟩⟩
    refine X_ageW h hw z8 (fun c => ⟨⟨by decide, by decide⟩, fun z => absurd z (by decide), fun _ => hT (by omega)⟩) (fun c => ⟨rng_0, fun _ => hF (by omega), fun z => absurd rfl z⟩)
  · by_cases z7 : qS q = 7
    · have e := t3 z7
      refine uX7_isWhole g ?_
      rw [e]
      exact ⟨⟨by decide, by decide⟩, fun _ => hT (by omega), fun z => absurd rfl z⟩
    · have e : 0 ≤ g.1 3 7 ∧ g.1 3 7 ≤ 2 := by
        have hcase : qS q = 0 ∨ (1 ≤ qS q ∧ qS q ≤ 2) ∨ (3 ≤ qS q ∧ qS q ≤ 6) := by omega
        rcases hcase with z | z | z
        · rw [t0 z]; omega
        · rw [t1 z.1 z.2]; omega
        · rw [t2 z.1 z.2]; omega
      refine uX7_isWhole g ⟨⟨by omega, by omega⟩, fun z => by omega, fun _ => ⟨fun _ => hF (by omega), fun z => by omega⟩⟩
end XZ1

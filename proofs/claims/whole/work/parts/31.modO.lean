/-! the reference takes letters -/
theorem rT_0 {q : QQ} {c : Int} (h : qS q = 0) : rT q c = if c = 98 then some (qBeg q 0) else if c = 119 then some (qBeg q 1) else if c = 100 then some (qBeg q 2) else none := by
  unfold rT; rw [if_pos h]
theorem rT_2 {q : QQ} {c : Int} (h : qS q = 1 ∨ qS q = 2) : rT q c = if c = 58 ∧ qS q = 2 then some (qTo q 3) else if (97 ≤ c ∧ c ≤ 122) ∧ qL q (qN q - 1) < 8 then some (qLet q c) else none := by
  unfold rT; rw [if_neg (by omega), if_pos (by omega)]
theorem rT_3 {q : QQ} {c : Int} (h : qS q = 3) : rT q c = if c = 49 then some (qYr q c) else none := by
  unfold rT; rw [if_neg (by omega), if_neg (by omega), if_pos h]
theorem rT_4 {q : QQ} {c : Int} (h : qS q = 4) : rT q c = if 54 ≤ c ∧ c ≤ 56 then some (qYr q c) else none := by
  unfold rT; rw [if_neg (by omega), if_neg (by omega), if_neg (by omega), if_pos h]
theorem rT_6 {q : QQ} {c : Int} (h : qS q = 5 ∨ qS q = 6) : rT q c = if 48 ≤ c ∧ c ≤ 57 then some (qYr q c) else none := by
  unfold rT; rw [if_neg (by omega), if_neg (by omega), if_neg (by omega), if_neg (by omega), if_pos (by omega)]
theorem rT_7 {q : QQ} {c : Int} (h : qS q = 7) : rT q c = if c = 59 then some (qTo q 0) else if c = 46 ∧ qK q (qN q - 1) ≠ 0 then some (qTo q 8) else none := by
  unfold rT; rw [if_neg (by omega), if_neg (by omega), if_neg (by omega), if_neg (by omega), if_neg (by omega), if_pos h]
theorem rT_8 {q : QQ} {c : Int} (h : qS q = 8) : rT q c = if qK q (qN q - 1) = 1 then (if 49 ≤ c ∧ c ≤ 57 then some (qAg q 9 (c - 48)) else none) else if 48 ≤ c ∧ c ≤ 57 then some (qAg q (if c = 48 then 10 else 11) (c - 48)) else none := by
  unfold rT; rw [if_neg (by omega), if_neg (by omega), if_neg (by omega), if_neg (by omega), if_neg (by omega), if_neg (by omega), if_pos h]
theorem rT_9 {q : QQ} {c : Int} (h : qS q = 9) : rT q c = if (48 ≤ c ∧ c ≤ 57) ∧ (qK q (qN q - 1) = 2 ∨ 14 ≤ 10 * qA q (qN q - 1) + (c - 48)) then some (qAg q 10 (10 * qA q (qN q - 1) + (c - 48))) else none := by
  unfold rT; rw [if_neg (by omega), if_neg (by omega), if_neg (by omega), if_neg (by omega), if_neg (by omega), if_neg (by omega), if_neg (by omega), if_pos h]
theorem rT_10 {q : QQ} {c : Int} (h : 10 ≤ qS q) : rT q c = if c = 59 then some (qTo q 0) else if qS q = 11 then (if (48 ≤ c ∧ c ≤ 57) ∧ (qK q (qN q - 1) = 2 ∨ 14 ≤ 10 * qA q (qN q - 1) + (c - 48)) then some (qAg q 10 (10 * qA q (qN q - 1) + (c - 48))) else none) else none := by
  unfold rT; rw [if_neg (by omega), if_neg (by omega), if_neg (by omega), if_neg (by omega), if_neg (by omega), if_neg (by omega), if_neg (by omega), if_neg (by omega)]
section MP
variable {P : Int → MS → Prop}
theorem RepQ_to {q : QQ} {m : MS} (h : RepQ q m) (s : Nat) : RepQ (qTo q s) (mI m 0 12 s) := by
  obtain ⟨h1, h2, h3⟩ := h
  refine ⟨mI_eq, by rw [mI_ne (by omega)]; exact h2, fun i hi => ?_⟩
  rw [mI_ne (by omega), mI_ne (by omega), mI_ne (by omega), mI_ne (by omega)]
  obtain ⟨y1, y2, y3, y4, y5⟩ := h3 i hi
  exact ⟨y1, y2, y3, y4, fun j hj => by rw [mI_ne (by omega)]; exact y5 j hj⟩
theorem M_tName {m : MS} {q : QQ} {c : Int} (hq : RepQ q m) (hn : 1 ≤ qN q ∧ qN q ≤ 18) (hl : ∀ i, i < qN q → qL q i ≤ 8) (hs : qS q = 1 ∨ qS q = 2) (rc : rng c) (hS : ∀ q', rT q c = some q' → ∀ m', RepQ q' m' → Kp SQ m m' → P 1 m') (hN : rT q c = none → ∀ m', Kp SQ m m' → P 0 m') : MMi mX10_takesName [vr 0, vi c, vi ((qN q - 1 : Nat) : Int)] m P := by
  rw [rT_2 hs] at hS hN
  obtain ⟨h1, h2, h3⟩ := hq
  obtain ⟨y1, y2, y3, y4, y5⟩ := h3 (qN q - 1) (by omega)
  have hl1 := hl (qN q - 1) (by omega)
  have rest : ¬ (c = 58 ∧ qS q = 2) → YYi mX10_takesName 21 [some (vr 0), some (vi c), some (vi ((qN q - 1 : Nat) : Int)), none] [] m P := by
    intro hc
    rw [if_neg hc] at hS hN
    refine uX10_takesName_21 m _ _ ?_
    refine M_within rc ⟨by decide, by decide⟩ ⟨by decide, by decide⟩ (fun a => ⟨⟨by decide, by decide⟩, fun z => absurd z (by decide), fun _ => ?_⟩) (fun a => ⟨rng_0, fun _ => M_goes0 (fun m' k => hN (by rw [if_neg (fun z => a z.1)]) m' k), fun z => absurd rfl z⟩)
    simp only [Int.toNat_natCast]
    rw [y4]
    refine ⟨by omega, by omega, ⟨by omega, by omega⟩, fun b => M_goes0 (fun m' k => hN (by rw [if_neg (by omega)]) m' k), fun b => ?_⟩
    rw [show 8 * ((qN q - 1 : Nat) : Int) + ((qL q (qN q - 1) : Nat) : Int) = ((8 * (qN q - 1) + qL q (qN q - 1) : Nat) : Int) by omega, Int.toNat_natCast]
    refine ⟨by omega, by omega, fun m1 e1 m2 e2 => ?_⟩
    refine M_goes1 (hS (qLet q c) (by rw [if_pos ⟨a, by omega⟩]) _ ⟨?_, ?_, fun i hi => ?_⟩ ?_)
    · rw [mI_eq]; rfl
    · rw [mI_ne (by omega), e2, mI_ne (by omega), e1, mI_ne (by omega)]; exact h2
    · have hi : i < qN q := hi
      obtain ⟨z1, z2, z3, z4, z5⟩ := h3 i hi
      show mI m2 0 12 2 9 i = qK q i ∧ mI m2 0 12 2 10 i = qY q i ∧ mI m2 0 12 2 11 i = qA q i ∧ mI m2 0 12 2 12 i = ((fU (qL q) (qN q - 1) (qL q (qN q - 1) + 1) i : Nat) : Int) ∧ ∀ j, j < fU (qL q) (qN q - 1) (qL q (qN q - 1) + 1) i → mI m2 0 12 2 13 (8 * i + j) = fU (qW q) (qN q - 1) (fU (qW q (qN q - 1)) (qL q (qN q - 1)) c) i j
      rw [mI_ne (by omega), mI_ne (by omega), mI_ne (by omega), mI_ne (by omega)]
      refine ⟨?_, ?_, ?_, ?_, fun j hj => ?_⟩
      · rw [e2, mI_ne (by omega), e1, mI_ne (by omega)]; exact z1
      · rw [e2, mI_ne (by omega), e1, mI_ne (by omega)]; exact z2
      · rw [e2, mI_ne (by omega), e1, mI_ne (by omega)]; exact z3
      · rw [e2]
        by_cases e : i = qN q - 1
        · rw [e, mI_eq, fU_eq, e1, mI_ne (by omega), y4]
          omega
        · rw [mI_ne (by omega), fU_ne e, e1, mI_ne (by omega)]
          exact z4
      · rw [mI_ne (by omega), e2, mI_ne (by omega), e1]
        by_cases e : i = qN q - 1
        · rw [e, fU_eq] at hj
          rw [e, fU_eq, fU_if]
          by_cases f : j = qL q (qN q - 1)
          · rw [if_pos f, f, mI_eq]
          · rw [if_neg f, mI_ne (by omega)]
            exact y5 j (by omega)
        · rw [fU_ne e] at hj
          have hl2 := hl i hi
          rw [fU_ne e]
          by_cases g : 8 * i + j = 8 * (qN q - 1) + qL q (qN q - 1)
          · exfalso
            omega
          · rw [mI_ne (by omega)]
            exact z5 j hj
    · rw [e2, e1]
      exact ((Kp.st (SQ_of (by omega))).tr (Kp.st (SQ_of (by omega)))).tr (Kp.st (SQ_of (by omega)))
  refine uX10_takesName m _ _ ⟨rc, fun a => rest (fun z => a z.1), fun a => ?_⟩
  rw [h1]
  refine ⟨⟨by omega, by omega⟩, fun b => rest (fun z => b (by omega)), fun b => ?_⟩
  exact M_goes1 (hS (qTo q 3) (by rw [if_pos ⟨a, by omega⟩]) _ (RepQ_to ⟨h1, h2, h3⟩ 3) (Kp.st (SQ_of (by omega))))
end MP

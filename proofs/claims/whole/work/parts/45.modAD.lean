/-! the reference: strike -/
section MAD
variable {P : Int → MS → Prop} {E : EE}
theorem M_st23 {e N : Nat} (hN : N ≤ 17) : ∀ (t k : Nat) (m : MS), k + t = N → e ≤ k → ∀ m0 : MS, m0 0 2 = (N : Int) → Dn e k m0 m → (∀ m', Dn e N m0 m' → YYi mX10_strike 147 [some (vr 0), some (vi (e : Int)), some (vi 0), none] [] m' P) → YYi mX10_strike 23 [some (vr 0), some (vi (e : Int)), some (vi (k : Int)), none] [] m P := by
  intro t
  induction t with
  | zero =>
    intro k m hk hek m0 h0 hD hP
    have hk : k = N := by omega
    subst hk
    refine uX10_strike_23 m _ _ ?_
    rw [hD.2.2 0 2 (by omega), h0]
    exact ⟨⟨by omega, by omega⟩, ⟨by omega, by omega⟩, fun _ => hP m hD, fun z => by omega⟩
  | succ t ih =>
    intro k m hk hek m0 h0 hD hP
    refine uX10_strike_23 m _ _ ?_
    rw [hD.2.2 0 2 (by omega), h0, show (k : Int) + 1 = ((k + 1 : Nat) : Int) by omega]
    simp only [Int.toNat_natCast]
    refine ⟨⟨by omega, by omega⟩, ⟨by omega, by omega⟩, fun z => by omega, fun _ => ⟨by omega, by omega, by omega, by omega, fun m1 e1 m2 e2 m3 e3 m4 e4 m5 e5 => ?_⟩⟩
    obtain ⟨d1, d2, d3⟩ := hD
    have sk : srI e k (k + 1) = k + 1 := by unfold srI; rw [if_neg (by omega)]
    have nx : ∀ i, (if i = k then k + 1 else srI e k i) = srI e (k + 1) i := by
      intro i
      unfold srI
      by_cases c : i = k
      · rw [if_pos c, if_pos (by omega), c]
      · rw [if_neg c]
        by_cases d : e ≤ i ∧ i < k
        · rw [if_pos d, if_pos (by omega)]
        · rw [if_neg d, if_neg (by omega)]
    have c2 : ∀ i, i < 18 → m5 2 i = m0 2 (srI e (k + 1) i) := by
      intro i hi
      rw [← nx, e5, mI_ne (by omega), e4, mI_ne (by omega), e3, mI_ne (by omega), e2, mI_ne (by omega), e1]
      by_cases c : i = k
      · rw [if_pos c, c, mI_eq, d1 2 (k + 1) (by unfold col; omega) (by omega), sk]
      · rw [if_neg c, mI_ne (by omega)]; exact d1 2 i (by unfold col; omega) hi
    have c3 : ∀ i, i < 18 → m5 3 i = m0 3 (srI e (k + 1) i) := by
      intro i hi
      rw [← nx, e5, mI_ne (by omega), e4, mI_ne (by omega), e3, mI_ne (by omega), e2]
      by_cases c : i = k
      · rw [if_pos c, c, mI_eq, e1, mI_ne (by omega), d1 3 (k + 1) (by unfold col; omega) (by omega), sk]
      · rw [if_neg c, mI_ne (by omega), e1, mI_ne (by omega)]; exact d1 3 i (by unfold col; omega) hi
    have c4 : ∀ i, i < 18 → m5 4 i = m0 4 (srI e (k + 1) i) := by
      intro i hi
      rw [← nx, e5, mI_ne (by omega), e4, mI_ne (by omega), e3]
      by_cases c : i = k
      · rw [if_pos c, c, mI_eq, e2, mI_ne (by omega), e1, mI_ne (by omega), d1 4 (k + 1) (by unfold col; omega) (by omega), sk]
      · rw [if_neg c, mI_ne (by omega), e2, mI_ne (by omega), e1, mI_ne (by omega)]; exact d1 4 i (by unfold col; omega) hi
    have c5 : ∀ i, i < 18 → m5 5 i = m0 5 (srI e (k + 1) i) := by
      intro i hi
      rw [← nx, e5, mI_ne (by omega), e4]
      by_cases c : i = k
      · rw [if_pos c, c, mI_eq, e3, mI_ne (by omega), e2, mI_ne (by omega), e1, mI_ne (by omega), d1 5 (k + 1) (by unfold col; omega) (by omega), sk]
      · rw [if_neg c, mI_ne (by omega), e3, mI_ne (by omega), e2, mI_ne (by omega), e1, mI_ne (by omega)]; exact d1 5 i (by unfold col; omega) hi
    have c7 : ∀ i, i < 18 → m5 7 i = m0 7 (srI e (k + 1) i) := by
      intro i hi
      rw [← nx, e5]
      by_cases c : i = k
      · rw [if_pos c, c, mI_eq, e4, mI_ne (by omega), e3, mI_ne (by omega), e2, mI_ne (by omega), e1, mI_ne (by omega), d1 7 (k + 1) (by unfold col; omega) (by omega), sk]
      · rw [if_neg c, mI_ne (by omega), e4, mI_ne (by omega), e3, mI_ne (by omega), e2, mI_ne (by omega), e1, mI_ne (by omega)]; exact d1 7 i (by unfold col; omega) hi
    have co : ∀ a b, ¬ (a = 2 ∨ a = 3 ∨ a = 4 ∨ a = 5 ∨ a = 7) → m5 a b = m a b := by
      intro a b h
      rw [e5, mI_ne (by omega), e4, mI_ne (by omega), e3, mI_ne (by omega), e2, mI_ne (by omega), e1, mI_ne (by omega)]
    refine M_st103 hek (by omega) 8 0 m5 (by omega) m0 (fun a i ha hi => ?_) (fun i j hi hj => ?_) (fun a b hab => ?_) (fun m6 hD6 => ?_)
    · rcases ha with q | q | q | q | q <;> subst q
      · exact c2 i hi
      · exact c3 i hi
      · exact c4 i hi
      · exact c5 i hi
      · exact c7 i hi
    · rw [if_neg (by omega), co 6 _ (by omega)]; exact d2 i j hi hj
    · rw [co a b (by omega)]; exact d3 a b hab
    · exact ih (k + 1) m6 (by omega) (by omega) m0 h0 hD6 hP
end MAD

/-! the reference reads a text -/
def SQ (a k : Nat) : Prop := (9 ≤ a ∧ a ≤ 13) ∨ (a = 0 ∧ (k = 12 ∨ k = 13))
def RepQ (q : QQ) (m : MS) : Prop := m 0 12 = (qS q : Int) ∧ m 0 13 = (qN q : Int) ∧ (∀ i, i < qN q → m 9 i = qK q i ∧ m 10 i = qY q i ∧ m 11 i = qA q i ∧ m 12 i = (qL q i : Int) ∧ ∀ j, j < qL q i → m 13 (8 * i + j) = qW q i j)
theorem RepM.kSQ {E : EE} {m m' : MS} (h : RepM E m) (hk : Kp SQ m m') : RepM E m' := h.kp hk (fun a k hc hs => by unfold SQ at hs; unfold core at hc; omega)
section MO
variable {P : Int → MS → Prop}
theorem SQ_of {a k : Nat} (h : (9 ≤ a ∧ a ≤ 13) ∨ (a = 0 ∧ (k = 12 ∨ k = 13))) : SQ a k := h
theorem M_goes1 {m : MS} {s : Int} (h : P 1 (mI m 0 12 s)) : MMi mX10_goes [vr 0, vi 1, vi s] m (fun y m' => (y = 0 ∨ y = 1) ∧ P y m') :=
  uX10_goes m 1 s ⟨⟨by decide, by decide⟩, fun z => absurd z (by decide), fun _ m' e => ⟨Or.inr rfl, Or.inr rfl, by rw [e]; exact h⟩⟩
theorem M_goes0 {m : MS} {s : Int} (h : ∀ m', Kp SQ m m' → P 0 m') : MMi mX10_goes [vr 0, vi 0, vi s] m (fun y m' => (y = 0 ∨ y = 1) ∧ P y m') :=
  uX10_goes m 0 s ⟨rng_0, fun _ m' e => ⟨Or.inl rfl, Or.inl rfl, h m' (by rw [e]; exact Kp.st (SQ_of (by omega)))⟩, fun z => absurd rfl z⟩
theorem M_tKind18 {m : MS} {q : QQ} {c k : Int} (hq : RepQ q m) (hn : qN q < 18) (rc : rng c) (hk : (c = 98 ∧ k = 0) ∨ (c = 119 ∧ k = 1) ∨ (c = 100 ∧ k = 2)) (hS : ∀ m', RepQ (qBeg q k) m' → Kp SQ m m' → P 1 m') : YYi mX10_takesKind 18 [some (vr 0), some (vi c), none] [] m P := by
  obtain ⟨h1, h2, h3⟩ := hq
  have leaf : 0 ≤ m 0 13 ∧ m 0 13 < 18 ∧ ∀ m30 : MS, m30 = mI m 9 (m 0 13).toNat k → (0 ≤ m30 0 13 ∧ m30 0 13 < 18 ∧ ∀ m35 : MS, m35 = mI m30 10 (m30 0 13).toNat 0 → (0 ≤ m35 0 13 ∧ m35 0 13 < 18 ∧ ∀ m40 : MS, m40 = mI m35 11 (m35 0 13).toNat (-1) → (0 ≤ m40 0 13 ∧ m40 0 13 < 18 ∧ ∀ m45 : MS, m45 = mI m40 12 (m40 0 13).toNat 0 → (∀ m48 : MS, m48 = mI m45 0 13 ((m45 0 13) + 1) → (MMi mX10_goes [vr 0, vi 1, vi 1] m48 (fun y51 m50 => (y51 = 0 ∨ y51 = 1) ∧ P y51 m50)))))) := by
    refine ⟨by omega, by omega, fun m1 e1 => ?_⟩
    have n1 : m1 0 13 = (qN q : Int) := by rw [e1, mI_ne (by omega)]; exact h2
    refine ⟨by omega, by omega, fun m2 e2 => ?_⟩
    have n2 : m2 0 13 = (qN q : Int) := by rw [e2, mI_ne (by omega)]; exact n1
    refine ⟨by omega, by omega, fun m3 e3 => ?_⟩
    have n3 : m3 0 13 = (qN q : Int) := by rw [e3, mI_ne (by omega)]; exact n2
    refine ⟨by omega, by omega, fun m4 e4 => ?_⟩
    have n4 : m4 0 13 = (qN q : Int) := by rw [e4, mI_ne (by omega)]; exact n3
    intro m5 e5
    rw [h2, Int.toNat_natCast] at e1
    rw [n1, Int.toNat_natCast] at e2
    rw [n2, Int.toNat_natCast] at e3
    rw [n3, Int.toNat_natCast] at e4
    refine M_goes1 (hS _ ⟨?_, ?_, fun i hi => ?_⟩ ?_)
    · rw [mI_eq]; rfl
    · rw [mI_ne (by omega), e5, mI_eq, n4]
      show (qN q : Int) + 1 = ((qN q + 1 : Nat) : Int)
      omega
    · have hi : i < qN q + 1 := hi
      show mI m5 0 12 1 9 i = fU (qK q) (qN q) k i ∧ mI m5 0 12 1 10 i = fU (qY q) (qN q) 0 i ∧ mI m5 0 12 1 11 i = fU (qA q) (qN q) (-1) i ∧ mI m5 0 12 1 12 i = ((fU (qL q) (qN q) 0 i : Nat) : Int) ∧ ∀ j, j < fU (qL q) (qN q) 0 i → mI m5 0 12 1 13 (8 * i + j) = qW q i j
      simp only [fU_if]
      rw [mI_ne (by omega), mI_ne (by omega), mI_ne (by omega), mI_ne (by omega), e5, mI_ne (by omega), mI_ne (by omega), mI_ne (by omega), mI_ne (by omega)]
      by_cases e : i = qN q
      · simp only [if_pos e]
        subst e
        refine ⟨?_, ?_, ?_, ?_, fun j hj => absurd hj (Nat.not_lt_zero _)⟩
        · rw [e4, mI_ne (by omega), e3, mI_ne (by omega), e2, mI_ne (by omega), e1, mI_eq]
        · rw [e4, mI_ne (by omega), e3, mI_ne (by omega), e2, mI_eq]
        · rw [e4, mI_ne (by omega), e3, mI_eq]
        · rw [e4, mI_eq]; rfl
      · simp only [if_neg e]
        obtain ⟨y1, y2, y3, y4, y5⟩ := h3 i (by omega)
        rw [e4, mI_ne (by omega), mI_ne (by omega), mI_ne (by omega), mI_ne (by omega), e3, mI_ne (by omega), mI_ne (by omega), mI_ne (by omega), mI_ne (by omega), e2, mI_ne (by omega), mI_ne (by omega), mI_ne (by omega), mI_ne (by omega), e1, mI_ne (by omega), mI_ne (by omega), mI_ne (by omega), mI_ne (by omega)]
        refine ⟨y1, y2, y3, y4, fun j hj => ?_⟩
        rw [mI_ne (by omega), mI_ne (by omega), mI_ne (by omega), mI_ne (by omega), mI_ne (by omega), mI_ne (by omega)]
        exact y5 j hj
    · rw [e5, e4, e3, e2, e1]
      exact (((((Kp.st (SQ_of (by omega))).tr (Kp.st (SQ_of (by omega)))).tr (Kp.st (SQ_of (by omega)))).tr (Kp.st (SQ_of (by omega)))).tr (Kp.st (SQ_of (by omega)))).tr (Kp.st (SQ_of (by omega)))
  refine uX10_takesKind_18 m c ⟨rc, fun a => ⟨fun b => ?_, fun b => ?_⟩, fun a => ?_⟩
  · rw [show k = 2 by omega] at leaf; exact leaf
  · rw [show k = 1 by omega] at leaf; exact leaf
  · rw [show k = 0 by omega] at leaf; exact leaf
end MO

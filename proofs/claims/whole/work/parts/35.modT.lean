/-! the reference enters what it read -/
def SE (a _ : Nat) : Prop := 2 ≤ a ∧ a ≤ 7
theorem RepQ.kSE {q : QQ} {m m' : MS} (h : RepQ q m) (hk : Kp SE m m') : RepQ q m' := by
  obtain ⟨h1, h2, h3⟩ := h
  have n0 : ∀ a k, ¬ (2 ≤ a ∧ a ≤ 7) → m' a k = m a k := fun a k h => hk a k h
  refine ⟨by rw [n0 0 12 (by omega)]; exact h1, by rw [n0 0 13 (by omega)]; exact h2, fun i hi => ?_⟩
  obtain ⟨y1, y2, y3, y4, y5⟩ := h3 i hi
  exact ⟨by rw [n0 9 i (by omega)]; exact y1, by rw [n0 10 i (by omega)]; exact y2, by rw [n0 11 i (by omega)]; exact y3, by rw [n0 12 i (by omega)]; exact y4, fun j hj => by rw [n0 13 _ (by omega)]; exact y5 j hj⟩
def EnR (E : EE) (q : QQ) (m : MS) (i : Nat) : Prop := m 2 (eN E + i) = qK q i ∧ m 3 (eN E + i) = qY q i ∧ m 4 (eN E + i) = qA q i ∧ m 5 (eN E + i) = (qL q i : Int) ∧ m 7 (eN E + i) = 0 ∧ ∀ j, j < qL q i → m 6 (8 * (eN E + i) + j) = qW q i j
section MT
variable {P : Int → MS → Prop}
theorem M_enter127 {E : EE} {k : Nat} (hk : eN E + k < 18) : ∀ (t x : Nat) (m : MS), x + t = 8 → ∀ m0 : MS, (∀ a b, a ≠ 6 → m a b = m0 a b) → (∀ b, b < 8 * (eN E + k) → m 6 b = m0 6 b) → (∀ j, j < x → m 6 (8 * (eN E + k) + j) = m0 13 (8 * k + j)) → (∀ m', (∀ a b, a ≠ 6 → m' a b = m0 a b) → (∀ b, b < 8 * (eN E + k) → m' 6 b = m0 6 b) → (∀ j, j < 8 → m' 6 (8 * (eN E + k) + j) = m0 13 (8 * k + j)) → YYi mX10_enter 54 [some (vr 0), none, some (vi ((k : Int) + 1)), none, none] [] m' P) → YYi mX10_enter 127 [some (vr 0), none, some (vi (k : Int)), some (vi ((eN E + k : Nat) : Int)), some (vi (x : Int))] [] m P := by
  intro t
  induction t with
  | zero =>
    intro x m hx m0 h1 h2 h3 hP
    have hx : x = 8 := by omega
    subst hx
    exact uX10_enter_127 m _ _ _ ⟨⟨by omega, by omega⟩, fun _ => hP m h1 h2 h3, fun z => by omega⟩
  | succ t ih =>
    intro x m hx m0 h1 h2 h3 hP
    refine uX10_enter_127 m _ _ _ ⟨⟨by omega, by omega⟩, fun z => by omega, fun _ => ⟨by omega, by omega, by omega, by omega, fun m1 e1 => ?_⟩⟩
    rw [show 8 * ((eN E + k : Nat) : Int) + (x : Int) = ((8 * (eN E + k) + x : Nat) : Int) by omega, show 8 * (k : Int) + (x : Int) = ((8 * k + x : Nat) : Int) by omega, Int.toNat_natCast, Int.toNat_natCast] at e1
    refine ih (x + 1) m1 (by omega) m0 (fun a b ha => ?_) (fun b hb => ?_) (fun j hj => ?_) hP
    · rw [e1, mI_ne (by omega)]; exact h1 a b ha
    · rw [e1, mI_ne (by omega)]; exact h2 b hb
    · rw [e1]
      by_cases c : j = x
      · rw [c, mI_eq]; exact h1 13 _ (by omega)
      · rw [mI_ne (by omega)]; exact h3 j (by omega)
theorem M_enter54 {E : EE} {q : QQ} (hW : WF E) (hN : eN E + qN q ≤ 18) (hb : ∀ i, i < qN q → WQb q i) : ∀ (t k : Nat) (m : MS), k + t = qN q → RepM E m → RepQ q m → (∀ i, i < k → EnR E q m i) → ∀ m0, Kp SE m0 m → (∀ m', RepM E m' → RepQ q m' → (∀ i, i < qN q → EnR E q m' i) → Kp SE m0 m' → ∀ m4, m4 = mI m' 0 2 ((m' 0 2) + (m' 0 13)) → ∀ m7, m7 = mI m4 0 10 ((m4 0 10) + 1) → ∀ m10, m10 = mI m7 0 0 0 → P (m10 0 13) m10) → YYi mX10_enter 54 [some (vr 0), none, some (vi (k : Int)), none, none] [] m P := by
  intro t
  induction t with
  | zero =>
    intro k m hk hR hq hE m0 hkp hP
    have hk : k = qN q := by omega
    subst hk
    refine uX10_enter_54 m _ ?_
    have h13 := hq.2.1
    exact ⟨⟨by omega, by omega⟩, ⟨by omega, by omega⟩, fun _ => hP m hR hq hE hkp, fun z => by omega⟩
  | succ t ih =>
    intro k m hk hR hq hE m0 hkp hP
    have h13 := hq.2.1
    have h2 := hR.1
    obtain ⟨y1, y2, y3, y4, y5⟩ := hq.2.2 k (by omega)
    refine uX10_enter_54 m _ ?_
    rw [h2, show (eN E : Int) + (k : Int) = ((eN E + k : Nat) : Int) by omega]
    simp only [Int.toNat_natCast]
    refine ⟨⟨by omega, by omega⟩, ⟨by omega, by omega⟩, fun z => by omega, fun _ => ⟨by omega, by omega, by omega, by omega, fun m1 e1 m2 e2 m3 e3 m4 e4 m5 e5 => ?_⟩⟩
    have k15 : Kp SE m m5 := by
      have st : ∀ (m : MS) (a k : Nat) (x : Int), 2 ≤ a ∧ a ≤ 7 → Kp SE m (mI m a k x) := fun m a k x h => Kp.st h
      rw [e5, e4, e3, e2, e1]
      exact ((((st _ _ _ _ (by omega)).tr (st _ _ _ _ (by omega))).tr (st _ _ _ _ (by omega))).tr (st _ _ _ _ (by omega))).tr (st _ _ _ _ (by omega))
    have g2 : ∀ b, m5 2 b = if b = eN E + k then qK q k else m 2 b := by
      intro b
      rw [e5, mI_ne (by omega), e4, mI_ne (by omega), e3, mI_ne (by omega), e2, mI_ne (by omega), e1, y1]
      by_cases c : b = eN E + k
      · rw [if_pos c, c, mI_eq]
      · rw [if_neg c, mI_ne (by omega)]
    have g3 : ∀ b, m5 3 b = if b = eN E + k then qY q k else m 3 b := by
      intro b
      rw [e5, mI_ne (by omega), e4, mI_ne (by omega), e3, mI_ne (by omega), e2]
      by_cases c : b = eN E + k
      · rw [if_pos c, c, mI_eq, e1, mI_ne (by omega), y2]
      · rw [if_neg c, mI_ne (by omega), e1, mI_ne (by omega)]
    have g4 : ∀ b, m5 4 b = if b = eN E + k then qA q k else m 4 b := by
      intro b
      rw [e5, mI_ne (by omega), e4, mI_ne (by omega), e3]
      by_cases c : b = eN E + k
      · rw [if_pos c, c, mI_eq, e2, mI_ne (by omega), e1, mI_ne (by omega), y3]
      · rw [if_neg c, mI_ne (by omega), e2, mI_ne (by omega), e1, mI_ne (by omega)]
    have g5 : ∀ b, m5 5 b = if b = eN E + k then (qL q k : Int) else m 5 b := by
      intro b
      rw [e5, mI_ne (by omega), e4]
      by_cases c : b = eN E + k
      · rw [if_pos c, c, mI_eq, e3, mI_ne (by omega), e2, mI_ne (by omega), e1, mI_ne (by omega), y4]
      · rw [if_neg c, mI_ne (by omega), e3, mI_ne (by omega), e2, mI_ne (by omega), e1, mI_ne (by omega)]
    have g7 : ∀ b, m5 7 b = if b = eN E + k then 0 else m 7 b := by
      intro b
      rw [e5]
      by_cases c : b = eN E + k
      · rw [if_pos c, c, mI_eq]
      · rw [if_neg c, mI_ne (by omega), e4, mI_ne (by omega), e3, mI_ne (by omega), e2, mI_ne (by omega), e1, mI_ne (by omega)]
    have g6 : ∀ b, m5 6 b = m 6 b := by
      intro b
      rw [e5, mI_ne (by omega), e4, mI_ne (by omega), e3, mI_ne (by omega), e2, mI_ne (by omega), e1, mI_ne (by omega)]
    refine M_enter127 (by omega) 8 0 m5 (by omega) m5 (fun _ _ _ => rfl) (fun _ _ => rfl) (fun j hj => absurd hj (Nat.not_lt_zero _)) (fun m6 c1 c2 c3 => ?_)
    have k6 : Kp SE m m6 := by
      refine k15.tr (fun a b hn => ?_)
      refine c1 a b (fun z => hn ?_)
      subst z
      exact ⟨by omega, by omega⟩
    have hl := (hb k (by omega)).2.1
    have hR6 : RepM E m6 := by
      refine hR.kpE (S := fun a b => ¬ coreE E a b) hW (fun a b hn => ?_) (fun a b h z => z h)
      have hc : coreE E a b := Classical.byContradiction hn
      unfold coreE at hc
      rcases hc with ⟨x1, x2⟩ | ⟨x1, x2⟩ | ⟨x1, x2⟩ | x1
      · rw [c1 a b (by omega)]; exact k15 a b (fun z => by unfold SE at z; omega)
      · rw [c1 a b (by omega)]
        rcases x1 with x | x | x | x | x <;> subst x
        · rw [g2, if_neg (by omega)]
        · rw [g3, if_neg (by omega)]
        · rw [g4, if_neg (by omega)]
        · rw [g5, if_neg (by omega)]
        · rw [g7, if_neg (by omega)]
      · subst x1; rw [c2 b (by omega)]; exact g6 b
      · rw [c1 a b (by omega)]; exact k15 a b (fun z => by unfold SE at z; omega)
    refine ih (k + 1) m6 (by omega) hR6 (hq.kSE k6) (fun i hi => ?_) m0 (hkp.tr k6) hP
    unfold EnR
    rw [c1 2 _ (by omega), c1 3 _ (by omega), c1 4 _ (by omega), c1 5 _ (by omega), c1 7 _ (by omega), g2, g3, g4, g5, g7]
    by_cases c : i = k
    · subst c
      simp only [if_true]
      refine ⟨trivial, trivial, trivial, trivial, trivial, fun j hj => ?_⟩
      rw [c3 j (by omega), k15 13 _ (fun z => by unfold SE at z; omega)]
      exact y5 j hj
    · rw [if_neg (by omega), if_neg (by omega), if_neg (by omega), if_neg (by omega), if_neg (by omega)]
      obtain ⟨z1, z2, z3, z4, z5, z6⟩ := hE i (by omega)
      have hl2 := (hb i (by omega)).2.1
      exact ⟨z1, z2, z3, z4, z5, fun j hj => by rw [c2 _ (by omega), g6]; exact z6 j hj⟩
end MT

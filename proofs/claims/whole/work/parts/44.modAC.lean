/-! the reference: strike, the rows come down -/
def srI (e k i : Nat) : Nat := if e ≤ i ∧ i < k then i + 1 else i
def col (a : Nat) : Prop := a = 2 ∨ a = 3 ∨ a = 4 ∨ a = 5 ∨ a = 7
/-- the rows from e to k have come down -/
def Dn (e k : Nat) (m0 m : MS) : Prop := (∀ a i, col a → i < 18 → m a i = m0 a (srI e k i)) ∧ (∀ i j, i < 18 → j < 8 → m 6 (8 * i + j) = m0 6 (8 * srI e k i + j)) ∧ (∀ a k, ¬ (2 ≤ a ∧ a ≤ 7) → m a k = m0 a k)
section MAC
variable {P : Int → MS → Prop}
theorem M_st103 {e k : Nat} (hek : e ≤ k) (hk : k < 17) : ∀ (t x : Nat) (m : MS), x + t = 8 → ∀ m0 : MS, (∀ a i, col a → i < 18 → m a i = m0 a (srI e (k + 1) i)) → (∀ i j, i < 18 → j < 8 → m 6 (8 * i + j) = if i = k ∧ j < x then m0 6 (8 * (k + 1) + j) else m0 6 (8 * srI e k i + j)) → (∀ a k, ¬ (2 ≤ a ∧ a ≤ 7) → m a k = m0 a k) → (∀ m', Dn e (k + 1) m0 m' → YYi mX10_strike 23 [some (vr 0), some (vi (e : Int)), some (vi ((k : Int) + 1)), none] [] m' P) → YYi mX10_strike 103 [some (vr 0), some (vi (e : Int)), some (vi (k : Int)), some (vi (x : Int))] [] m P := by
  intro t
  induction t with
  | zero =>
    intro x m hx m0 h1 h2 h3 hP
    have hx : x = 8 := by omega
    subst hx
    refine uX10_strike_103 m _ _ _ ⟨⟨by omega, by omega⟩, fun _ => hP m ⟨h1, fun i j hi hj => ?_, h3⟩, fun z => by omega⟩
    rw [h2 i j hi hj]
    unfold srI
    by_cases c : i = k
    · rw [if_pos ⟨c, hj⟩, if_pos (by omega), c]
    · rw [if_neg (by omega)]
      by_cases d : e ≤ i ∧ i < k
      · rw [if_pos d, if_pos (by omega)]
      · rw [if_neg d, if_neg (by omega)]
  | succ t ih =>
    intro x m hx m0 h1 h2 h3 hP
    refine uX10_strike_103 m _ _ _ ⟨⟨by omega, by omega⟩, fun z => by omega, fun _ => ⟨by omega, by omega, by omega, by omega, fun m1 e1 => ?_⟩⟩
    rw [show 8 * ((k : Int) + 1) + (x : Int) = ((8 * (k + 1) + x : Nat) : Int) by omega, show 8 * (k : Int) + (x : Int) = ((8 * k + x : Nat) : Int) by omega, Int.toNat_natCast, Int.toNat_natCast] at e1
    refine ih (x + 1) m1 (by omega) m0 (fun a i ha hi => ?_) (fun i j hi hj => ?_) (fun a b hab => ?_) hP
    · rw [e1, mI_ne (by unfold col at ha; omega)]; exact h1 a i ha hi
    · rw [e1]
      by_cases c : i = k ∧ j = x
      · obtain ⟨c1, c2⟩ := c
        subst c1 c2
        rw [mI_eq, if_pos ⟨rfl, by omega⟩, h2 (i + 1) j (by omega) hj, if_neg (by omega)]
        unfold srI
        rw [if_neg (by omega)]
      · rw [mI_ne (by omega), h2 i j hi hj]
        by_cases d : i = k ∧ j < x
        · rw [if_pos d, if_pos (by omega)]
        · rw [if_neg d, if_neg (by omega)]
    · rw [e1, mI_ne (by omega)]; exact h3 a b hab
end MAC

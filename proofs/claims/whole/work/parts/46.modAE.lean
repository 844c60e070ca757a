/-! the reference: strike, to its end -/
def PS (E : EE) (e x : Nat) (m : MS) : Prop := m 0 2 = ((eN E - 1 : Nat) : Int) ∧ (∀ i, i < eN E - 1 → m 2 i = eK E (sh e i) ∧ m 3 i = eY E (sh e i) ∧ m 4 i = eA E (sh e i) ∧ m 5 i = eL E (sh e i) ∧ (∀ k : Nat, (k : Int) < eL E (sh e i) → m 6 (8 * i + k) = eW E (sh e i) k) ∧ (∃ b : Nat, m 7 i = (b : Int) ∧ (i < x → b < 2 ^ (eN E - 1) ∧ ∀ j, j < eN E - 1 → b.testBit j = eP E (sh e i) (sh e j)) ∧ (x ≤ i → b < 2 ^ eN E ∧ ∀ j, j < eN E → b.testBit j = eP E (sh e i) j))) ∧ m 8 0 = eB E 0 ∧ m 8 1 = eB E 1 ∧ m 8 2 = eB E 2
def Sst (a k : Nat) : Prop := (2 ≤ a ∧ a ≤ 7) ∨ (a = 0 ∧ k = 2)
theorem sh_lt {e i n : Nat} (hi : i < n - 1) : sh e i < n := by unfold sh; split <;> omega
section MAE
variable {P : Int → MS → Prop} {E : EE}
theorem PS_end {e x : Nat} {m : MS} (h : PS E e x m) (hx : eN E - 1 ≤ x) : RepM (eStr E e) m := by
  obtain ⟨h1, h2, h3⟩ := h
  refine ⟨h1, fun i hi => ?_, h3⟩
  have hi : i < eN E - 1 := hi
  obtain ⟨a1, a2, a3, a4, a5, b, a6, a7, -⟩ := h2 i hi
  obtain ⟨a8, a9⟩ := a7 (by omega)
  exact ⟨a1, a2, a3, a4, a5, b, a6, a8, a9⟩
theorem M_st147 {e : Nat} (hW : WF E) (he : e < eN E) : ∀ (t x : Nat) (m : MS), x + t = eN E - 1 → PS E e x m → ∀ m0, Kp Sst m0 m → (∀ m1 m', RepM (eStr E e) m1 → Kp Sst m0 m1 → m' = mI m1 0 11 (m1 0 11 + 1) → P ((eN E - 1 : Nat) : Int) m') → YYi mX10_strike 147 [some (vr 0), some (vi (e : Int)), some (vi (x : Int)), none] [] m P := by
  have hn := hW.1
  intro t
  induction t with
  | zero =>
    intro x m hx hS m0 hK hP
    have hx : x = eN E - 1 := by omega
    refine uX10_strike_147 m _ _ ?_
    rw [hS.1]
    refine ⟨⟨by omega, by omega⟩, ⟨by omega, by omega⟩, fun _ m1 e1 => ?_, fun z => by omega⟩
    have q : m1 0 2 = ((eN E - 1 : Nat) : Int) := by rw [e1, mI_ne (by omega)]; exact hS.1
    rw [q]
    exact hP m m1 (PS_end hS (by omega)) hK e1
  | succ t ih =>
    intro x m hx hS m0 hK hP
    refine uX10_strike_147 m _ _ ?_
    obtain ⟨h1, h2, h3, h4, h5⟩ := hS
    obtain ⟨-, -, -, -, -, b, p1, -, p2⟩ := h2 x (by omega)
    obtain ⟨p3, p4⟩ := p2 (Nat.le_refl _)
    rw [h1]
    simp only [Int.toNat_natCast]
    rw [p1]
    refine ⟨⟨by omega, by omega⟩, ⟨by omega, by omega⟩, fun z => by omega, fun _ => ⟨by omega, by omega, ?_⟩⟩
    have hN : 2 ^ eN E ≤ 2 ^ 18 := Nat.pow_le_pow_right (by omega) hn
    refine M_without (by omega) (by omega) (fun m1 e1 => ?_)
    rw [show (x : Int) + 1 = ((x + 1 : Nat) : Int) by omega]
    refine ih (x + 1) m1 (by omega) ⟨by rw [e1, mI_ne (by omega)]; exact h1, fun i hi => ?_, by rw [e1, mI_ne (by omega)]; exact h3, by rw [e1, mI_ne (by omega)]; exact h4, by rw [e1, mI_ne (by omega)]; exact h5⟩ m0 (by rw [e1]; exact hK.tr (Kp.st (by unfold Sst; omega))) hP
    obtain ⟨a1, a2, a3, a4, a5, c, a6, a7, a8⟩ := h2 i hi
    refine ⟨by rw [e1, mI_ne (by omega)]; exact a1, by rw [e1, mI_ne (by omega)]; exact a2, by rw [e1, mI_ne (by omega)]; exact a3, by rw [e1, mI_ne (by omega)]; exact a4, fun k hk => by rw [e1, mI_ne (by omega)]; exact a5 k hk, ?_⟩
    by_cases d : i = x
    · subst d
      refine ⟨nWo b e, by rw [e1, mI_eq], fun _ => ⟨nWo_lt p3 he, fun j hj => ?_⟩, fun z => by omega⟩
      rw [nWo_bit]
      exact p4 _ (sh_lt hj)
    · refine ⟨c, by rw [e1, mI_ne (by omega)]; exact a6, fun z => a7 (by omega), fun z => a8 (by omega)⟩
theorem srI_sh {e i n : Nat} (hi : i < n) : srI e n i = sh e i := by unfold srI sh; split <;> split <;> omega
theorem M_strike1 {m : MS} {e : Int} (hR : RepM E m) (hW : WF E) (re : rng e) (h0 : inE E e = false → P (-101) m) (h1 : ∀ i : Nat, e = (i : Int) → i < eN E → ∀ m1 m', RepM (eStr E i) m1 → Kp Sst m m1 → m' = mI m1 0 11 (m1 0 11 + 1) → P ((eN E - 1 : Nat) : Int) m') : MMi mX10_strike [vr 0, vi e] m P := by
  have hn := hW.1
  refine uX10_strike m e ?_
  refine M_isE hR hW re (fun i hi hiE => ⟨⟨by decide, by decide⟩, fun _ => ?_, fun z => absurd z (by decide)⟩) (fun f => ⟨rng_0, fun z => absurd rfl z, fun _ => h0 f⟩)
  have hgo := h1 i hi hiE
  subst hi
  intro m0 e0
  have q0 : m0 0 2 = ((eN E - 1 : Nat) : Int) := by rw [e0, mI_eq, hR.1]; omega
  refine M_st23 (by omega) (eN E - 1 - i) i m0 (by omega) (Nat.le_refl _) m0 q0 ⟨fun a j _ _ => ?_, fun j x _ _ => ?_, fun _ _ _ => rfl⟩ (fun m1 hD => ?_)
  · rw [show srI i i j = j by unfold srI; rw [if_neg (by omega)]]
  · rw [show srI i i j = j by unfold srI; rw [if_neg (by omega)]]
  obtain ⟨d1, d2, d3⟩ := hD
  have k0 : Kp Sst m m0 := by rw [e0]; exact Kp.st (by unfold Sst; omega)
  have k1 : Kp Sst m m1 := k0.tr (fun a b hs => d3 a b (fun z => hs (by unfold Sst; omega)))
  refine M_st147 hW hiE (eN E - 1) 0 m1 (by omega) ⟨?_, fun j hj => ?_, ?_, ?_, ?_⟩ m k1 hgo
  · rw [d3 0 2 (by omega)]; exact q0
  · obtain ⟨a1, a2, a3, a4, a5, b, a6, a7, a8⟩ := hR.2.1 (sh i j) (sh_lt hj)
    have hc : ∀ a, col a → m1 a j = m a (sh i j) := fun a ha => by rw [d1 a j ha (by omega), srI_sh hj, e0, mI_ne (by unfold col at ha; omega)]
    refine ⟨by rw [hc 2 (by unfold col; omega)]; exact a1, by rw [hc 3 (by unfold col; omega)]; exact a2, by rw [hc 4 (by unfold col; omega)]; exact a3, by rw [hc 5 (by unfold col; omega)]; exact a4, fun k hk => ?_, b, by rw [hc 7 (by unfold col; omega)]; exact a6, fun z => by omega, fun _ => ⟨a7, a8⟩⟩
    obtain ⟨-, -, -, w4, -⟩ := hW.2.1 (sh i j) (sh_lt hj)
    rw [d2 j k (by omega) (by omega), srI_sh hj, e0, mI_ne (by omega)]
    exact a5 k hk
  · rw [d3 8 0 (by omega), e0, mI_ne (by omega)]; exact hR.2.2.1
  · rw [d3 8 1 (by omega), e0, mI_ne (by omega)]; exact hR.2.2.2.1
  · rw [d3 8 2 (by omega), e0, mI_ne (by omega)]; exact hR.2.2.2.2
theorem eStr_w {e : Nat} (hW : WF E) : WF (eStr E e) := by
  obtain ⟨w1, w2, w3, w4, w5⟩ := hW
  exact ⟨by show eN E - 1 ≤ 18; omega, fun i hi => w2 (sh e i) (sh_lt hi), fun i j => w3 _ _, fun i => w4 _, w5⟩
theorem cK_str {e : Nat} (k : Int) : ∀ n, cK (eStr E e) k n ≤ cK E k (n + 1) := by
  intro n
  induction n with
  | zero => exact Nat.zero_le _
  | succ n ih =>
    rw [cK]
    by_cases c : n < e
    · have : ∀ j, j ≤ e → cK (eStr E e) k j = cK E k j := by
        intro j
        induction j with
        | zero => intro _; rfl
        | succ j ihj =>
          intro hj
          rw [cK, cK, ihj (by omega), show eK (eStr E e) j = eK E j by show eK E (sh e j) = eK E j; unfold sh; rw [if_pos (by omega)]]
      rw [this n (by omega)]
      rw [show eK (eStr E e) n = eK E n by show eK E (sh e n) = eK E n; unfold sh; rw [if_pos c]]
      rw [show cK E k (n + 1 + 1) = (if eK E (n + 1) = k then cK E k (n + 1) + 1 else cK E k (n + 1)) from rfl, show cK E k (n + 1) = (if eK E n = k then cK E k n + 1 else cK E k n) from rfl]
      split <;> split <;> omega
    · rw [show eK (eStr E e) n = eK E (n + 1) by show eK E (sh e n) = eK E (n + 1); unfold sh; rw [if_neg c]]
      rw [show cK E k (n + 1 + 1) = (if eK E (n + 1) = k then cK E k (n + 1) + 1 else cK E k (n + 1)) from rfl]
      split <;> omega
theorem eStr_7 {e : Nat} (h7 : W7 E) (he : e < eN E) : W7 (eStr E e) := by
  obtain ⟨h0, h1, h2⟩ := h7
  have h : ∀ k, cK (eStr E e) k (eN E - 1) ≤ cK E k (eN E) := fun k => by
    have := cK_str (E := E) (e := e) k (eN E - 1)
    rw [show eN E - 1 + 1 = eN E by omega] at this
    exact this
  exact ⟨Nat.le_trans (h 0) h0, Nat.le_trans (h 1) h1, Nat.le_trans (h 2) h2⟩
theorem cK_cg {F : EE} (k : Int) (h : ∀ i, eK F i = eK E i) : ∀ n, cK F k n = cK E k n := by
  intro n
  induction n with
  | zero => rfl
  | succ n ih => rw [cK, cK, ih, h]
end MAE

/-! the reference holds the ENTRIES -/
def RepM (E : EE) (m : MS) : Prop := m 0 2 = (eN E : Int) ∧ (∀ i, i < eN E → m 2 i = eK E i ∧ m 3 i = eY E i ∧ m 4 i = eA E i ∧ m 5 i = eL E i ∧ (∀ k : Nat, (k : Int) < eL E i → m 6 (8 * i + k) = eW E i k) ∧ (∃ b : Nat, m 7 i = (b : Int) ∧ b < 2 ^ eN E ∧ ∀ j, j < eN E → b.testBit j = eP E i j)) ∧ m 8 0 = eB E 0 ∧ m 8 1 = eB E 1 ∧ m 8 2 = eB E 2
def core (a k : Nat) : Prop := (a = 0 ∧ k = 2) ∨ (2 ≤ a ∧ a ≤ 8)
theorem RepM.kp {E : EE} {S : Nat → Nat → Prop} {m m' : MS} (h : RepM E m) (hk : Kp S m m') (hS : ∀ a k, core a k → ¬ S a k) : RepM E m' := by
  obtain ⟨h1, h2, h3, h4, h5⟩ := h
  refine ⟨by rw [hk 0 2 (hS 0 2 (Or.inl ⟨rfl, rfl⟩))]; exact h1, fun i hi => ?_, by rw [hk 8 0 (hS _ _ (Or.inr (by omega)))]; exact h3, by rw [hk 8 1 (hS _ _ (Or.inr (by omega)))]; exact h4, by rw [hk 8 2 (hS _ _ (Or.inr (by omega)))]; exact h5⟩
  obtain ⟨a1, a2, a3, a4, a5, b, a6, a7⟩ := h2 i hi
  refine ⟨by rw [hk 2 i (hS _ _ (Or.inr (by omega)))]; exact a1, by rw [hk 3 i (hS _ _ (Or.inr (by omega)))]; exact a2, by rw [hk 4 i (hS _ _ (Or.inr (by omega)))]; exact a3, by rw [hk 5 i (hS _ _ (Or.inr (by omega)))]; exact a4, fun k hl => by rw [hk 6 _ (hS _ _ (Or.inr (by omega)))]; exact a5 k hl, b, by rw [hk 7 i (hS _ _ (Or.inr (by omega)))]; exact a6, a7⟩
/-- what the distance's table alone may have changed -/
def S14 (a _ : Nat) : Prop := a = 14
theorem RepM.k14 {E : EE} {m m' : MS} (h : RepM E m) (hk : Kp S14 m m') : RepM E m' := h.kp hk (fun a k hc hs => by unfold S14 at hs; rcases hc with ⟨h1, -⟩ | ⟨h1, h2⟩ <;> omega)
section MA
variable {m : MS} {E : EE} {P : Int → MS → Prop}
theorem M_within {v lo hi : Int} (rv : rng v) (rl : rng lo) (rh : rng hi) (hT : lo ≤ v ∧ v ≤ hi → P 1 m) (hF : ¬ (lo ≤ v ∧ v ≤ hi) → P 0 m) : MMi mX10_within [vi v, vi lo, vi hi] m P :=
  uX10_within m v lo hi ⟨rv, rl, fun c => hF (by omega), fun c => ⟨rh, fun c => hF (by omega), fun c => hT (by omega)⟩⟩
theorem M_lesser {a b : Int} (ra : rng a) (rb : rng b) (h : P (min a b) m) : MMi mX10_lesser [vi a, vi b] m P :=
  uX10_lesser m a b ⟨ra, rb, fun c => by rw [show min a b = b by omega] at h; exact h, fun c => by rw [show min a b = a by omega] at h; exact h⟩
theorem M_greater {a b : Int} (ra : rng a) (rb : rng b) (h : P (max a b) m) : MMi mX10_greater [vi a, vi b] m P := by
  refine uX10_greater m a b ?_
  grind
theorem M_first {i : Nat} (hR : RepM E m) (hW : WF E) (hi : i < eN E) (h : P (sF E i) m) : MMi mX10_firstBorn [vr 0, vi (i : Int)] m P := by
  obtain ⟨a1, a2, a3, -⟩ := hR.2.1 i hi
  obtain ⟨w1, w2, w3, -⟩ := hW.2.1 i hi
  have hn := hW.1
  have h8 := hR.2.2.2.1
  refine uX10_firstBorn m i ?_
  simp only [Int.toNat_natCast, a1, a2, a3]
  unfold sF at h
  unfold rng
  grind
end MA
section MB
variable {m : MS} {E : EE} {P : Int → MS → Prop}
theorem M_last {i : Nat} (hR : RepM E m) (hW : WF E) (hi : i < eN E) (h : P (sL E i) m) : MMi mX10_lastBorn [vr 0, vi (i : Int)] m P := by
  obtain ⟨a1, a2, a3, -⟩ := hR.2.1 i hi
  obtain ⟨w1, w2, w3, -⟩ := hW.2.1 i hi
  have hn := hW.1
  have h8 := hR.2.2.2.1
  refine uX10_lastBorn m i ?_
  simp only [Int.toNat_natCast, a1, a2, a3]
  unfold sL at h
  unfold rng
  grind
theorem sF_b {i : Nat} (hW : WF E) (hi : i < eN E) : 1400 ≤ sF E i ∧ sF E i ≤ 1900 := by
  obtain ⟨w1, w2, w3, -⟩ := hW.2.1 i hi
  have h := hW.2.2.2.2.2.1
  unfold sF
  split <;> (try split) <;> (try split) <;> omega
theorem sL_b {i : Nat} (hW : WF E) (hi : i < eN E) : 1400 ≤ sL E i ∧ sL E i ≤ 1910 := by
  obtain ⟨w1, w2, w3, -⟩ := hW.2.1 i hi
  have h := hW.2.2.2.2.2.1
  unfold sL
  split <;> (try split) <;> (try split) <;> omega
theorem sYr_b {i j : Nat} (hW : WF E) (hi : i < eN E) (hj : j < eN E) : 0 ≤ sYr E i j ∧ sYr E i j ≤ 1000 := by
  have h1 := sF_b hW hi
  have h2 := sF_b hW hj
  have h3 := sL_b hW hi
  have h4 := sL_b hW hj
  unfold sYr
  omega
theorem M_years {i j : Nat} (hR : RepM E m) (hW : WF E) (hi : i < eN E) (hj : j < eN E) (h : P (sYr E i j) m) : MMi mX10_yearsOf [vr 0, vi (i : Int), vi (j : Int)] m P := by
  have h1 := sF_b hW hi
  have h2 := sF_b hW hj
  have h3 := sL_b hW hi
  have h4 := sL_b hW hj
  refine uX10_yearsOf m i j ?_
  refine M_first hR hW hi ?_
  refine M_first hR hW hj ?_
  refine M_greater ⟨by omega, by omega⟩ ⟨by omega, by omega⟩ ?_
  refine M_last hR hW hi ?_
  refine M_last hR hW hj ?_
  refine M_lesser ⟨by omega, by omega⟩ ⟨by omega, by omega⟩ ?_
  unfold sYr at h
  refine ⟨⟨by omega, by omega⟩, ⟨by omega, by omega⟩, fun c => ?_, fun c => ?_⟩
  · rw [show max 0 (min (sL E i) (sL E j) - max (sF E i) (sF E j) + 1) = min (sL E i) (sL E j) - max (sF E i) (sF E j) + 1 by omega] at h
    exact h
  · rw [show max 0 (min (sL E i) (sL E j) - max (sF E i) (sF E j) + 1) = 0 by omega] at h
    exact h
theorem M_parted {i j : Nat} (hR : RepM E m) (hW : WF E) (hi : i < eN E) (hj : j < eN E) (hT : eP E i j = true → P 1 m) (hF : eP E i j = false → P 0 m) : MMi mX10_isParted [vr 0, vi (i : Int), vi (j : Int)] m P := by
  obtain ⟨-, -, -, -, -, b, a6, a7, a8⟩ := hR.2.1 i hi
  have hn := hW.1
  have hb : b < 2 ^ 31 := Nat.lt_of_lt_of_le a7 (Nat.pow_le_pow_right (by omega) (by omega))
  refine uX10_isParted m i j ?_
  simp only [Int.toNat_natCast, a6]
  rw [b_test hb (by omega), a8 j hj]
  cases hp : eP E i j
  · simp only [Bool.false_eq_true, if_false]
    exact ⟨by omega, by omega, rng_0, fun _ => hF hp, fun c => absurd c (by decide)⟩
  · simp only [if_true]
    exact ⟨by omega, by omega, ⟨by decide, by decide⟩, fun c => absurd trivial c, fun _ => hT hp⟩
theorem M_order {i j : Nat} (hR : RepM E m) (hW : WF E) (hi : i < eN E) (hj : j < eN E) (hT : sO E i j = true → P 1 m) (hF : sO E i j = false → P 0 m) : MMi mX10_isOutOfOrder [vr 0, vi (i : Int), vi (j : Int)] m P := by
  obtain ⟨a1, a2, -⟩ := hR.2.1 i hi
  obtain ⟨b1, b2, -⟩ := hR.2.1 j hj
  obtain ⟨w1, w2, -⟩ := hW.2.1 i hi
  obtain ⟨v1, v2, -⟩ := hW.2.1 j hj
  have hn := hW.1
  have key : (eK E i = 0 → eY E i ≤ eY E j) → YYi mX10_isOutOfOrder 28 [some (vr 0), some (vi (i : Int)), some (vi (j : Int)), none, none] [] m P := by
    intro hq
    refine uX10_isOutOfOrder_28 m i j ?_
    simp only [Int.toNat_natCast, a1, a2, b2]
    unfold sO at hT hF
    unfold rng
    grind
  refine uX10_isOutOfOrder m i j ?_
  simp only [Int.toNat_natCast, a1, a2, b2]
  unfold sO at hT hF
  unfold rng
  refine ⟨by omega, by omega, by omega, fun c => key (fun z => absurd z c), fun c => ⟨by omega, by omega, by omega, by omega, fun d => key (fun _ => d), fun d => ⟨fun _ => hT (by grind), fun z => by omega⟩⟩⟩
theorem M_group {c : Int} (rc : rng c) (h : P (sG c) m) : MMi mX10_groupOf [vi c] m P := by
  refine uX10_groupOf m c ?_
  unfold sG at h
  refine ⟨rc, ?_⟩
  and_intros <;> (intro z; first | (subst z; exact h) | (have : P c m := by { simpa (disch := omega) only [if_neg, show ¬ (c = 97 ∨ c = 101 ∨ c = 111 ∨ c = 117) by omega, show ¬ (c = 98 ∨ c = 112) by omega, show ¬ (c = 99 ∨ c = 107 ∨ c = 113) by omega, show ¬ (c = 100 ∨ c = 116) by omega, show ¬ (c = 102 ∨ c = 118 ∨ c = 119) by omega, show ¬ (c = 103 ∨ c = 106) by omega, show ¬ (c = 105 ∨ c = 121) by omega, show ¬ (c = 109 ∨ c = 110) by omega, show ¬ (c = 115 ∨ c = 120 ∨ c = 122) by omega, not_false_eq_true, if_false] using h }; exact this))
theorem sG_b {c : Int} (h : 97 ≤ c ∧ c ≤ 122) : 1 ≤ sG c ∧ sG c ≤ 122 := by
  unfold sG
  repeat (split; · omega)
  omega
theorem M_change {c d : Int} (hc : 97 ≤ c ∧ c ≤ 122) (hd : 97 ≤ d ∧ d ≤ 122) (h : P (sC c d) m) : MMi mX10_changeOf [vi c, vi d] m P := by
  have h1 := sG_b hc
  have h2 := sG_b hd
  refine uX10_changeOf m c d ⟨⟨by omega, by omega⟩, ⟨by omega, by omega⟩, fun z => ?_, fun z => ?_⟩
  · refine M_group ⟨by omega, by omega⟩ ?_
    refine M_group ⟨by omega, by omega⟩ ?_
    unfold sC at h
    rw [if_neg z] at h
    refine ⟨⟨by omega, by omega⟩, ⟨by omega, by omega⟩, fun q => ?_, fun q => ?_⟩
    · rw [if_neg q] at h; exact h
    · rw [if_pos q] at h; exact h
  · unfold sC at h
    rw [if_pos z] at h
    exact h
end MB

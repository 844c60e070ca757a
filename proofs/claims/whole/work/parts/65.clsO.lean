/-! what the class's lives tell, and what the spec says of them -/
section XO
variable {E : EE}
theorem vFn_of {V : VV} {l : Nat} {x : Int} (hW : WF E) (h : GMx E (vO V) l (sF E) x) : vFn E V l (eN E) = x := by
  obtain ⟨h1, k, h2, h3, h4⟩ := h
  have hx : 0 ≤ x := by have := sF_b hW h2; omega
  have up : ∀ n, n ≤ eN E → vFn E V l n ≤ x ∧ (∀ j, j < n → vO V j = (l : Int) → sF E j ≤ vFn E V l n) := by
    intro n
    induction n with
    | zero => intro _; exact ⟨hx, fun j hj => absurd hj (Nat.not_lt_zero _)⟩
    | succ n ih =>
      intro hn
      obtain ⟨i1, i2⟩ := ih (by omega)
      rw [vFn]
      by_cases c : vO V n = (l : Int)
      · rw [if_pos c]
        have := h1 n (by omega) c
        refine ⟨by omega, fun j hj ho => ?_⟩
        by_cases d : j = n
        · rw [d]; omega
        · have := i2 j (by omega) ho; omega
      · rw [if_neg c]
        refine ⟨i1, fun j hj ho => ?_⟩
        by_cases d : j = n
        · exact absurd (by rw [← d]; exact ho) c
        · exact i2 j (by omega) ho
  obtain ⟨u1, u2⟩ := up (eN E) (Nat.le_refl _)
  have := u2 k h2 h3
  omega
theorem vYn_of {V : VV} {l : Nat} {x : Int} (hW : WF E) (h : GMx E (vO V) l (eY E) x) : vYn E V l (eN E) = x := by
  obtain ⟨h1, k, h2, h3, h4⟩ := h
  have hx : 0 ≤ x := by have := (hW.2.1 k h2).2.1; omega
  have up : ∀ n, n ≤ eN E → vYn E V l n ≤ x ∧ (∀ j, j < n → vO V j = (l : Int) → eY E j ≤ vYn E V l n) := by
    intro n
    induction n with
    | zero => intro _; exact ⟨hx, fun j hj => absurd hj (Nat.not_lt_zero _)⟩
    | succ n ih =>
      intro hn
      obtain ⟨i1, i2⟩ := ih (by omega)
      rw [vYn]
      by_cases c : vO V n = (l : Int)
      · rw [if_pos c]
        have := h1 n (by omega) c
        refine ⟨by omega, fun j hj ho => ?_⟩
        by_cases d : j = n
        · rw [d]; omega
        · have := i2 j (by omega) ho; omega
      · rw [if_neg c]
        refine ⟨i1, fun j hj ho => ?_⟩
        by_cases d : j = n
        · exact absurd (by rw [← d]; exact ho) c
        · exact i2 j (by omega) ho
  obtain ⟨u1, u2⟩ := up (eN E) (Nat.le_refl _)
  have := u2 k h2 h3
  omega
theorem vTn_of {V : VV} {l : Nat} {x : Int} (hW : WF E) (h : GMn E (vO V) l (sL E) x) : vTn E V l (eN E) = x := by
  obtain ⟨h1, k, h2, h3, h4⟩ := h
  have hx : x ≤ 100000 := by have := sL_b hW h2; omega
  have up : ∀ n, n ≤ eN E → x ≤ vTn E V l n ∧ (∀ j, j < n → vO V j = (l : Int) → vTn E V l n ≤ sL E j) := by
    intro n
    induction n with
    | zero => intro _; exact ⟨hx, fun j hj => absurd hj (Nat.not_lt_zero _)⟩
    | succ n ih =>
      intro hn
      obtain ⟨i1, i2⟩ := ih (by omega)
      rw [vTn]
      by_cases c : vO V n = (l : Int)
      · rw [if_pos c]
        have := h1 n (by omega) c
        refine ⟨by omega, fun j hj ho => ?_⟩
        by_cases d : j = n
        · rw [d]; omega
        · have := i2 j (by omega) ho; omega
      · rw [if_neg c]
        refine ⟨i1, fun j hj ho => ?_⟩
        by_cases d : j = n
        · exact absurd (by rw [← d]; exact ho) c
        · exact i2 j (by omega) ho
  obtain ⟨u1, u2⟩ := up (eN E) (Nat.le_refl _)
  have := u2 k h2 h3
  omega
theorem vEn_of {V : VV} {l s h : Nat} {f : Nat → Int} (hM : Mem E (vO V) l s h f) : vEn E V l = (s : Int) := by
  unfold vEn
  refine cnt_list (f := f) (fun q hq => ?_) hM.2.1 (fun k hk hp => ?_)
  · obtain ⟨k, a1, a2, a3, -⟩ := hM.1 q hq
    exact ⟨k, a1, a2, decide_eq_true a3⟩
  · exact hM.2.2.1 k hk (of_decide_eq_true hp)
/-- the weddings of a life in their order -/
theorem vPn_of {V : VV} {l s h : Nat} {f : Nat → Int} (hM : Mem E (vO V) l s h f) (hh : h ≤ s) : ∀ (r k j : Nat) (left : Nat), k + r = eN E → h + j ≤ s → (∀ p, h ≤ p → p < s → (p < h + j ↔ f p < (k : Int))) → vPn E V l r k (left : Int) = if h + j + left < s then f (h + j + left) else -101 := by
  obtain ⟨m1, m2, m3, m4⟩ := hM
  intro r
  induction r with
  | zero =>
    intro k j left hk hj hs
    rw [vPn]
    by_cases c : h + j + left < s
    · exfalso
      obtain ⟨x, x1, x2, -⟩ := m1 (h + j + left) c
      have := (hs (h + j + left) (by omega) c).2 (by omega)
      omega
    · rw [if_neg c]
  | succ r ih =>
    intro k j left hk hj hs
    rw [vPn]
    by_cases c : eK E k = 1 ∧ vO V k = (l : Int)
    · rw [if_pos c]
      obtain ⟨q, hq, eq⟩ := m3 k (by omega) c.2
      obtain ⟨x, x1, x2, x3, x4⟩ := m1 q hq
      have hxk : x = k := by omega
      subst hxk
      have hqh : h ≤ q := by
        by_cases z : q < h
        · exact absurd c.1 (x4.1 z)
        · omega
      have hqj : q = h + j := by
        have z := hs q hqh hq
        by_cases y : q = h + j
        · exact y
        · exfalso
          have y1 : ¬ q < h + j := fun w => by have := z.1 w; omega
          have y2 := m4 (h + j) q (by omega) (by omega) hq
          have y3 := (hs (h + j) (by omega) (by omega)).2 (by omega)
          omega
      have hnext : ∀ p, h ≤ p → p < s → (p < h + (j + 1) ↔ f p < ((x + 1 : Nat) : Int)) := by
        intro p hp hps
        constructor
        · intro z
          by_cases y : p < h + j
          · have := (hs p hp hps).1 y; omega
          · rw [show p = q by omega, eq]; omega
        · intro z
          by_cases y : p = q
          · omega
          · have : f p < (x : Int) := by
              have : f p ≠ (x : Int) := fun w => y (m2 p q hps hq (by rw [w, eq]))
              omega
            have := (hs p hp hps).2 this
            omega
      by_cases d : left = 0
      · subst d
        rw [if_pos (show ((0 : Nat) : Int) = 0 from rfl), if_pos (by omega), show h + j + 0 = q by omega, eq]
      · rw [if_neg (by omega), show (left : Int) + (-1) = ((left - 1 : Nat) : Int) by omega]
        rw [ih (x + 1) (j + 1) (left - 1) (by omega) (by omega) hnext, show h + (j + 1) + (left - 1) = h + j + left by omega]
    · rw [if_neg c]
      refine ih (k + 1) j left (by omega) hj (fun p hp hps => ?_)
      rw [hs p hp hps]
      obtain ⟨x, x1, x2, x3, x4⟩ := m1 p hps
      have hx1 : eK E x = 1 := by
        by_cases z : eK E x = 1
        · exact z
        · have := x4.2 z; omega
      have : x ≠ k := fun z => c (by rw [← z]; exact ⟨hx1, x3⟩)
      omega
theorem vP_of {V : VV} {l s h : Nat} {f : Nat → Int} (hM : Mem E (vO V) l s h f) (hh : h ≤ s) (p : Nat) : vP E V l (p : Int) = if h + p < s then f (h + p) else -101 := by
  unfold vP
  rw [if_neg (by omega)]
  have := vPn_of hM hh (eN E) 0 0 p (by omega) (by omega) (fun q hq hqs => ?_)
  · rw [Nat.add_zero] at this
    exact this
  · obtain ⟨x, x1, -⟩ := hM.1 q hqs
    omega
theorem vL_keep {V : VV} {e l : Nat} (hl : l < vN V) : vB (vL E V e) l = vB V l ∧ vD (vL E V e) l = vD V l ∧ vN V ≤ vN (vL E V e) := by
  unfold vL
  split
  · exact ⟨fU_ne (by omega), fU_ne (by omega), Nat.le_succ _⟩
  · split
    · exact ⟨rfl, rfl, Nat.le_refl _⟩
    · exact ⟨rfl, rfl, Nat.le_refl _⟩
theorem sVl_keep {l : Nat} (hl : l < vN (sVf E)) : ∀ n, vB (sVl E n) l = vB (sVf E) l ∧ vD (sVl E n) l = vD (sVf E) l ∧ vN (sVf E) ≤ vN (sVl E n) := by
  intro n
  induction n with
  | zero => exact ⟨rfl, rfl, Nat.le_refl _⟩
  | succ n ih =>
    obtain ⟨i1, i2, i3⟩ := ih
    rw [sVl]
    split
    · obtain ⟨j1, j2, j3⟩ := vL_keep (E := E) (V := sVl E n) (e := n) (l := l) (by omega)
      exact ⟨by rw [j1, i1], by rw [j2, i2], by omega⟩
    · exact ⟨i1, i2, i3⟩
end XO

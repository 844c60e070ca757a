/-! A TEXT IS READ: the stage, how many entries, their kind, year, age, length, name -/
abbrev QQ : Type := Nat × Nat × (Nat → Int) × (Nat → Int) × (Nat → Int) × (Nat → Nat) × (Nat → Nat → Int)
abbrev qS (q : QQ) : Nat := q.1
abbrev qN (q : QQ) : Nat := q.2.1
abbrev qK (q : QQ) : Nat → Int := q.2.2.1
abbrev qY (q : QQ) : Nat → Int := q.2.2.2.1
abbrev qA (q : QQ) : Nat → Int := q.2.2.2.2.1
abbrev qL (q : QQ) : Nat → Nat := q.2.2.2.2.2.1
abbrev qW (q : QQ) : Nat → Nat → Int := q.2.2.2.2.2.2
def q0 : QQ := (0, 0, fun _ => 0, fun _ => 0, fun _ => 0, fun _ => 0, fun _ _ => 0)
def qTo (q : QQ) (s : Nat) : QQ := (s, q.2)
def qBeg (q : QQ) (k : Int) : QQ := (1, qN q + 1, fU (qK q) (qN q) k, fU (qY q) (qN q) 0, fU (qA q) (qN q) (-1), fU (qL q) (qN q) 0, qW q)
def qLet (q : QQ) (c : Int) : QQ := (2, qN q, qK q, qY q, qA q, fU (qL q) (qN q - 1) (qL q (qN q - 1) + 1), fU (qW q) (qN q - 1) (fU (qW q (qN q - 1)) (qL q (qN q - 1)) c))
def qYr (q : QQ) (c : Int) : QQ := (qS q + 1, qN q, qK q, fU (qY q) (qN q - 1) (10 * qY q (qN q - 1) + (c - 48)), qA q, qL q, qW q)
def qAg (q : QQ) (s : Nat) (a : Int) : QQ := (s, qN q, qK q, qY q, fU (qA q) (qN q - 1) a, qL q, qW q)
/-- one letter more, or none -/
def rT (q : QQ) (c : Int) : Option QQ :=
  if qS q = 0 then (if c = 98 then some (qBeg q 0) else if c = 119 then some (qBeg q 1) else if c = 100 then some (qBeg q 2) else none)
  else if qS q ≤ 2 then (if c = 58 ∧ qS q = 2 then some (qTo q 3) else if (97 ≤ c ∧ c ≤ 122) ∧ qL q (qN q - 1) < 8 then some (qLet q c) else none)
  else if qS q = 3 then (if c = 49 then some (qYr q c) else none)
  else if qS q = 4 then (if 54 ≤ c ∧ c ≤ 56 then some (qYr q c) else none)
  else if qS q ≤ 6 then (if 48 ≤ c ∧ c ≤ 57 then some (qYr q c) else none)
  else if qS q = 7 then (if c = 59 then some (qTo q 0) else if c = 46 ∧ qK q (qN q - 1) ≠ 0 then some (qTo q 8) else none)
  else if qS q = 8 then (if qK q (qN q - 1) = 1 then (if 49 ≤ c ∧ c ≤ 57 then some (qAg q 9 (c - 48)) else none) else if 48 ≤ c ∧ c ≤ 57 then some (qAg q (if c = 48 then 10 else 11) (c - 48)) else none)
  else if qS q = 9 then (if (48 ≤ c ∧ c ≤ 57) ∧ (qK q (qN q - 1) = 2 ∨ 14 ≤ 10 * qA q (qN q - 1) + (c - 48)) then some (qAg q 10 (10 * qA q (qN q - 1) + (c - 48))) else none)
  else if c = 59 then some (qTo q 0)
  else if qS q = 11 then (if (48 ≤ c ∧ c ≤ 57) ∧ (qK q (qN q - 1) = 2 ∨ 14 ≤ 10 * qA q (qN q - 1) + (c - 48)) then some (qAg q 10 (10 * qA q (qN q - 1) + (c - 48))) else none)
  else none
/-- what was read of an entry, whole or not -/
def WQb (q : QQ) (i : Nat) : Prop := (qK q i = 0 ∨ qK q i = 1 ∨ qK q i = 2) ∧ qL q i ≤ 8 ∧ (∀ j, j < qL q i → 97 ≤ qW q i j ∧ qW q i j ≤ 122) ∧ (-1 ≤ qA q i ∧ qA q i ≤ 99)
def WQf (q : QQ) (i : Nat) : Prop := 1 ≤ qL q i ∧ (1600 ≤ qY q i ∧ qY q i ≤ 1899)
def WQc (q : QQ) (i : Nat) : Prop := (qS q = 1 → qL q i = 0) ∧ (2 ≤ qS q → 1 ≤ qL q i) ∧ (qS q ≤ 3 → qY q i = 0) ∧ (qS q = 4 → qY q i = 1) ∧ (qS q = 5 → 16 ≤ qY q i ∧ qY q i ≤ 18) ∧ (qS q = 6 → 160 ≤ qY q i ∧ qY q i ≤ 189) ∧ (7 ≤ qS q → 1600 ≤ qY q i ∧ qY q i ≤ 1899) ∧ (qS q ≤ 8 → qA q i = -1) ∧ (qS q = 8 → qK q i ≠ 0) ∧ (qS q = 9 → qK q i = 1 ∧ 1 ≤ qA q i ∧ qA q i ≤ 9) ∧ (qS q = 11 → qK q i = 2 ∧ 1 ≤ qA q i ∧ qA q i ≤ 9) ∧ (qS q = 10 → 0 ≤ qA q i)
/-- after p letters -/
def WFQ (p : Nat) (q : QQ) : Prop := qS q ≤ 11 ∧ (qS q = 0 → 8 * qN q ≤ p) ∧ (qS q ≠ 0 → 1 ≤ qN q ∧ 8 * (qN q - 1) + min (qS q) 7 ≤ p) ∧ (∀ i, i < qN q → WQb q i) ∧ (∀ i, i < qN q → (qS q = 0 ∨ i + 1 < qN q) → WQf q i) ∧ (qS q ≠ 0 → WQc q (qN q - 1))
theorem WFQ_0 : WFQ 0 q0 := ⟨by show 0 ≤ 11; omega, fun _ => by show 8 * 0 ≤ 0; omega, fun z => absurd rfl z, fun i hi => absurd hi (Nat.not_lt_zero _), fun i hi => absurd hi (Nat.not_lt_zero _), fun z => absurd rfl z⟩
theorem fU_if {α : Type} (f : Nat → α) (a : Nat) (x : α) (e : Nat) : fU f a x e = if e = a then x else f e := rfl
theorem WFQ_S {p : Nat} {q q' : QQ} {c : Int} (h : WFQ p q) (ht : rT q c = some q') : WFQ (p + 1) q' := by
  obtain ⟨h1, h2, h3, h4, h5, h6⟩ := h
  unfold rT at ht
  by_cases s0 : qS q = 0
  · rw [if_pos s0] at ht
    have key : ∀ k : Int, (k = 0 ∨ k = 1 ∨ k = 2) → WFQ (p + 1) (qBeg q k) := by
      intro k hk
      have h2 := h2 s0
      refine ⟨by show 1 ≤ 11; omega, fun z => absurd z (by show ¬ (1 = 0); omega), fun _ => ⟨Nat.succ_pos _, ?_⟩, fun i hi => ?_, fun i hi hs => ?_, fun _ => ?_⟩
      · show 8 * (qN q + 1 - 1) + min 1 7 ≤ p + 1
        omega
      · have hi : i < qN q + 1 := hi
        unfold WQb
        show (fU (qK q) (qN q) k i = 0 ∨ fU (qK q) (qN q) k i = 1 ∨ fU (qK q) (qN q) k i = 2) ∧ fU (qL q) (qN q) 0 i ≤ 8 ∧ (∀ j, j < fU (qL q) (qN q) 0 i → 97 ≤ qW q i j ∧ qW q i j ≤ 122) ∧ (-1 ≤ fU (qA q) (qN q) (-1) i ∧ fU (qA q) (qN q) (-1) i ≤ 99)
        simp only [fU_if]
        by_cases e : i = qN q
        · simp only [if_pos e]
          exact ⟨hk, by omega, fun j hj => absurd hj (Nat.not_lt_zero _), by omega⟩
        · simp only [if_neg e]
          exact h4 i (by omega)
      · have hi : i < qN q + 1 := hi
        have hs : 1 = 0 ∨ i + 1 < qN q + 1 := hs
        unfold WQf
        show 1 ≤ fU (qL q) (qN q) 0 i ∧ (1600 ≤ fU (qY q) (qN q) 0 i ∧ fU (qY q) (qN q) 0 i ≤ 1899)
        simp only [fU_if]
        rw [if_neg (by omega), if_neg (by omega)]
        exact h5 i (by omega) (Or.inl s0)
      · unfold WQc
        show (1 = 1 → fU (qL q) (qN q) 0 (qN q) = 0) ∧ (2 ≤ 1 → 1 ≤ fU (qL q) (qN q) 0 (qN q)) ∧ (1 ≤ 3 → fU (qY q) (qN q) 0 (qN q) = 0) ∧ (1 = 4 → fU (qY q) (qN q) 0 (qN q) = 1) ∧ (1 = 5 → 16 ≤ fU (qY q) (qN q) 0 (qN q) ∧ fU (qY q) (qN q) 0 (qN q) ≤ 18) ∧ (1 = 6 → 160 ≤ fU (qY q) (qN q) 0 (qN q) ∧ fU (qY q) (qN q) 0 (qN q) ≤ 189) ∧ (7 ≤ 1 → 1600 ≤ fU (qY q) (qN q) 0 (qN q) ∧ fU (qY q) (qN q) 0 (qN q) ≤ 1899) ∧ (1 ≤ 8 → fU (qA q) (qN q) (-1) (qN q) = -1) ∧ (1 = 8 → fU (qK q) (qN q) k (qN q) ≠ 0) ∧ (1 = 9 → fU (qK q) (qN q) k (qN q) = 1 ∧ 1 ≤ fU (qA q) (qN q) (-1) (qN q) ∧ fU (qA q) (qN q) (-1) (qN q) ≤ 9) ∧ (1 = 11 → fU (qK q) (qN q) k (qN q) = 2 ∧ 1 ≤ fU (qA q) (qN q) (-1) (qN q) ∧ fU (qA q) (qN q) (-1) (qN q) ≤ 9) ∧ (1 = 10 → 0 ≤ fU (qA q) (qN q) (-1) (qN q))
        simp only [fU_eq]
        exact ⟨fun _ => trivial, fun z => by omega, fun _ => trivial, fun z => by omega, fun z => by omega, fun z => by omega, fun z => by omega, fun _ => trivial, fun z => by omega, fun z => by omega, fun z => by omega, fun z => by omega⟩
    split at ht
    · cases ht; exact key 0 (Or.inl rfl)
    · split at ht
      · cases ht; exact key 1 (Or.inr (Or.inl rfl))
      · split at ht
        · cases ht; exact key 2 (Or.inr (Or.inr rfl))
        · cases ht
  · rw [if_neg s0] at ht
    obtain ⟨n1, n2⟩ := h3 s0
    have hc := h6 s0
    have hb := h4 (qN q - 1) (by omega)
    obtain ⟨c1, c2, c3, c4, c5, c6, c7, c8, c9, c10, c11, c12⟩ := hc
    obtain ⟨b1, b2, b3, b4⟩ := hb
    have toK : ∀ s : Nat, s ≤ 11 → s ≠ 0 → min s 7 ≤ min (qS q) 7 + 1 → WQc (qTo q s) (qN q - 1) → WFQ (p + 1) (qTo q s) := by
      intro s hs hs0 hm hcc
      refine ⟨hs, fun z => absurd z hs0, fun _ => ⟨n1, ?_⟩, h4, fun i hi hh => ?_, fun _ => hcc⟩
      · show 8 * (qN q - 1) + min s 7 ≤ p + 1
        omega
      · have hh : s = 0 ∨ i + 1 < qN q := hh
        exact h5 i hi (Or.inr (by omega))
    have to0 : 7 ≤ qS q → WFQ (p + 1) (qTo q 0) := by
      intro h7
      refine ⟨Nat.zero_le _, fun _ => ?_, fun z => absurd rfl z, h4, fun i hi hh => ?_, fun z => absurd rfl z⟩
      · show 8 * qN q ≤ p + 1
        omega
      · have hi : i < qN q := hi
        by_cases e : i + 1 < qN q
        · exact h5 i hi (Or.inr e)
        · rw [show i = qN q - 1 by omega]
          exact ⟨c2 (by omega), c7 h7⟩
    have ag : ∀ (s : Nat) (a : Int), 9 ≤ s → s ≤ 11 → 7 ≤ qS q → -1 ≤ a ∧ a ≤ 99 → (s = 9 → qK q (qN q - 1) = 1 ∧ 1 ≤ a ∧ a ≤ 9) → (s = 11 → qK q (qN q - 1) = 2 ∧ 1 ≤ a ∧ a ≤ 9) → (s = 10 → 0 ≤ a) → WFQ (p + 1) (qAg q s a) := by
      intro s a s9 s11 s7 ha x9 x11 x10
      refine ⟨s11, fun z => absurd (show s = 0 from z) (by omega), fun _ => ⟨n1, ?_⟩, fun i hi => ?_, fun i hi hh => ?_, fun _ => ?_⟩
      · show 8 * (qN q - 1) + min s 7 ≤ p + 1
        omega
      · have hi : i < qN q := hi
        obtain ⟨y1, y2, y3, y4⟩ := h4 i hi
        refine ⟨y1, y2, y3, ?_⟩
        show -1 ≤ fU (qA q) (qN q - 1) a i ∧ fU (qA q) (qN q - 1) a i ≤ 99
        rw [fU_if]
        split
        · exact ha
        · exact y4
      · have hh : s = 0 ∨ i + 1 < qN q := hh
        exact h5 i hi (Or.inr (by omega))
      · unfold WQc
        show (s = 1 → qL q (qN q - 1) = 0) ∧ (2 ≤ s → 1 ≤ qL q (qN q - 1)) ∧ (s ≤ 3 → qY q (qN q - 1) = 0) ∧ (s = 4 → qY q (qN q - 1) = 1) ∧ (s = 5 → 16 ≤ qY q (qN q - 1) ∧ qY q (qN q - 1) ≤ 18) ∧ (s = 6 → 160 ≤ qY q (qN q - 1) ∧ qY q (qN q - 1) ≤ 189) ∧ (7 ≤ s → 1600 ≤ qY q (qN q - 1) ∧ qY q (qN q - 1) ≤ 1899) ∧ (s ≤ 8 → fU (qA q) (qN q - 1) a (qN q - 1) = -1) ∧ (s = 8 → qK q (qN q - 1) ≠ 0) ∧ (s = 9 → qK q (qN q - 1) = 1 ∧ 1 ≤ fU (qA q) (qN q - 1) a (qN q - 1) ∧ fU (qA q) (qN q - 1) a (qN q - 1) ≤ 9) ∧ (s = 11 → qK q (qN q - 1) = 2 ∧ 1 ≤ fU (qA q) (qN q - 1) a (qN q - 1) ∧ fU (qA q) (qN q - 1) a (qN q - 1) ≤ 9) ∧ (s = 10 → 0 ≤ fU (qA q) (qN q - 1) a (qN q - 1))
        simp only [fU_eq]
        exact ⟨fun z => by omega, fun _ => c2 (by omega), fun z => by omega, fun z => by omega, fun z => by omega, fun z => by omega, fun _ => c7 s7, fun z => by omega, fun z => by omega, x9, x11, x10⟩
    have yr : (3 ≤ qS q ∧ qS q ≤ 6) → (qS q = 3 → 10 * qY q (qN q - 1) + (c - 48) = 1) → (qS q = 4 → 16 ≤ 10 * qY q (qN q - 1) + (c - 48) ∧ 10 * qY q (qN q - 1) + (c - 48) ≤ 18) → (qS q = 5 → 160 ≤ 10 * qY q (qN q - 1) + (c - 48) ∧ 10 * qY q (qN q - 1) + (c - 48) ≤ 189) → (qS q = 6 → 1600 ≤ 10 * qY q (qN q - 1) + (c - 48) ∧ 10 * qY q (qN q - 1) + (c - 48) ≤ 1899) → WFQ (p + 1) (qYr q c) := by
      intro hs y3 y4 y5 y6
      refine ⟨by show qS q + 1 ≤ 11; omega, fun z => absurd (show qS q + 1 = 0 from z) (by omega), fun _ => ⟨n1, ?_⟩, fun i hi => h4 i hi, fun i hi hh => ?_, fun _ => ?_⟩
      · show 8 * (qN q - 1) + min (qS q + 1) 7 ≤ p + 1
        omega
      · have hh : qS q + 1 = 0 ∨ i + 1 < qN q := hh
        obtain ⟨z1, z2⟩ := h5 i hi (Or.inr (by omega))
        refine ⟨z1, ?_⟩
        show 1600 ≤ fU (qY q) (qN q - 1) (10 * qY q (qN q - 1) + (c - 48)) i ∧ fU (qY q) (qN q - 1) (10 * qY q (qN q - 1) + (c - 48)) i ≤ 1899
        rw [fU_ne (by omega)]
        exact z2
      · unfold WQc
        show (qS q + 1 = 1 → qL q (qN q - 1) = 0) ∧ (2 ≤ qS q + 1 → 1 ≤ qL q (qN q - 1)) ∧ (qS q + 1 ≤ 3 → fU (qY q) (qN q - 1) (10 * qY q (qN q - 1) + (c - 48)) (qN q - 1) = 0) ∧ (qS q + 1 = 4 → fU (qY q) (qN q - 1) (10 * qY q (qN q - 1) + (c - 48)) (qN q - 1) = 1) ∧ (qS q + 1 = 5 → 16 ≤ fU (qY q) (qN q - 1) (10 * qY q (qN q - 1) + (c - 48)) (qN q - 1) ∧ fU (qY q) (qN q - 1) (10 * qY q (qN q - 1) + (c - 48)) (qN q - 1) ≤ 18) ∧ (qS q + 1 = 6 → 160 ≤ fU (qY q) (qN q - 1) (10 * qY q (qN q - 1) + (c - 48)) (qN q - 1) ∧ fU (qY q) (qN q - 1) (10 * qY q (qN q - 1) + (c - 48)) (qN q - 1) ≤ 189) ∧ (7 ≤ qS q + 1 → 1600 ≤ fU (qY q) (qN q - 1) (10 * qY q (qN q - 1) + (c - 48)) (qN q - 1) ∧ fU (qY q) (qN q - 1) (10 * qY q (qN q - 1) + (c - 48)) (qN q - 1) ≤ 1899) ∧ (qS q + 1 ≤ 8 → qA q (qN q - 1) = -1) ∧ (qS q + 1 = 8 → qK q (qN q - 1) ≠ 0) ∧ (qS q + 1 = 9 → qK q (qN q - 1) = 1 ∧ 1 ≤ qA q (qN q - 1) ∧ qA q (qN q - 1) ≤ 9) ∧ (qS q + 1 = 11 → qK q (qN q - 1) = 2 ∧ 1 ≤ qA q (qN q - 1) ∧ qA q (qN q - 1) ≤ 9) ∧ (qS q + 1 = 10 → 0 ≤ qA q (qN q - 1))
        simp only [fU_eq]
        exact ⟨fun z => by omega, fun _ => c2 (by omega), fun z => by omega, fun z => y3 (by omega), fun z => y4 (by omega), fun z => y5 (by omega), fun z => y6 (by omega), fun z => c8 (by omega), fun z => by omega, fun z => by omega, fun z => by omega, fun z => by omega⟩
    split at ht
    next s2 =>
      split at ht
      next cc =>
        cases ht
        refine toK 3 (by omega) (by omega) (by omega) ?_
        unfold WQc
        show (3 = 1 → qL q (qN q - 1) = 0) ∧ (2 ≤ 3 → 1 ≤ qL q (qN q - 1)) ∧ (3 ≤ 3 → qY q (qN q - 1) = 0) ∧ (3 = 4 → qY q (qN q - 1) = 1) ∧ (3 = 5 → 16 ≤ qY q (qN q - 1) ∧ qY q (qN q - 1) ≤ 18) ∧ (3 = 6 → 160 ≤ qY q (qN q - 1) ∧ qY q (qN q - 1) ≤ 189) ∧ (7 ≤ 3 → 1600 ≤ qY q (qN q - 1) ∧ qY q (qN q - 1) ≤ 1899) ∧ (3 ≤ 8 → qA q (qN q - 1) = -1) ∧ (3 = 8 → qK q (qN q - 1) ≠ 0) ∧ (3 = 9 → qK q (qN q - 1) = 1 ∧ 1 ≤ qA q (qN q - 1) ∧ qA q (qN q - 1) ≤ 9) ∧ (3 = 11 → qK q (qN q - 1) = 2 ∧ 1 ≤ qA q (qN q - 1) ∧ qA q (qN q - 1) ≤ 9) ∧ (3 = 10 → 0 ≤ qA q (qN q - 1))
        exact ⟨fun z => by omega, fun _ => c2 (by omega), fun _ => c3 (by omega), fun z => by omega, fun z => by omega, fun z => by omega, fun z => by omega, fun _ => c8 (by omega), fun z => by omega, fun z => by omega, fun z => by omega, fun z => by omega⟩
      · split at ht
        next cc =>
          cases ht
          refine ⟨by show 2 ≤ 11; omega, fun z => absurd (show 2 = 0 from z) (by omega), fun _ => ⟨n1, ?_⟩, fun i hi => ?_, fun i hi hh => ?_, fun _ => ?_⟩
          · show 8 * (qN q - 1) + min 2 7 ≤ p + 1
            omega
          · have hi : i < qN q := hi
            obtain ⟨y1, y2, y3, y4⟩ := h4 i hi
            refine ⟨y1, ?_, ?_, y4⟩
            · show fU (qL q) (qN q - 1) (qL q (qN q - 1) + 1) i ≤ 8
              rw [fU_if]
              split <;> omega
            · show ∀ j, j < fU (qL q) (qN q - 1) (qL q (qN q - 1) + 1) i → 97 ≤ fU (qW q) (qN q - 1) (fU (qW q (qN q - 1)) (qL q (qN q - 1)) c) i j ∧ fU (qW q) (qN q - 1) (fU (qW q (qN q - 1)) (qL q (qN q - 1)) c) i j ≤ 122
              intro j
              by_cases e : i = qN q - 1
              · rw [e, fU_eq, fU_eq, fU_if]
                intro hj
                split
                · exact cc.1
                · exact b3 j (by omega)
              · rw [fU_ne e, fU_ne e]
                exact y3 j
          · have hh : 2 = 0 ∨ i + 1 < qN q := hh
            obtain ⟨z1, z2⟩ := h5 i hi (Or.inr (by omega))
            refine ⟨?_, z2⟩
            show 1 ≤ fU (qL q) (qN q - 1) (qL q (qN q - 1) + 1) i
            rw [fU_ne (by omega)]
            exact z1
          · unfold WQc
            show (2 = 1 → fU (qL q) (qN q - 1) (qL q (qN q - 1) + 1) (qN q - 1) = 0) ∧ (2 ≤ 2 → 1 ≤ fU (qL q) (qN q - 1) (qL q (qN q - 1) + 1) (qN q - 1)) ∧ (2 ≤ 3 → qY q (qN q - 1) = 0) ∧ (2 = 4 → qY q (qN q - 1) = 1) ∧ (2 = 5 → 16 ≤ qY q (qN q - 1) ∧ qY q (qN q - 1) ≤ 18) ∧ (2 = 6 → 160 ≤ qY q (qN q - 1) ∧ qY q (qN q - 1) ≤ 189) ∧ (7 ≤ 2 → 1600 ≤ qY q (qN q - 1) ∧ qY q (qN q - 1) ≤ 1899) ∧ (2 ≤ 8 → qA q (qN q - 1) = -1) ∧ (2 = 8 → qK q (qN q - 1) ≠ 0) ∧ (2 = 9 → qK q (qN q - 1) = 1 ∧ 1 ≤ qA q (qN q - 1) ∧ qA q (qN q - 1) ≤ 9) ∧ (2 = 11 → qK q (qN q - 1) = 2 ∧ 1 ≤ qA q (qN q - 1) ∧ qA q (qN q - 1) ≤ 9) ∧ (2 = 10 → 0 ≤ qA q (qN q - 1))
            rw [fU_eq]
            exact ⟨fun z => by omega, fun _ => by omega, fun _ => c3 (by omega), fun z => by omega, fun z => by omega, fun z => by omega, fun z => by omega, fun _ => c8 (by omega), fun z => by omega, fun z => by omega, fun z => by omega, fun z => by omega⟩
        · cases ht
    next s2 =>
      split at ht
      next s3 =>
        split at ht
        · cases ht
          have := c3 (by omega)
          exact yr ⟨by omega, by omega⟩ (fun _ => by omega) (fun z => by omega) (fun z => by omega) (fun z => by omega)
        · cases ht
      next s3 =>
      split at ht
      next s4 =>
        split at ht
        · cases ht
          have := c4 s4
          exact yr ⟨by omega, by omega⟩ (fun _ => by omega) (fun z => by omega) (fun z => by omega) (fun z => by omega)
        · cases ht
      next s4 =>
      split at ht
      next s6 =>
        split at ht
        · cases ht
          exact yr ⟨by omega, by omega⟩ (fun _ => by omega) (fun z => by omega) (fun z => by have := c5 z; omega) (fun z => by have := c6 z; omega)
        · cases ht
      next s6 =>
      split at ht
      next s7 =>
        split at ht
        · cases ht
          exact to0 (by omega)
        · split at ht
          next cc =>
            cases ht
            refine toK 8 (by omega) (by omega) (by omega) ?_
            unfold WQc
            show (8 = 1 → qL q (qN q - 1) = 0) ∧ (2 ≤ 8 → 1 ≤ qL q (qN q - 1)) ∧ (8 ≤ 3 → qY q (qN q - 1) = 0) ∧ (8 = 4 → qY q (qN q - 1) = 1) ∧ (8 = 5 → 16 ≤ qY q (qN q - 1) ∧ qY q (qN q - 1) ≤ 18) ∧ (8 = 6 → 160 ≤ qY q (qN q - 1) ∧ qY q (qN q - 1) ≤ 189) ∧ (7 ≤ 8 → 1600 ≤ qY q (qN q - 1) ∧ qY q (qN q - 1) ≤ 1899) ∧ (8 ≤ 8 → qA q (qN q - 1) = -1) ∧ (8 = 8 → qK q (qN q - 1) ≠ 0) ∧ (8 = 9 → qK q (qN q - 1) = 1 ∧ 1 ≤ qA q (qN q - 1) ∧ qA q (qN q - 1) ≤ 9) ∧ (8 = 11 → qK q (qN q - 1) = 2 ∧ 1 ≤ qA q (qN q - 1) ∧ qA q (qN q - 1) ≤ 9) ∧ (8 = 10 → 0 ≤ qA q (qN q - 1))
            exact ⟨fun z => by omega, fun _ => c2 (by omega), fun z => by omega, fun z => by omega, fun z => by omega, fun z => by omega, fun _ => c7 (by omega), fun _ => c8 (by omega), fun _ => cc.2, fun z => by omega, fun z => by omega, fun z => by omega⟩
          · cases ht
      next s7 =>
      split at ht
      next s8 =>
        split at ht
        next k1 =>
          split at ht
          · cases ht
            exact ag 9 _ (by omega) (by omega) (by omega) (by omega) (fun _ => ⟨k1, by omega, by omega⟩) (fun z => by omega) (fun z => by omega)
          · cases ht
        next k1 =>
          split at ht
          · cases ht
            have := c9 s8
            by_cases e : c = 48
            · rw [if_pos e]
              exact ag 10 _ (by omega) (by omega) (by omega) (by omega) (fun z => by omega) (fun z => by omega) (fun z => by omega)
            · rw [if_neg e]
              exact ag 11 _ (by omega) (by omega) (by omega) (by omega) (fun z => by omega) (fun z => ⟨by omega, by omega, by omega⟩) (fun z => by omega)
          · cases ht
      next s8 =>
      split at ht
      next s9 =>
        split at ht
        · cases ht
          have := c10 s9
          exact ag 10 _ (by omega) (by omega) (by omega) (by omega) (fun z => by omega) (fun z => by omega) (fun z => by omega)
        · cases ht
      next s9 =>
      split at ht
      · cases ht
        exact to0 (by omega)
      · split at ht
        next s11 =>
          split at ht
          · cases ht
            have := c11 s11
            exact ag 10 _ (by omega) (by omega) (by omega) (by omega) (fun z => by omega) (fun z => by omega) (fun z => by omega)
          · cases ht
        · cases ht

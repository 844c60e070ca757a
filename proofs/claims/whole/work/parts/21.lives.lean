/-! LIVES: how many; birth, burial, weddings of each; the life of each entry -/
abbrev VV : Type := Nat × (Nat → Int) × (Nat → Int) × (Nat → Nat) × (Nat → Int)
abbrev vN (V : VV) : Nat := V.1
abbrev vB (V : VV) : Nat → Int := V.2.1
abbrev vD (V : VV) : Nat → Int := V.2.2.1
abbrev vW (V : VV) : Nat → Nat := V.2.2.2.1
abbrev vO (V : VV) : Nat → Int := V.2.2.2.2
def fU {α : Type} (f : Nat → α) (a : Nat) (x : α) : Nat → α := fun e => if e = a then x else f e
theorem fU_eq {α : Type} {f : Nat → α} {a : Nat} {x : α} : fU f a x a = x := by simp [fU]
theorem fU_ne {α : Type} {f : Nat → α} {a e : Nat} {x : α} (h : e ≠ a) : fU f a x e = f e := if_neg h
/-- a new life with a birth and a burial -/
def vOpen (V : VV) (b d : Int) : VV := (vN V + 1, fU (vB V) (vN V) b, fU (vD V) (vN V) d, fU (vW V) (vN V) 0, fun e => if (e : Int) = d then (vN V : Int) else if (e : Int) = b then (vN V : Int) else vO V e)
def sV1 (E : EE) : Nat → VV
  | 0 => (0, fun _ => -1, fun _ => -1, fun _ => 0, fun _ => -1)
  | i + 1 => vOpen (sV1 E i) (aB E i) (sMt E (aB E i))
def sV2 (E : EE) : Nat → VV
  | 0 => sV1 E (nB E)
  | k + 1 => if sMt E (aD E k) = -1 then vOpen (sV2 E k) (-1) (aD E k) else sV2 E k
/-- the lives of the match -/
def sVf (E : EE) : VV := sV2 E (nD E)
/-- whether a wedding fits all that a life has -/
def vGn (E : EE) (V : VV) (e l : Nat) : Nat → Bool
  | 0 => decide (vW V l < 3)
  | n + 1 => vGn E V e l n && (decide (vO V n ≠ (l : Int)) || sFt E e n)
abbrev vG (E : EE) (V : VV) (e l : Nat) : Bool := vGn E V e l (eN E)
def vBare (V : VV) (l : Nat) : Bool := decide (vB V l = -1) && decide (vD V l = -1)
def vIn (E : EE) (V : VV) (l k : Nat) : Bool := decide (vO V k = (l : Int)) && (vBare V l || decide (eK E k ≠ 1))
def vSn (E : EE) (V : VV) (e l : Nat) : Nat → Int
  | 0 => 0
  | n + 1 => if vIn E V l n = true then vSn E V e l n + sWo E e n else vSn E V e l n
/-- its worth there -/
def vA (E : EE) (V : VV) (e l : Nat) : Int := Int.tdiv (vSn E V e l (eN E)) (cnt (vIn E V l) (eN E))
def vbn (E : EE) (V : VV) (e : Nat) : Nat → Int
  | 0 => -1
  | n + 1 => if vG E V e n = true ∧ (vbn E V e n = -1 ∨ vA E V e (vbn E V e n).toNat < vA E V e n) then (n : Int) else vbn E V e n
def vRn (E : EE) (V : VV) (e l : Nat) : Nat → Bool
  | 0 => false
  | n + 1 => vRn E V e l n || (decide (n ≠ l) && vG E V e n && decide (vA E V e l - vA E V e n ≤ eB E 2))
/-- a wedding is laid -/
def vL (E : EE) (V : VV) (e : Nat) : VV :=
  if vbn E V e (vN V) = -1 then (vN V + 1, fU (vB V) (vN V) (-1), fU (vD V) (vN V) (-1), fU (vW V) (vN V) 1, fU (vO V) e (vN V))
  else if vRn E V e (vbn E V e (vN V)).toNat (vN V) = true then V
  else (vN V, vB V, vD V, fU (vW V) (vbn E V e (vN V)).toNat (vW V (vbn E V e (vN V)).toNat + 1), fU (vO V) e (vbn E V e (vN V)))
def sVl (E : EE) : Nat → VV
  | 0 => sVf E
  | e + 1 => if eK E e = 1 then vL E (sVl E e) e else sVl E e
/-- the lives -/
def sVz (E : EE) : VV := sVl E (eN E)
/-! what holds of them -/
def VI (E : EE) (V : VV) : Prop :=
  (∀ e, vO V e = -1 ∨ (e < eN E ∧ ∃ l, l < vN V ∧ vO V e = (l : Int))) ∧
  (∀ l, l < vN V → (vB V l = -1 ∨ ∃ b, b < eN E ∧ vB V l = (b : Int) ∧ eK E b = 0 ∧ vO V b = (l : Int)) ∧ (vD V l = -1 ∨ ∃ d, d < eN E ∧ vD V l = (d : Int) ∧ eK E d = 2 ∧ vO V d = (l : Int)) ∧ (vB V l = -1 ∧ vD V l = -1 → ∃ k, k < eN E ∧ eK E k = 1 ∧ vO V k = (l : Int))) ∧
  (∀ e l, l < vN V → vO V e = (l : Int) → eK E e ≠ 1 → vB V l = (e : Int) ∨ vD V l = (e : Int))
/-- the mates -/
theorem sMt_ok {E : EE} (hW : WF E) (e : Nat) : sMt E e = -1 ∨ (∃ j k : Nat, j < nB E ∧ k < nD E ∧ ((e = aB E j ∧ sMt E e = aD E k ∧ sMt E (aD E k) = aB E j) ∨ (e = aD E k ∧ sMt E e = aB E j ∧ sMt E (aB E j) = aD E k)) ∧ sWo E (aB E j) (aD E k) ≠ -1) := (MV_ok hW (nB E) (Nat.le_refl _)).2.2.1 e
theorem bd_ne {E : EE} {i k : Nat} (hi : i < nB E) (hk : k < nD E) : aB E i ≠ aD E k := fun z => by
  have h1 := (aB_ok hi).2
  have h2 := (aD_ok hk).2
  rw [z] at h1
  omega
/-- the mate of a birth -/
theorem sMt_B {E : EE} (hW : WF E) {i : Nat} (hi : i < nB E) : sMt E (aB E i) = -1 ∨ ∃ k, k < nD E ∧ sMt E (aB E i) = aD E k ∧ sMt E (aD E k) = aB E i ∧ sWo E (aB E i) (aD E k) ≠ -1 := by
  rcases sMt_ok hW (aB E i) with h | ⟨j, k, hj, hk, h | h, hw⟩
  · exact Or.inl h
  · right
    have := aB_inj hi hj h.1
    subst this
    exact ⟨k, hk, h.2.1, h.2.2, hw⟩
  · exact absurd h.1 (bd_ne hi hk)
theorem sMt_D {E : EE} (hW : WF E) {k : Nat} (hk : k < nD E) : sMt E (aD E k) = -1 ∨ ∃ i, i < nB E ∧ sMt E (aD E k) = aB E i ∧ sMt E (aB E i) = aD E k := by
  rcases sMt_ok hW (aD E k) with h | ⟨j, q, hj, hq, h | h, hw⟩
  · exact Or.inl h
  · exact absurd h.1.symm (bd_ne hj hk)
  · right
    have := aD_inj hk hq h.1
    subst this
    exact ⟨j, hj, h.2.1, h.2.2⟩
theorem VI_open {E : EE} {V : VV} {b d : Int} (h : VI E V) (hb : b = -1 ∨ ∃ x : Nat, x < eN E ∧ b = (x : Int) ∧ eK E x = 0 ∧ vO V x = -1) (hd : d = -1 ∨ ∃ x : Nat, x < eN E ∧ d = (x : Int) ∧ eK E x = 2 ∧ vO V x = -1) (hn : b ≠ -1 ∨ d ≠ -1) : VI E (vOpen V b d) := by
  obtain ⟨h1, h2, h3⟩ := h
  refine ⟨fun e => ?_, fun l hl => ?_, fun e l hl he hk => ?_⟩
  · show (if (e : Int) = d then (vN V : Int) else if (e : Int) = b then (vN V : Int) else vO V e) = -1 ∨ (e < eN E ∧ ∃ l, l < vN V + 1 ∧ (if (e : Int) = d then (vN V : Int) else if (e : Int) = b then (vN V : Int) else vO V e) = (l : Int))
    by_cases c1 : (e : Int) = d
    · rw [if_pos c1]
      refine Or.inr ⟨?_, _, Nat.lt_succ_self _, rfl⟩
      rcases hd with c | ⟨x, hx, c, -⟩ <;> omega
    · rw [if_neg c1]
      by_cases c2 : (e : Int) = b
      · rw [if_pos c2]
        refine Or.inr ⟨?_, _, Nat.lt_succ_self _, rfl⟩
        rcases hb with c | ⟨x, hx, c, -⟩ <;> omega
      · rw [if_neg c2]
        rcases h1 e with c | ⟨c, l, hl, q⟩
        · exact Or.inl c
        · exact Or.inr ⟨c, l, by omega, q⟩
  · show (fU (vB V) (vN V) b l = -1 ∨ ∃ b', b' < eN E ∧ fU (vB V) (vN V) b l = (b' : Int) ∧ eK E b' = 0 ∧ (if (b' : Int) = d then (vN V : Int) else if (b' : Int) = b then (vN V : Int) else vO V b') = (l : Int)) ∧ (fU (vD V) (vN V) d l = -1 ∨ ∃ b', b' < eN E ∧ fU (vD V) (vN V) d l = (b' : Int) ∧ eK E b' = 2 ∧ (if (b' : Int) = d then (vN V : Int) else if (b' : Int) = b then (vN V : Int) else vO V b') = (l : Int)) ∧ (fU (vB V) (vN V) b l = -1 ∧ fU (vD V) (vN V) d l = -1 → ∃ k, k < eN E ∧ eK E k = 1 ∧ (if (k : Int) = d then (vN V : Int) else if (k : Int) = b then (vN V : Int) else vO V k) = (l : Int))
    have hl : l < vN V + 1 := hl
    by_cases c : l = vN V
    · subst c
      rw [fU_eq, fU_eq]
      refine ⟨?_, ?_, fun z => by omega⟩
      · rcases hb with c | ⟨x, hx, c, q, -⟩
        · exact Or.inl c
        · refine Or.inr ⟨x, hx, c, q, ?_⟩
          split
          · rfl
          · rw [if_pos c.symm]
      · rcases hd with c | ⟨x, hx, c, q, -⟩
        · exact Or.inl c
        · refine Or.inr ⟨x, hx, c, q, ?_⟩
          rw [if_pos c.symm]
    · rw [fU_ne c, fU_ne c]
      obtain ⟨q1, q2, q3⟩ := h2 l (by omega)
      have key : ∀ x : Nat, vO V x = (l : Int) → (if (x : Int) = d then (vN V : Int) else if (x : Int) = b then (vN V : Int) else vO V x) = (l : Int) := by
        intro x hx
        rw [if_neg (fun z => ?_), if_neg (fun z => ?_)]
        · exact hx
        · rcases hb with c | ⟨y, hy, c, -, w⟩
          · omega
          · have : x = y := by omega
            subst this
            omega
        · rcases hd with c | ⟨y, hy, c, -, w⟩
          · omega
          · have : x = y := by omega
            subst this
            omega
      refine ⟨?_, ?_, fun z => ?_⟩
      · rcases q1 with c | ⟨x, a1, a2, a3, a4⟩
        · exact Or.inl c
        · exact Or.inr ⟨x, a1, a2, a3, key x a4⟩
      · rcases q2 with c | ⟨x, a1, a2, a3, a4⟩
        · exact Or.inl c
        · exact Or.inr ⟨x, a1, a2, a3, key x a4⟩
      · obtain ⟨k, a1, a2, a3⟩ := q3 z
        exact ⟨k, a1, a2, key k a3⟩
  · show fU (vB V) (vN V) b l = (e : Int) ∨ fU (vD V) (vN V) d l = (e : Int)
    have he : (if (e : Int) = d then (vN V : Int) else if (e : Int) = b then (vN V : Int) else vO V e) = (l : Int) := he
    have hl : l < vN V + 1 := hl
    by_cases c1 : (e : Int) = d
    · rw [if_pos c1] at he
      have : l = vN V := by omega
      subst this
      rw [fU_eq, fU_eq]
      exact Or.inr c1.symm
    · rw [if_neg c1] at he
      by_cases c2 : (e : Int) = b
      · rw [if_pos c2] at he
        have : l = vN V := by omega
        subst this
        rw [fU_eq, fU_eq]
        exact Or.inl c2.symm
      · rw [if_neg c2] at he
        have hlt : l < vN V := by
          rcases h1 e with c | ⟨-, l', hl', q⟩ <;> omega
        rw [fU_ne (by omega), fU_ne (by omega)]
        exact h3 e l hlt he hk

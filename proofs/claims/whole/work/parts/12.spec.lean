/-! THE STATE OF THE ENTRIES, as numbers: how many, KIND, YEAR, AGE, letters of the NAME, the NAME, who is PARTED from whom, the bounds -/
abbrev EE : Type := Nat × (Nat → Int) × (Nat → Int) × (Nat → Int) × (Nat → Int) × (Nat → Nat → Int) × (Nat → Nat → Bool) × (Nat → Int)
abbrev eN (E : EE) : Nat := E.1
abbrev eK (E : EE) : Nat → Int := E.2.1
abbrev eY (E : EE) : Nat → Int := E.2.2.1
abbrev eA (E : EE) : Nat → Int := E.2.2.2.1
abbrev eL (E : EE) : Nat → Int := E.2.2.2.2.1
abbrev eW (E : EE) : Nat → Nat → Int := E.2.2.2.2.2.1
abbrev eP (E : EE) : Nat → Nat → Bool := E.2.2.2.2.2.2.1
abbrev eB (E : EE) : Nat → Int := E.2.2.2.2.2.2.2
/-- one entry's numbers are such as a text has them -/
def WFe (E : EE) (i : Nat) : Prop := (eK E i = 0 ∨ eK E i = 1 ∨ eK E i = 2) ∧ (1600 ≤ eY E i ∧ eY E i ≤ 1899) ∧ (-1 ≤ eA E i ∧ eA E i ≤ 99) ∧ (1 ≤ eL E i ∧ eL E i ≤ 8) ∧ (∀ k : Nat, (k : Int) < eL E i → 97 ≤ eW E i k ∧ eW E i k ≤ 122)
def WF (E : EE) : Prop := eN E ≤ 18 ∧ (∀ i, i < eN E → WFe E i) ∧ (∀ i j, eP E i j = eP E j i) ∧ (∀ i, eP E i i = false) ∧ (0 ≤ eB E 0 ∧ eB E 0 ≤ 1000) ∧ (0 ≤ eB E 1 ∧ eB E 1 ≤ 5) ∧ (0 ≤ eB E 2 ∧ eB E 2 ≤ 500)
/-! BORN -/
def sF (E : EE) (i : Nat) : Int := if eK E i = 0 then eY E i else if eA E i = -1 then (if eK E i = 1 then eY E i - 60 else eY E i - 100) else eY E i - eA E i - 1 - eB E 1
def sL (E : EE) (i : Nat) : Int := if eK E i = 0 then eY E i else if eA E i = -1 then (if eK E i = 1 then eY E i - 14 else eY E i) else eY E i - eA E i + eB E 1
def sYr (E : EE) (i j : Nat) : Int := max 0 (min (sL E i) (sL E j) - max (sF E i) (sF E j) + 1)
/-! what it costs -/
def sG (c : Int) : Int := if c = 97 ∨ c = 101 ∨ c = 111 ∨ c = 117 then 9 else if c = 98 ∨ c = 112 then 1 else if c = 99 ∨ c = 107 ∨ c = 113 then 2 else if c = 100 ∨ c = 116 then 3 else if c = 102 ∨ c = 118 ∨ c = 119 then 4 else if c = 103 ∨ c = 106 then 5 else if c = 105 ∨ c = 121 then 6 else if c = 109 ∨ c = 110 then 7 else if c = 115 ∨ c = 120 ∨ c = 122 then 8 else c
def sC (c d : Int) : Int := if c = d then 0 else if sG c = sG d then 1 else 2
def sD (u v : Nat → Int) (i : Nat) : Nat → Int := match i with
  | 0 => fun j => 2 * (j : Int)
  | i + 1 => fun j => Nat.rec (motive := fun _ => Int) (2 * ((i : Int) + 1)) (fun j d => min (min (sD u v i (j + 1)) d + 2) (sD u v i j + sC (u i) (v j))) j
theorem sD_0 (u v : Nat → Int) (j : Nat) : sD u v 0 j = 2 * (j : Int) := rfl
theorem sD_s0 (u v : Nat → Int) (i : Nat) : sD u v (i + 1) 0 = 2 * ((i : Int) + 1) := rfl
theorem sD_ss (u v : Nat → Int) (i j : Nat) : sD u v (i + 1) (j + 1) = min (min (sD u v i (j + 1)) (sD u v (i + 1) j) + 2) (sD u v i j + sC (u i) (v j)) := rfl
theorem sC_sym (c d : Int) : sC c d = sC d c := by
  unfold sC
  by_cases h : c = d
  · subst h; rfl
  · rw [if_neg h, if_neg (Ne.symm h)]
    by_cases h2 : sG c = sG d
    · rw [if_pos h2, if_pos h2.symm]
    · rw [if_neg h2, if_neg (Ne.symm h2)]
theorem sC_b (c d : Int) : 0 ≤ sC c d ∧ sC c d ≤ 2 := by unfold sC; split <;> (try split) <;> omega
theorem sD_i0 (u v : Nat → Int) (i : Nat) : sD u v i 0 = 2 * (i : Int) := by cases i <;> rfl
theorem sD_b (u v : Nat → Int) : ∀ i j : Nat, 0 ≤ sD u v i j ∧ sD u v i j ≤ 2 * ((i : Int) + j) := by
  intro i
  induction i with
  | zero => intro j; rw [sD_0]; omega
  | succ i ih =>
    intro j
    induction j with
    | zero => rw [sD_s0]; omega
    | succ j ihj =>
      rw [sD_ss]
      have h1 := ih (j + 1)
      have h2 := ih j
      have h3 := sC_b (u i) (v j)
      omega
theorem sD_sym (u v : Nat → Int) : ∀ i j : Nat, sD u v i j = sD v u j i := by
  intro i
  induction i with
  | zero => intro j; rw [sD_0, sD_i0]
  | succ i ih =>
    intro j
    induction j with
    | zero => rw [sD_s0, sD_0]; omega
    | succ j ihj =>
      rw [sD_ss, sD_ss, ih (j + 1), ih j, ihj, sC_sym]
      omega
def sDi (E : EE) (i j : Nat) : Int := sD (eW E i) (eW E j) (eL E i).toNat (eL E j).toNat
theorem sDi_sym (E : EE) (i j : Nat) : sDi E i j = sDi E j i := sD_sym _ _ _ _
def sLk (E : EE) (i j : Nat) : Int := 1000 - Int.tdiv (1000 * sDi E i j) (2 * max (eL E i) (eL E j))
theorem sLk_sym (E : EE) (i j : Nat) : sLk E i j = sLk E j i := by unfold sLk; rw [sDi_sym, show max (eL E i) (eL E j) = max (eL E j) (eL E i) by omega]
theorem sYr_sym (E : EE) (i j : Nat) : sYr E i j = sYr E j i := by unfold sYr; omega
/-! WHY, WORTH -/
def sO (E : EE) (i j : Nat) : Bool := (eK E i = 0 ∧ eY E j < eY E i) ∨ (eK E i = 2 ∧ eY E i < eY E j)
def sWh (E : EE) (i j : Nat) : Int := if eK E i = 0 ∧ eK E j = 0 then 1 else if eK E i = 2 ∧ eK E j = 2 then 2 else if eP E i j = true then 3 else if sO E i j = true ∨ sO E j i = true then 4 else if sYr E i j = 0 then 5 else if sLk E i j < eB E 0 then 6 else 0
def sFt (E : EE) (i j : Nat) : Bool := sWh E i j = 0
def sWo (E : EE) (i j : Nat) : Int := if sWh E i j = 0 then sLk E i j + Int.tdiv 200 (sYr E i j) else -1
theorem sWh_sym {E : EE} {i j : Nat} (hp : eP E i j = eP E j i) : sWh E i j = sWh E j i := by
  unfold sWh
  rw [hp, sYr_sym, sLk_sym]
  simp only [and_comm (a := eK E i = 0), and_comm (a := eK E i = 2), or_comm (a := sO E i j = true)]

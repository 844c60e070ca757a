/-! MATCH: births and burials by their places, the best by the set of burials that are given -/
def cK (E : EE) (k : Int) : Nat → Nat
  | 0 => 0
  | n + 1 => if eK E n = k then cK E k n + 1 else cK E k n
def aK (E : EE) (k : Int) : Nat → Nat → Nat
  | 0, _ => 0
  | n + 1, i => if eK E n = k ∧ cK E k n = i then n else aK E k n i
theorem cK_le (E : EE) (k : Int) : ∀ n, cK E k n ≤ n := by
  intro n
  induction n with
  | zero => exact Nat.le_refl _
  | succ n ih => unfold cK; split <;> omega
theorem cK_mono (E : EE) (k : Int) {a : Nat} : ∀ {b : Nat}, a ≤ b → cK E k a ≤ cK E k b := by
  intro b
  induction b with
  | zero => intro h; rw [show a = 0 by omega]; exact Nat.le_refl _
  | succ b ih =>
    intro h
    by_cases e : a = b + 1
    · rw [e]; exact Nat.le_refl _
    · have := ih (by omega)
      rw [cK]; split <;> omega
theorem aK_ok (E : EE) (k : Int) : ∀ n i, i < cK E k n → aK E k n i < n ∧ eK E (aK E k n i) = k ∧ cK E k (aK E k n i) = i := by
  intro n
  induction n with
  | zero => intro i h; exact absurd h (Nat.not_lt_zero _)
  | succ n ih =>
    intro i h
    unfold aK
    by_cases c : eK E n = k ∧ cK E k n = i
    · rw [if_pos c]
      exact ⟨by omega, c.1, c.2⟩
    · rw [if_neg c]
      have : i < cK E k n := by
        unfold cK at h
        split at h
        · rename_i hk
          have : cK E k n ≠ i := fun z => c ⟨hk, z⟩
          omega
        · exact h
      obtain ⟨h1, h2, h3⟩ := ih i this
      exact ⟨by omega, h2, h3⟩
theorem aK_of (E : EE) (k : Int) : ∀ n e, e < n → eK E e = k → cK E k e < cK E k n ∧ aK E k n (cK E k e) = e := by
  intro n
  induction n with
  | zero => intro e h; exact absurd h (Nat.not_lt_zero _)
  | succ n ih =>
    intro e h hk
    by_cases c : e = n
    · subst c
      rw [show cK E k (e + 1) = cK E k e + 1 from if_pos hk, aK, if_pos ⟨hk, rfl⟩]
      exact ⟨by omega, rfl⟩
    · obtain ⟨h1, h2⟩ := ih e (by omega) hk
      unfold aK
      rw [if_neg (by omega), h2]
      refine ⟨?_, rfl⟩
      rw [cK]
      split <;> omega
/-- no more than seven of a kind -/
def W7 (E : EE) : Prop := cK E 0 (eN E) ≤ 7 ∧ cK E 1 (eN E) ≤ 7 ∧ cK E 2 (eN E) ≤ 7
abbrev nB (E : EE) : Nat := cK E 0 (eN E)
abbrev nD (E : EE) : Nat := cK E 2 (eN E)
abbrev aB (E : EE) (i : Nat) : Nat := aK E 0 (eN E) i
abbrev aD (E : EE) (i : Nat) : Nat := aK E 2 (eN E) i
def bW (f : Nat → Int) (w : Nat → Int) (u k : Nat) : Int := if u.testBit k = false ∧ w k ≠ -1 then w k + f (u ||| 2 ^ k) else -1
def bM (f : Nat → Int) (w : Nat → Int) (u : Nat) : Nat → Int
  | 0 => f u
  | n + 1 => max (bM f w u n) (bW f w u n)
/-- r births are left -/
def bE (E : EE) : Nat → Nat → Int
  | 0, _ => 0
  | r + 1, u => bM (bE E r) (fun k => sWo E (aB E (nB E - (r + 1))) (aD E k)) u (nD E)
/-- the worth of the i-th birth with the k-th burial, u given -/
def bV (E : EE) (i u k : Nat) : Int := bW (bE E (nB E - (i + 1))) (fun k => sWo E (aB E i) (aD E k)) u k
theorem aB_ok {E : EE} {i : Nat} (h : i < nB E) : aB E i < eN E ∧ eK E (aB E i) = 0 := ⟨(aK_ok E 0 _ i h).1, (aK_ok E 0 _ i h).2.1⟩
theorem aD_ok {E : EE} {i : Nat} (h : i < nD E) : aD E i < eN E ∧ eK E (aD E i) = 2 := ⟨(aK_ok E 2 _ i h).1, (aK_ok E 2 _ i h).2.1⟩
theorem aB_inj {E : EE} {i j : Nat} (hi : i < nB E) (hj : j < nB E) (h : aB E i = aB E j) : i = j := by
  have h1 := (aK_ok E 0 _ i hi).2.2
  have h2 := (aK_ok E 0 _ j hj).2.2
  have h : aK E 0 (eN E) i = aK E 0 (eN E) j := h
  rw [h] at h1
  omega
theorem aD_inj {E : EE} {i j : Nat} (hi : i < nD E) (hj : j < nD E) (h : aD E i = aD E j) : i = j := by
  have h1 := (aK_ok E 2 _ i hi).2.2
  have h2 := (aK_ok E 2 _ j hj).2.2
  have h : aK E 2 (eN E) i = aK E 2 (eN E) j := h
  rw [h] at h1
  omega
theorem bM_b {f w : Nat → Int} {u : Nat} {lo hi : Int} (hlo : -1 ≤ hi) (hf : ∀ v, lo ≤ f v ∧ f v ≤ hi) (n : Nat) (hw : ∀ k, k < n → w k ≤ 1200) : lo ≤ bM f w u n ∧ bM f w u n ≤ hi + 1200 := by
  induction n with
  | zero => have := hf u; unfold bM; omega
  | succ n ih =>
    have h1 := ih (fun k hk => hw k (by omega))
    have h2 := hw n (by omega)
    have h3 := hf (u ||| 2 ^ n)
    unfold bM bW
    split <;> omega
theorem bE_b {E : EE} (hW : WF E) : ∀ r, r ≤ nB E → ∀ u, 0 ≤ bE E r u ∧ bE E r u ≤ 1200 * r := by
  intro r
  induction r with
  | zero => intro _ u; unfold bE; omega
  | succ r ih =>
    intro hr u
    have h := bM_b (f := bE E r) (w := fun k => sWo E (aB E (nB E - (r + 1))) (aD E k)) (u := u) (lo := 0) (hi := 1200 * (r : Int)) (by omega) (fun v => ih (by omega) v) (nD E) (fun k hk => (sWo_b hW (aB_ok (by omega)).1 (aD_ok hk).1).2)
    unfold bE
    omega
/-- the first place, from k on, at which v is t -/
def cF (v : Nat → Int) (t : Int) : Nat → Nat → Nat
  | 0, k => k
  | r + 1, k => if v k = t then k else cF v t r (k + 1)
/-- after i births: the burials given, the pairs, the mates -/
def cS (E : EE) : Nat → Nat × Nat × (Nat → Int)
  | 0 => (0, 0, fun _ => -1)
  | i + 1 =>
    let s := cS E i
    let k := cF (bV E i s.1) (bE E (nB E - i) s.1) (nD E) 0
    if k < nD E then (s.1 ||| 2 ^ k, s.2.1 + 1, fun e => if e = aD E k then (aB E i : Int) else if e = aB E i then (aD E k : Int) else s.2.2 e) else s
theorem cF_ge (v : Nat → Int) (t : Int) : ∀ r k, k ≤ cF v t r k ∧ cF v t r k ≤ k + r := by
  intro r
  induction r with
  | zero => intro k; unfold cF; omega
  | succ r ih => intro k; have := ih (k + 1); unfold cF; split <;> omega
theorem cF_hit (v : Nat → Int) (t : Int) : ∀ r k, cF v t r k < k + r → v (cF v t r k) = t := by
  intro r
  induction r with
  | zero => intro k h; unfold cF at h; omega
  | succ r ih =>
    intro k h
    unfold cF at h ⊢
    split
    · assumption
    · rename_i c
      rw [if_neg c] at h
      exact ih (k + 1) (by omega)
theorem bV_free {E : EE} {i u k : Nat} (h : 0 ≤ bV E i u k) : u.testBit k = false ∧ sWo E (aB E i) (aD E k) ≠ -1 := by
  unfold bV bW at h
  split at h
  next c => exact c
  · omega
/-- what holds of the mates after i births -/
def MV (E : EE) (i : Nat) (s : Nat × Nat × (Nat → Int)) : Prop := s.1 < 2 ^ nD E ∧ s.2.1 ≤ i ∧
  (∀ e, s.2.2 e = -1 ∨ (∃ j k : Nat, j < i ∧ k < nD E ∧ ((e = aB E j ∧ s.2.2 e = aD E k ∧ s.2.2 (aD E k) = aB E j) ∨ (e = aD E k ∧ s.2.2 e = aB E j ∧ s.2.2 (aB E j) = aD E k)) ∧ sWo E (aB E j) (aD E k) ≠ -1)) ∧
  (∀ k, k < nD E → s.1.testBit k = false → s.2.2 (aD E k) = -1)
theorem MV_ok {E : EE} (hW : WF E) : ∀ i, i ≤ nB E → MV E i (cS E i) := by
  intro i
  induction i with
  | zero => intro _; exact ⟨Nat.two_pow_pos _, Nat.le_refl _, fun e => Or.inl rfl, fun k _ _ => rfl⟩
  | succ i ih =>
    intro hi
    obtain ⟨h1, h2, h3, h4⟩ := ih (by omega)
    unfold cS
    simp only
    split
    next hk =>
      have hb := bE_b hW (nB E - i) (by omega) (cS E i).1
      have ht := cF_hit (bV E i (cS E i).1) (bE E (nB E - i) (cS E i).1) (nD E) 0 (by omega)
      obtain ⟨f1, f2⟩ := bV_free (E := E) (i := i) (u := (cS E i).1) (k := cF (bV E i (cS E i).1) (bE E (nB E - i) (cS E i).1) (nD E) 0) (by omega)
      generalize cF (bV E i (cS E i).1) (bE E (nB E - i) (cS E i).1) (nD E) 0 = k at *
      obtain ⟨a1, a2⟩ := aB_ok (show i < nB E by omega)
      obtain ⟨d1, d2⟩ := aD_ok hk
      have hbd : aB E i ≠ aD E k := fun z => by rw [z] at a2; omega
      refine ⟨Nat.or_lt_two_pow h1 (Nat.pow_lt_pow_right (by omega) hk), by simp only; omega, fun e => ?_, fun q hq hb2 => ?_⟩
      · simp only
        by_cases e1 : e = aD E k
        · right
          refine ⟨i, k, by omega, hk, Or.inr ⟨e1, ?_, ?_⟩, f2⟩
          · rw [if_pos e1]
          · rw [if_neg hbd, if_pos rfl]
        · by_cases e2 : e = aB E i
          · right
            refine ⟨i, k, by omega, hk, Or.inl ⟨e2, ?_, ?_⟩, f2⟩
            · rw [if_neg e1, if_pos e2]
            · rw [if_pos rfl]
          · rw [if_neg e1, if_neg e2]
            rcases h3 e with c | ⟨j, q, hj, hq, c, f3⟩
            · exact Or.inl c
            · right
              obtain ⟨b1, b2⟩ := aB_ok (show j < nB E by omega)
              obtain ⟨c1, c2⟩ := aD_ok hq
              have n1 : aD E q ≠ aB E i := fun z => by rw [z] at c2; omega
              have n2 : aB E j ≠ aD E k := fun z => by rw [z] at b2; omega
              have n3 : aB E j ≠ aB E i := fun z => by have := aB_inj (by omega) (by omega) z; omega
              have n4 : aD E q ≠ aD E k := fun z => by
                have z := aD_inj hq hk z
                subst z
                have := h4 q hq f1
                rcases c with ⟨-, -, c⟩ | ⟨c, d, -⟩
                · rw [c] at this; omega
                · exact e1 c
              refine ⟨j, q, by omega, hq, ?_, f3⟩
              rcases c with ⟨c, d, g⟩ | ⟨c, d, g⟩
              · left; exact ⟨c, d, by rw [if_neg n4, if_neg n1]; exact g⟩
              · right; exact ⟨c, d, by rw [if_neg n2, if_neg n3]; exact g⟩
      · simp only at hb2 ⊢
        rw [Nat.testBit_or, Bool.or_eq_false_iff] at hb2
        have n1 : q ≠ k := fun z => by rw [z, Nat.testBit_two_pow_self] at hb2; exact absurd hb2.2 (by decide)
        have n2 : aD E q ≠ aD E k := fun z => n1 (aD_inj hq hk z)
        have n3 : aD E q ≠ aB E i := fun z => by have := (aD_ok hq).2; rw [z] at this; omega
        rw [if_neg n2, if_neg n3]
        exact h4 q hq hb2.1
    next hk =>
      refine ⟨h1, by omega, fun e => ?_, h4⟩
      rcases h3 e with c | ⟨j, k, hj, c⟩
      · exact Or.inl c
      · exact Or.inr ⟨j, k, by omega, c⟩
/-- the mate of each entry, the pairs, their worth -/
def sMt (E : EE) (e : Nat) : Int := (cS E (nB E)).2.2 e
def sPa (E : EE) : Int := (cS E (nB E)).2.1
def sPw (E : EE) : Int := bE E (nB E) 0

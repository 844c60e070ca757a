/-! the reference enters a text -/
def cQ (q : QQ) (k : Int) : Nat → Nat
  | 0 => 0
  | n + 1 => if qK q n = k then cQ q k n + 1 else cQ q k n
theorem cQ_le (q : QQ) (k : Int) : ∀ n, cQ q k n ≤ n := by
  intro n
  induction n with
  | zero => exact Nat.le_refl _
  | succ n ih => unfold cQ; split <;> omega
def sRm (E : EE) (q : QQ) : Bool := decide (eN E + qN q ≤ 18) && decide (cK E 0 (eN E) + cQ q 0 (qN q) ≤ 7) && decide (cK E 1 (eN E) + cQ q 1 (qN q) ≤ 7) && decide (cK E 2 (eN E) + cQ q 2 (qN q) ≤ 7)
/-- the entries of a text come behind all others -/
def eAdd (E : EE) (q : QQ) : EE := (eN E + qN q, fun i => if i < eN E then eK E i else qK q (i - eN E), fun i => if i < eN E then eY E i else qY q (i - eN E), fun i => if i < eN E then eA E i else qA q (i - eN E), fun i => if i < eN E then eL E i else (qL q (i - eN E) : Int), fun i => if i < eN E then eW E i else qW q (i - eN E), fun i j => decide (i < eN E) && decide (j < eN E) && eP E i j, eB E)
def aEnt (A : AA) : AA := (0, pC A, eAdd (pE A) (sRd A).2, pR A + 1, pS A)
section MS1
variable {P : Int → MS → Prop}
theorem M_ofKind {E : EE} {m : MS} {k : Int} (hR : RepM E m) (hW : WF E) (rk : rng k) (hP : P (cK E k (eN E) : Int) m) : MMi mX10_ofKind [vr 0, vi k] m P := by
  have hn := hW.1
  have loop : ∀ (t i : Nat), i + t = eN E → YYi mX10_ofKind 4 [some (vr 0), some (vi k), some (vi (cK E k i : Int)), some (vi (i : Int))] [] m P := by
    intro t
    induction t with
    | zero =>
      intro i hi
      have hi : i = eN E := by omega
      subst hi
      refine uX10_ofKind_4 m _ _ _ ?_
      rw [hR.1]
      exact ⟨⟨by omega, by omega⟩, ⟨by omega, by omega⟩, fun _ => hP, fun z => by omega⟩
    | succ t ih =>
      intro i hi
      obtain ⟨a1, -⟩ := hR.2.1 i (by omega)
      obtain ⟨w1, -⟩ := hW.2.1 i (by omega)
      have := ih (i + 1) (by omega)
      rw [cK] at this
      refine uX10_ofKind_4 m _ _ _ ?_
      rw [hR.1]
      simp only [Int.toNat_natCast, a1]
      refine ⟨⟨by omega, by omega⟩, ⟨by omega, by omega⟩, fun z => by omega, fun _ => ⟨by omega, by omega, ⟨by omega, by omega⟩, rk, fun c => ?_, fun c => ?_⟩⟩
      · rw [if_neg c] at this
        rw [Int.add_zero]
        exact this
      · rw [if_pos c] at this
        exact this
  exact uX10_ofKind m k (loop (eN E) 0 (by omega))
theorem M_newOfKind {q : QQ} {m : MS} {k : Int} (hq : RepQ q m) (hn : qN q ≤ 18) (hk : ∀ i, i < qN q → WQb q i) (rk : rng k) (hP : P (cQ q k (qN q) : Int) m) : MMi mX10_newOfKind [vr 0, vi k] m P := by
  have loop : ∀ (t i : Nat), i + t = qN q → YYi mX10_newOfKind 4 [some (vr 0), some (vi k), some (vi (cQ q k i : Int)), some (vi (i : Int))] [] m P := by
    intro t
    induction t with
    | zero =>
      intro i hi
      have hi : i = qN q := by omega
      subst hi
      refine uX10_newOfKind_4 m _ _ _ ?_
      rw [hq.2.1]
      exact ⟨⟨by omega, by omega⟩, ⟨by omega, by omega⟩, fun _ => hP, fun z => by omega⟩
    | succ t ih =>
      intro i hi
      obtain ⟨a1, -⟩ := hq.2.2 i (by omega)
      obtain ⟨w1, -⟩ := hk i (by omega)
      have := ih (i + 1) (by omega)
      rw [cQ] at this
      refine uX10_newOfKind_4 m _ _ _ ?_
      rw [hq.2.1]
      simp only [Int.toNat_natCast, a1]
      refine ⟨⟨by omega, by omega⟩, ⟨by omega, by omega⟩, fun z => by omega, fun _ => ⟨by omega, by omega, ⟨by omega, by omega⟩, rk, fun c => ?_, fun c => ?_⟩⟩
      · rw [if_neg c] at this
        rw [Int.add_zero]
        exact this
      · rw [if_pos c] at this
        exact this
  exact uX10_newOfKind m k (loop (qN q) 0 (by omega))
theorem M_isRoom {E : EE} {q : QQ} {m : MS} (hR : RepM E m) (hW : WF E) (hq : RepQ q m) (hn : qN q ≤ 18) (hk : ∀ i, i < qN q → WQb q i) (hP : P (bi (sRm E q)) m) : MMi mX10_isRoom [vr 0] m P := by
  have he := hW.1
  have step : ∀ (x : Nat), x < 3 → (∀ b : Bool, b = decide (cK E (x : Int) (eN E) + cQ q (x : Int) (qN q) ≤ 7) → YYi mX10_isRoom 22 [some (vr 0), some (vi (bi b)), some (vi ((x : Int) + 1))] [] m P) → YYi mX10_isRoom 22 [some (vr 0), some (vi 1), some (vi (x : Int))] [] m P := by
    intro x hx hh
    refine uX10_isRoom_22 m _ _ ⟨⟨by omega, by omega⟩, fun z => by omega, fun _ => ⟨⟨by decide, by decide⟩, fun z => absurd z (by decide), fun _ => ?_⟩⟩
    refine M_ofKind hR hW ⟨by omega, by omega⟩ ?_
    refine M_newOfKind hq hn hk ⟨by omega, by omega⟩ ?_
    have k1 := cK_le E (x : Int) (eN E)
    have k2 := cQ_le q (x : Int) (qN q)
    exact ⟨⟨by omega, by omega⟩, fun c => hh false (by simp; omega), fun c => hh true (by simp; omega)⟩
  have no : ∀ (t x : Nat), x + t = 3 → sRm E q = false → YYi mX10_isRoom 22 [some (vr 0), some (vi 0), some (vi (x : Int))] [] m P := by
    intro t
    induction t with
    | zero =>
      intro x hx hf
      rw [hf] at hP
      exact uX10_isRoom_22 m _ _ ⟨⟨by omega, by omega⟩, fun _ => ⟨Or.inl rfl, hP⟩, fun z => by omega⟩
    | succ t ih =>
      intro x hx hf
      exact uX10_isRoom_22 m _ _ ⟨⟨by omega, by omega⟩, fun z => by omega, fun _ => ⟨rng_0, fun _ => ih (x + 1) (by omega) hf, fun z => absurd rfl z⟩⟩
  refine uX10_isRoom m ?_
  rw [hR.1, hq.2.1]
  unfold sRm at hP no
  refine ⟨⟨by omega, by omega⟩, fun c => no 3 0 (by omega) (by simp; omega), fun c => ?_⟩
  have c' : decide (eN E + qN q ≤ 18) = true := by simp; omega
  rw [c'] at hP no
  refine step 0 (by omega) (fun b hb => ?_)
  have hb : b = decide (cK E 0 (eN E) + cQ q 0 (qN q) ≤ 7) := hb
  rw [← hb] at hP no
  cases b
  · exact no 2 1 (by omega) (by simp)
  · refine step 1 (by omega) (fun b hb => ?_)
    have hb : b = decide (cK E 1 (eN E) + cQ q 1 (qN q) ≤ 7) := hb
    rw [← hb] at hP no
    cases b
    · exact no 1 2 (by omega) (by simp)
    · refine step 2 (by omega) (fun b hb => ?_)
      have hb : b = decide (cK E 2 (eN E) + cQ q 2 (qN q) ≤ 7) := hb
      rw [← hb] at hP no
      cases b
      · exact no 0 3 (by omega) (by simp)
      · exact uX10_isRoom_22 m _ _ ⟨⟨by decide, by decide⟩, fun _ => ⟨Or.inr rfl, hP⟩, fun z => absurd z (by decide)⟩
/-- the cells that hold the entries of E -/
def coreE (E : EE) (a k : Nat) : Prop := (a = 0 ∧ k = 2) ∨ ((a = 2 ∨ a = 3 ∨ a = 4 ∨ a = 5 ∨ a = 7) ∧ k < eN E) ∨ (a = 6 ∧ k < 8 * eN E) ∨ a = 8
theorem RepM.kpE {E : EE} {S : Nat → Nat → Prop} {m m' : MS} (h : RepM E m) (hW : WF E) (hk : Kp S m m') (hS : ∀ a k, coreE E a k → ¬ S a k) : RepM E m' := by
  obtain ⟨h1, h2, h3, h4, h5⟩ := h
  have n0 : ∀ a k, ((a = 0 ∧ k = 2) ∨ ((a = 2 ∨ a = 3 ∨ a = 4 ∨ a = 5 ∨ a = 7) ∧ k < eN E) ∨ (a = 6 ∧ k < 8 * eN E) ∨ a = 8) → m' a k = m a k := fun a k h => hk a k (hS a k h)
  refine ⟨by rw [n0 0 2 (by omega)]; exact h1, fun i hi => ?_, by rw [n0 8 0 (by omega)]; exact h3, by rw [n0 8 1 (by omega)]; exact h4, by rw [n0 8 2 (by omega)]; exact h5⟩
  obtain ⟨a1, a2, a3, a4, a5, b, a6, a7⟩ := h2 i hi
  have hl := (hW.2.1 i hi).2.2.2.1
  exact ⟨by rw [n0 2 i (by omega)]; exact a1, by rw [n0 3 i (by omega)]; exact a2, by rw [n0 4 i (by omega)]; exact a3, by rw [n0 5 i (by omega)]; exact a4, fun k hkl => by rw [n0 6 _ (by omega)]; exact a5 k hkl, b, by rw [n0 7 i (by omega)]; exact a6, a7⟩
end MS1

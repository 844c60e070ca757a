/-! THE STATE: the page's letters, the entries, texts read, entries struck -/
abbrev AA : Type := Nat × (Nat → Int) × EE × Int × Int
abbrev pN (A : AA) : Nat := A.1
abbrev pC (A : AA) : Nat → Int := A.2.1
abbrev pE (A : AA) : EE := A.2.2.1
abbrev pR (A : AA) : Int := A.2.2.2.1
abbrev pS (A : AA) : Int := A.2.2.2.2
def WFA (A : AA) : Prop := pN A ≤ 60 ∧ (∀ k, k < pN A → 32 ≤ pC A k ∧ pC A k ≤ 126) ∧ WF (pE A) ∧ W7 (pE A)
def RepA (A : AA) (m : MS) : Prop := m 0 0 = (pN A : Int) ∧ (∀ k, k < pN A → m 1 k = pC A k) ∧ RepM (pE A) m ∧ m 0 10 = pR A ∧ m 0 11 = pS A
/-- what no question changes -/
def SA (a k : Nat) : Prop := 9 ≤ a ∨ (a = 0 ∧ 12 ≤ k)
theorem RepA.kp {A : AA} {m m' : MS} (h : RepA A m) (hk : Kp SA m m') : RepA A m' := by
  obtain ⟨h1, h2, h3, h4, h5⟩ := h
  have n0 : ∀ a k, ¬ (9 ≤ a ∨ (a = 0 ∧ 12 ≤ k)) → ¬ SA a k := fun a k h z => h z
  exact ⟨by rw [hk 0 0 (n0 _ _ (by omega))]; exact h1, fun k hl => by rw [hk 1 k (n0 _ _ (by omega))]; exact h2 k hl, h3.kp hk (fun a k hc hs => by unfold SA at hs; unfold core at hc; omega), by rw [hk 0 10 (n0 _ _ (by omega))]; exact h4, by rw [hk 0 11 (n0 _ _ (by omega))]; exact h5⟩
theorem Kp.pa {m m' : MS} (h : Kp SP m m') : Kp SA m m' := h.mo (fun a k z => by unfold SP at z; unfold SA; omega)
theorem Kp.qa {m m' : MS} (h : Kp SQ m m') : Kp SA m m' := h.mo (fun a k z => by unfold SQ at z; unfold SA; omega)
theorem Kp.a14 {m m' : MS} (h : Kp S14 m m') : Kp SA m m' := h.sp.pa
/-- read on from a place: where the reading stops, and with what -/
def rRun (c : Nat → Int) : Nat → Nat → QQ → Nat × QQ
  | 0, p, q => (p, q)
  | r + 1, p, q => match rT q (c p) with
    | none => (p, q)
    | some q' => rRun c r (p + 1) q'
def sRd (A : AA) : Nat × QQ := rRun (pC A) (pN A) 0 q0
theorem rRun_b (c : Nat → Int) : ∀ r p q, p ≤ (rRun c r p q).1 ∧ (rRun c r p q).1 ≤ p + r := by
  intro r
  induction r with
  | zero => intro p q; exact ⟨Nat.le_refl _, Nat.le_refl _⟩
  | succ r ih =>
    intro p q
    rw [rRun]
    split
    · exact ⟨Nat.le_refl _, Nat.le_add_right _ _⟩
    · rename_i q' _
      have := ih (p + 1) q'
      omega
theorem rRun_w (c : Nat → Int) : ∀ r p q, WFQ p q → WFQ (rRun c r p q).1 (rRun c r p q).2 := by
  intro r
  induction r with
  | zero => intro p q h; exact h
  | succ r ih =>
    intro p q h
    rw [rRun]
    split
    · exact h
    · rename_i q' e
      exact ih (p + 1) q' (WFQ_S h e)
theorem sRd_w (A : AA) : WFQ (sRd A).1 (sRd A).2 := rRun_w _ _ _ _ WFQ_0
theorem sRd_b (A : AA) : (sRd A).1 ≤ pN A := by have := rRun_b (pC A) (pN A) 0 q0; unfold sRd; omega
section MR
variable {P : Int → MS → Prop}
theorem M_read12 {A : AA} (hW : WFA A) : ∀ (t p : Nat) (q : QQ) (m : MS), RepA A m → RepQ q m → WFQ p q → p + t = pN A → (∀ m', Kp SQ m m' → ((rRun (pC A) t p q).1 = pN A → RepQ (rRun (pC A) t p q).2 m') → P ((rRun (pC A) t p q).1) m') → YYi mX10_read 12 [some (vr 0), some (vi (p : Int))] [] m P := by
  have hn := hW.1
  intro t
  induction t with
  | zero =>
    intro p q m hR hq hw hp hP
    have hp : p = pN A := by omega
    subst hp
    refine uX10_read_12 m _ ?_
    rw [hR.1]
    exact ⟨⟨by omega, by omega⟩, ⟨by omega, by omega⟩, fun _ => hP m Kp.rf (fun _ => hq), fun z => by omega⟩
  | succ t ih =>
    intro p q m hR hq hw hp hP
    obtain ⟨c1, c2⟩ := hW.2.1 p (by omega)
    refine uX10_read_12 m _ ?_
    rw [hR.1]
    simp only [Int.toNat_natCast]
    rw [hR.2.1 p (by omega)]
    refine ⟨⟨by omega, by omega⟩, ⟨by omega, by omega⟩, fun z => by omega, fun _ => ⟨by omega, by omega, ?_⟩⟩
    rw [rRun] at hP
    refine M_takes hq hw (by omega) ⟨by omega, by omega⟩ (fun q' e m' r k => ?_) (fun e m' k => ?_)
    · rw [e] at hP
      refine ⟨⟨by decide, by decide⟩, fun z => absurd z (by decide), fun _ => ?_⟩
      exact ih (p + 1) q' m' (hR.kp k.qa) r (WFQ_S hw e) (by omega) (fun m2 k2 h => hP m2 (k.tr k2) h)
    · rw [e] at hP
      exact ⟨rng_0, fun _ => hP m' k (fun z => by exfalso; have z : p = pN A := z; omega), fun z => absurd rfl z⟩
theorem M_read {A : AA} {m : MS} (hR : RepA A m) (hW : WFA A) (hP : ∀ m', Kp SQ m m' → ((sRd A).1 = pN A → RepQ (sRd A).2 m') → P ((sRd A).1 : Int) m') : MMi mX10_read [vr 0] m P := by
  refine uX10_read m ?_
  intro m1 e1 m2 e2
  have hk : Kp SQ m m2 := by
    rw [e2, e1]
    exact (Kp.st (SQ_of (by omega))).tr (Kp.st (SQ_of (by omega)))
  refine M_read12 hW (pN A) 0 q0 m2 (hR.kp hk.qa) ⟨?_, ?_, fun i hi => absurd hi (Nat.not_lt_zero _)⟩ WFQ_0 (by omega) (fun m' k h => hP m' (hk.tr k) h)
  · rw [e2, mI_ne (by omega), e1, mI_eq]; rfl
  · rw [e2, mI_eq]; rfl
/-- fault -/
theorem M_fault {A : AA} {m : MS} (hR : RepA A m) (hW : WFA A) (hP : ∀ m', RepA A m' → P ((sRd A).1 : Int) m') : MMi mX10_fault [vr 0] m P :=
  uX10_fault m (M_read hR hW (fun m' k _ => hP m' (hR.kp k.qa)))
/-- letter -/
def aLet (A : AA) (c : Int) : AA := (pN A + 1, fU (pC A) (pN A) c, pE A, pR A, pS A)
theorem M_letter {A : AA} {m : MS} {c : Int} (hR : RepA A m) (hW : WFA A) (rc : rng c) (h1 : ¬ (32 ≤ c ∧ c ≤ 126) → P (-102) m) (h2 : (32 ≤ c ∧ c ≤ 126) → pN A = 60 → P (-104) m) (h3 : (32 ≤ c ∧ c ≤ 126) → pN A ≠ 60 → ∀ m', RepA (aLet A c) m' → P ((pN A + 1 : Nat) : Int) m') : MMi mX10_letter [vr 0, vi c] m P := by
  have hn := hW.1
  obtain ⟨a1, a2, a3, a4, a5⟩ := hR
  refine uX10_letter m c ?_
  refine M_within rc ⟨by decide, by decide⟩ ⟨by decide, by decide⟩ (fun d => ⟨⟨by decide, by decide⟩, fun _ => ?_, fun z => absurd z (by decide)⟩) (fun d => ⟨rng_0, fun z => absurd rfl z, fun _ => h1 d⟩)
  rw [a1, Int.toNat_natCast]
  refine ⟨⟨by omega, by omega⟩, fun e => ⟨by omega, by omega, fun m1 e1 m2 e2 => ?_⟩, fun e => h2 d (by omega)⟩
  have q : m2 0 0 = ((pN A + 1 : Nat) : Int) := by rw [e2, mI_eq, e1, mI_ne (by omega), a1]; omega
  rw [q]
  have hk : Kp (fun a k => a = 1 ∨ (a = 0 ∧ k = 0)) m m2 := by
    rw [e2, e1]
    exact (Kp.st (Or.inl rfl)).tr (Kp.st (Or.inr ⟨rfl, rfl⟩))
  refine h3 d (by omega) m2 ⟨q, fun k hkl => ?_, a3.kp hk (fun a k hc hs => by unfold core at hc; omega), ?_, ?_⟩
  · have hkl : k < pN A + 1 := hkl
    show m2 1 k = fU (pC A) (pN A) c k
    rw [e2, mI_ne (by omega), e1]
    by_cases e : k = pN A
    · rw [e, mI_eq, fU_eq]
    · rw [mI_ne (by omega), fU_ne e]
      exact a2 k (by omega)
  · rw [hk 0 10 (by omega)]; exact a4
  · rw [hk 0 11 (by omega)]; exact a5
def aBlk (A : AA) : AA := (0, A.2)
theorem M_blank {A : AA} {m : MS} (hR : RepA A m) (h : ∀ m', RepA (aBlk A) m' → P (pN A : Int) m') : MMi mX10_blank [vr 0] m P := by
  obtain ⟨a1, a2, a3, a4, a5⟩ := hR
  refine uX10_blank m ?_
  intro m1 e1
  have hk : Kp (fun a k => a = 0 ∧ k = 0) m m1 := by
    rw [e1]
    exact Kp.st ⟨rfl, rfl⟩
  rw [a1]
  refine h m1 ⟨by rw [e1, mI_eq]; rfl, fun k hkl => absurd hkl (Nat.not_lt_zero _), a3.kp hk (fun a k hc hs => by unfold core at hc; omega), ?_, ?_⟩
  · rw [hk 0 10 (by omega)]; exact a4
  · rw [hk 0 11 (by omega)]; exact a5
end MR

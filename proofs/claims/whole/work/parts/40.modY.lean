/-! the reference: age, bound -/
section MY
variable {P : Int → MS → Prop} {E : EE} {m : MS}
theorem M_isAge {k a : Int} (rk : rng k) (ra : rng a) (hP : P (bi (okAge k a)) m) : MMi mX10_isAge [vr 0, vi k, vi a] m P := by
  refine uX10_isAge m k a ?_
  refine ⟨ra, fun c => ?_, fun c => ⟨rk, fun d => ⟨fun f => ?_, fun f => ?_⟩, fun d => ?_⟩⟩
  · rw [show okAge k a = true by simp [okAge, c]] at hP; exact hP
  · rw [show okAge k a = false by simp [okAge, c, d, f]] at hP; exact hP
  · refine M_within ra rng_0 ⟨by decide, by decide⟩ (fun g => ⟨⟨by decide, by decide⟩, fun z => absurd z (by decide), fun _ => ?_⟩) (fun g => ⟨rng_0, fun _ => ?_, fun z => absurd rfl z⟩)
    · rw [show okAge k a = true by simp [okAge, f]; omega] at hP; exact hP
    · rw [show okAge k a = false by simp [okAge, f]; omega] at hP; exact hP
  · refine M_within ra ⟨by decide, by decide⟩ ⟨by decide, by decide⟩ (fun g => ⟨⟨by decide, by decide⟩, fun _ => ?_, fun z => absurd z (by decide)⟩) (fun g => ⟨rng_0, fun z => absurd rfl z, fun _ => ⟨fun _ => ?_, fun z => by omega⟩⟩)
    · rw [show okAge k a = true by simp [okAge, d]; omega] at hP; exact hP
    · rw [show okAge k a = false by simp [okAge, d]; omega] at hP; exact hP
/-- what age answers -/
def zAge (E : EE) (e a : Int) : Int := if inE E e = false then -101 else if okAge (eK E e.toNat) a = true then eA E e.toNat else -102
theorem RepM_age {i : Nat} {a : Int} (hR : RepM E m) (hi : i < eN E) : RepM (eAge E i a) (mI m 4 i a) := by
  obtain ⟨h1, h2, h3, h4, h5⟩ := hR
  refine ⟨by rw [mI_ne (by omega)]; exact h1, fun j hj => ?_, by rw [mI_ne (by omega)]; exact h3, by rw [mI_ne (by omega)]; exact h4, by rw [mI_ne (by omega)]; exact h5⟩
  obtain ⟨a1, a2, a3, a4, a5, b, a6, a7⟩ := h2 j hj
  refine ⟨by rw [mI_ne (by omega)]; exact a1, by rw [mI_ne (by omega)]; exact a2, ?_, by rw [mI_ne (by omega)]; exact a4, fun k hk => by rw [mI_ne (by omega)]; exact a5 k hk, b, by rw [mI_ne (by omega)]; exact a6, a7⟩
  show mI m 4 i a 4 j = fU (eA E) i a j
  by_cases c : j = i
  · rw [c, mI_eq, fU_eq]
  · rw [mI_ne (by omega), fU_ne c]; exact a3
theorem M_age1 {e a : Int} (hR : RepM E m) (hW : WF E) (re : rng e) (ra : rng a) (h0 : zAge E e a = -101 ∨ zAge E e a = -102 → P (zAge E e a) m) (h1 : ∀ i : Nat, e = (i : Int) → i < eN E → okAge (eK E i) a = true → ∀ m', RepM (eAge E i a) m' → Kp (fun x k => x = 4 ∧ k = i) m m' → P (eA E i) m') : MMi mX10_age [vr 0, vi e, vi a] m P := by
  unfold zAge at h0
  have hn := hW.1
  refine uX10_age m e a ?_
  refine M_isE hR hW re (fun i hi hiE => ⟨⟨by decide, by decide⟩, fun _ => ?_, fun z => absurd z (by decide)⟩) (fun f => ⟨rng_0, fun z => absurd rfl z, fun _ => ?_⟩)
  · have hgo := h1 i hi hiE
    subst hi
    rw [inE_t hiE, if_neg (by decide), Int.toNat_natCast] at h0
    obtain ⟨a1, -, a3, -⟩ := hR.2.1 i hiE
    obtain ⟨w1, -⟩ := hW.2.1 i hiE
    simp only [Int.toNat_natCast]
    rw [a1]
    refine ⟨by omega, by omega, ?_⟩
    refine M_isAge ⟨by omega, by omega⟩ ra ⟨rng_bi _, fun c => ?_, fun c => ?_⟩
    · intro m1 e1
      have hk : okAge (eK E i) a = true := by
        cases q : okAge (eK E i) a
        · rw [q] at c; exact absurd rfl c
        · rfl
      rw [a3, e1]
      exact hgo hk _ (RepM_age hR hiE) (Kp.st ⟨rfl, rfl⟩)
    · have hk : okAge (eK E i) a = false := by
        cases q : okAge (eK E i) a
        · rfl
        · rw [q] at c; exact absurd c (by decide)
      rw [hk, if_neg (by decide)] at h0
      exact h0 (Or.inr rfl)
  · rw [if_pos f] at h0
    exact h0 (Or.inl rfl)
end MY

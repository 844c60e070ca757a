/-! the reference: bound -/
def okBnd (w v : Int) : Bool := (decide (w = 0) && decide (0 ≤ v) && decide (v ≤ 1000)) || (decide (w = 1) && decide (0 ≤ v) && decide (v ≤ 5)) || (decide (w = 2) && decide (0 ≤ v) && decide (v ≤ 500))
section MZ
variable {P : Int → MS → Prop} {E : EE} {m : MS}
theorem RepM_bnd {w : Nat} {v : Int} (hR : RepM E m) (hw : w < 3) : RepM (eBnd E w v) (mI m 8 w v) := by
  obtain ⟨h1, h2, h3, h4, h5⟩ := hR
  refine ⟨by rw [mI_ne (by omega)]; exact h1, fun j hj => ?_, ?_, ?_, ?_⟩
  · obtain ⟨a1, a2, a3, a4, a5, b, a6, a7⟩ := h2 j hj
    exact ⟨by rw [mI_ne (by omega)]; exact a1, by rw [mI_ne (by omega)]; exact a2, by rw [mI_ne (by omega)]; exact a3, by rw [mI_ne (by omega)]; exact a4, fun k hk => by rw [mI_ne (by omega)]; exact a5 k hk, b, by rw [mI_ne (by omega)]; exact a6, a7⟩
  · show mI m 8 w v 8 0 = fU (eB E) w v 0
    by_cases c : 0 = w
    · rw [← c, mI_eq, fU_eq]
    · rw [mI_ne (by omega), fU_ne c]; exact h3
  · show mI m 8 w v 8 1 = fU (eB E) w v 1
    by_cases c : 1 = w
    · rw [← c, mI_eq, fU_eq]
    · rw [mI_ne (by omega), fU_ne c]; exact h4
  · show mI m 8 w v 8 2 = fU (eB E) w v 2
    by_cases c : 2 = w
    · rw [← c, mI_eq, fU_eq]
    · rw [mI_ne (by omega), fU_ne c]; exact h5
theorem M_bound1 {w v : Int} (hR : RepM E m) (rw_ : rng w) (rv : rng v) (h0 : okBnd w v = false → P (-102) m) (h1 : ∀ i : Nat, w = (i : Int) → i < 3 → okBnd w v = true → ∀ m', RepM (eBnd E i v) m' → Kp (fun x k => x = 8 ∧ k = i) m m' → P (eB E i) m') : MMi mX10_bound [vr 0, vi w, vi v] m P := by
  have go : okBnd w v = true → 0 ≤ w ∧ w < 3 → 0 ≤ w ∧ w < 3 ∧ ∀ m8 : MS, m8 = mI m 8 w.toNat v → P (m 8 w.toNat) m8 := by
    intro hk hw
    refine ⟨hw.1, hw.2, fun m8 e8 => ?_⟩
    have hv : m 8 w.toNat = eB E w.toNat := by
      obtain ⟨x1, x2, x3, x4, x5⟩ := hR
      have : w.toNat = 0 ∨ w.toNat = 1 ∨ w.toNat = 2 := by omega
      rcases this with q | q | q <;> rw [q]
      · exact x3
      · exact x4
      · exact x5
    rw [hv, e8]
    exact h1 w.toNat (by omega) (by omega) hk _ (RepM_bnd hR (by omega)) (Kp.st ⟨rfl, rfl⟩)
  have rest : w ≠ 0 ∨ okBnd w v = false → YYi mX10_bound 15 [some (vr 0), some (vi w), some (vi v), none, none] [] m P := by
    intro hw
    refine uX10_bound_15 m w v ⟨rw_, fun c => ⟨fun d => ?_, fun d => ?_⟩, fun c => ?_⟩
    · refine h0 ?_
      rcases hw with q | q
      · simp [okBnd, c, d, q]
      · exact q
    · refine M_within rv rng_0 ⟨by decide, by decide⟩ (fun g => ⟨⟨by decide, by decide⟩, fun z => absurd z (by decide), fun _ => go (by simp [okBnd, d]; omega) (by omega)⟩) (fun g => ⟨rng_0, fun _ => h0 (by simp [okBnd, d]; omega), fun z => absurd rfl z⟩)
    · refine M_within rv rng_0 ⟨by decide, by decide⟩ (fun g => ⟨⟨by decide, by decide⟩, fun _ => go (by simp [okBnd, c]; omega) (by omega), fun z => absurd z (by decide)⟩) (fun g => ⟨rng_0, fun z => absurd rfl z, fun _ => ⟨fun _ => h0 (by simp [okBnd, c]; omega), fun z => by omega⟩⟩)
  refine uX10_bound m w v ⟨rw_, fun c => rest (Or.inl c), fun c => ?_⟩
  refine M_within rv rng_0 ⟨by decide, by decide⟩ (fun g => ⟨⟨by decide, by decide⟩, fun _ => go (by simp [okBnd, c]; omega) (by omega), fun z => absurd z (by decide)⟩) (fun g => ⟨rng_0, fun z => absurd rfl z, fun _ => rest (Or.inr (by simp [okBnd, c]; omega))⟩)
end MZ

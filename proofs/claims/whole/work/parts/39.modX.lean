/-! the reference: sign, as, age, bound -/
def okAge (k a : Int) : Bool := decide (a = -1) || (decide (k = 1) && decide (14 ≤ a) && decide (a ≤ 99)) || (decide (k = 2) && decide (0 ≤ a) && decide (a ≤ 99))
def eAge (E : EE) (e : Nat) (a : Int) : EE := (eN E, eK E, eY E, fU (eA E) e a, eL E, eW E, eP E, eB E)
def eBnd (E : EE) (w : Nat) (v : Int) : EE := (eN E, eK E, eY E, eA E, eL E, eW E, eP E, fU (eB E) w v)
section MX
variable {P : Int → MS → Prop} {E : EE} {m : MS}
theorem M_sign1 {e p : Int} (hR : RepM E m) (hW : WF E) (re : rng e) (rp : rng p) (hP : P (zSign E e p) m) : MMi mX10_sign [vr 0, vi e, vi p] m P := by
  unfold zSign at hP
  have hn := hW.1
  refine uX10_sign m e p ?_
  refine M_isE hR hW re (fun i hi hiE => ⟨⟨by decide, by decide⟩, fun z => absurd z (by decide), fun _ => ?_⟩) (fun f => ⟨rng_0, fun _ => ?_, fun z => absurd rfl z⟩)
  · subst hi
    rw [inE_t hiE, Int.toNat_natCast] at hP
    obtain ⟨-, -, -, a4, a5, -⟩ := hR.2.1 i hiE
    obtain ⟨-, -, -, w4, -⟩ := hW.2.1 i hiE
    simp only [Int.toNat_natCast]
    rw [a4]
    refine ⟨by omega, by omega, ?_⟩
    refine M_within rp rng_0 ⟨by omega, by omega⟩ (fun f => ⟨⟨by decide, by decide⟩, fun z => absurd z (by decide), fun _ => ?_⟩) (fun f => ⟨rng_0, fun _ => ?_, fun z => absurd rfl z⟩)
    · obtain ⟨j, hj⟩ : ∃ j : Nat, p = (j : Int) := ⟨p.toNat, by omega⟩
      subst hj
      rw [if_pos ⟨rfl, f.1, by omega⟩, Int.toNat_natCast] at hP
      rw [show 8 * (i : Int) + (j : Int) = ((8 * i + j : Nat) : Int) by omega, Int.toNat_natCast, a5 j (by omega)]
      exact ⟨by omega, by omega, hP⟩
    · rw [if_neg (fun z => f ⟨z.2.1, by omega⟩)] at hP; exact hP
  · rw [if_neg (fun z => by rw [f] at z; exact absurd z.1 (by decide))] at hP; exact hP
theorem M_as1 {e k : Int} (hR : RepM E m) (hW : WF E) (re : rng e) (rk : rng k) (hP : P (zAs E e k) m) : MMi mX10_as [vr 0, vi e, vi k] m P := by
  unfold zAs at hP
  have hn := hW.1
  refine uX10_as m e k ?_
  refine M_isE hR hW re (fun i hi hiE => ⟨⟨by decide, by decide⟩, fun _ => ?_, fun z => absurd z (by decide)⟩) (fun f => ⟨rng_0, fun z => absurd rfl z, fun _ => ?_⟩)
  · subst hi
    rw [inE_t hiE, if_neg (by decide), Int.toNat_natCast] at hP
    obtain ⟨a1, a2, -⟩ := hR.2.1 i hiE
    obtain ⟨w1, -⟩ := hW.2.1 i hiE
    refine M_within rk rng_0 ⟨by decide, by decide⟩ (fun f => ⟨⟨by decide, by decide⟩, fun _ => ?_, fun z => absurd z (by decide)⟩) (fun f => ⟨rng_0, fun z => absurd rfl z, fun _ => ?_⟩)
    · rw [if_pos f] at hP
      simp only [Int.toNat_natCast]
      rw [a1, a2]
      refine ⟨by omega, by omega, ⟨by omega, by omega⟩, rk, fun c => ?_, fun c => ?_⟩
      · rw [if_neg c] at hP; exact hP
      · rw [if_pos c] at hP; exact hP
    · rw [if_neg f] at hP; exact hP
  · rw [if_pos f] at hP; exact hP
end MX

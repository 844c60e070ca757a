/-! the reference: count -/
section MAG
variable {P : Int → MS → Prop}
theorem M_pmany {E : EE} {m : MS} (hR : RepM E m) (hW : WF E) (hP : P (tPt E (eN E) : Int) m) : MMi mX10_partedMany [vr 0] m P := by
  have hn := hW.1
  have inner : ∀ (i : Nat), i < eN E → YYi mX10_partedMany 4 [some (vr 0), some (vi (tPt E (i + 1) : Int)), some (vi ((i : Int) + 1)), none] [] m P → ∀ (t j : Nat), j + t = i → YYi mX10_partedMany 14 [some (vr 0), some (vi ((tPt E i + cPt E i j : Nat) : Int)), some (vi (i : Int)), some (vi (j : Int))] [] m P := by
    intro i hi hg t
    induction t with
    | zero =>
      intro j hj
      have hj : j = i := by omega
      subst hj
      exact uX10_partedMany_14 m _ _ _ ⟨⟨by omega, by omega⟩, ⟨by omega, by omega⟩, fun _ => hg, fun z => by omega⟩
    | succ t ih =>
      intro j hj
      have hh := ih (j + 1) (by omega)
      refine uX10_partedMany_14 m _ _ _ ⟨⟨by omega, by omega⟩, ⟨by omega, by omega⟩, fun z => by omega, fun _ => ?_⟩
      refine M_parted hR hW hi (by omega) (fun h => ?_) (fun h => ?_)
      · refine ⟨⟨by decide, by decide⟩, fun z => absurd z (by decide), fun _ => ?_⟩
        rw [cPt, if_pos h] at hh
        exact hh
      · refine ⟨rng_0, fun _ => ?_, fun z => absurd rfl z⟩
        rw [cPt, if_neg (by rw [h]; decide)] at hh
        rw [Int.add_zero]
        exact hh
  have outer : ∀ (t i : Nat), i + t = eN E → YYi mX10_partedMany 4 [some (vr 0), some (vi (tPt E i : Int)), some (vi (i : Int)), none] [] m P := by
    intro t
    induction t with
    | zero =>
      intro i hi
      have hi : i = eN E := by omega
      subst hi
      refine uX10_partedMany_4 m _ _ ?_
      rw [hR.1]
      exact ⟨⟨by omega, by omega⟩, ⟨by omega, by omega⟩, fun _ => hP, fun z => by omega⟩
    | succ t ih =>
      intro i hi
      refine uX10_partedMany_4 m _ _ ?_
      rw [hR.1]
      refine ⟨⟨by omega, by omega⟩, ⟨by omega, by omega⟩, fun z => by omega, fun _ => ?_⟩
      exact inner i (by omega) (ih (i + 1) (by omega)) i 0 (by omega)
  exact uX10_partedMany m (outer (eN E) 0 (by omega))
theorem M_howMany {A : AA} {m : MS} {w : Int} (hR : RepA A m) (hW : WFA A) (rw_ : rng w) (hP : P (zCount A w) m) : MMi mX10_howMany [vr 0, vi w] m P := by
  obtain ⟨a1, a2, a3, a4, a5⟩ := hR
  unfold zCount at hP
  refine uX10_howMany m w ?_
  refine ⟨rw_, fun c => ?_, fun c => ?_, fun c => ?_, fun c => ?_, fun c => ?_, fun c => ?_, fun c => ?_, fun c => ?_, fun c => ?_⟩
  · rw [if_neg (by omega), if_neg (by omega), if_neg (by omega), if_neg (by omega), if_neg (by omega), if_neg (by omega)] at hP
    exact hP
  · rw [if_pos c] at hP
    rw [a3.1]
    exact hP
  · rw [if_neg (by omega), if_pos (by omega)] at hP
    exact M_ofKind a3 hW.2.2.1 ⟨by omega, by omega⟩ hP
  · rw [if_neg (by omega), if_pos (by omega)] at hP
    exact M_ofKind a3 hW.2.2.1 ⟨by omega, by omega⟩ hP
  · rw [if_neg (by omega), if_pos (by omega)] at hP
    exact M_ofKind a3 hW.2.2.1 ⟨by omega, by omega⟩ hP
  · rw [if_neg (by omega), if_neg (by omega), if_pos c] at hP
    rw [a1]
    exact hP
  · rw [if_neg (by omega), if_neg (by omega), if_neg (by omega), if_pos c] at hP
    rw [a4]
    exact hP
  · rw [if_neg (by omega), if_neg (by omega), if_neg (by omega), if_neg (by omega), if_pos c] at hP
    rw [a5]
    exact hP
  · rw [if_neg (by omega), if_neg (by omega), if_neg (by omega), if_neg (by omega), if_neg (by omega), if_pos c] at hP
    exact M_pmany a3 hW.2.2.1 hP
theorem M_count {A : AA} {m : MS} {w : Int} (hR : RepA A m) (hW : WFA A) (rw_ : rng w) (hP : P (zCount A w) m) : MMi mX10_count [vr 0, vi w] m P :=
  uX10_count m w (M_howMany hR hW rw_ hP)
end MAG

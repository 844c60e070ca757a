/-! the reference's questions of lives and entries -/
section MW
variable {P : Int → MS → Prop} {E : EE} {m : MS}
theorem M_life1 {l w : Int} (hR : RepM E m) (hW : WF E) (h7 : W7 E) (rl : rng l) (rw_ : rng w) (hP : ∀ m', Kp SA m m' → P (zLife E l w) m') : MMi mX10_life [vr 0, vi l, vi w] m P := by
  unfold zLife at hP
  obtain ⟨hI, hvn, -⟩ := Vz_ok hW
  refine uX10_life m l w ?_
  refine M_lives hR hW h7 (fun m1 hR1 hM1 hV1 hk1 => ?_)
  rw [hV1.1.1]
  refine M_within rl rng_0 ⟨by omega, by omega⟩ (fun d => ⟨⟨by decide, by decide⟩, fun _ => ?_, fun z => absurd z (by decide)⟩) (fun d => ⟨rng_0, fun z => absurd rfl z, fun _ => ?_⟩)
  · rw [if_pos ⟨d.1, by omega⟩] at hP
    refine M_within rw_ rng_0 ⟨by decide, by decide⟩ (fun f => ⟨⟨by decide, by decide⟩, fun z => absurd z (by decide), fun _ => ?_⟩) (fun f => ⟨rng_0, fun _ => ?_, fun z => absurd rfl z⟩)
    · rw [if_pos f] at hP
      obtain ⟨i, hi⟩ : ∃ i : Nat, l = (i : Int) := ⟨l.toNat, by omega⟩
      subst hi
      rw [Int.toNat_natCast] at hP
      exact M_lifeNow hR1 hW hV1 hI hvn (by omega) f (fun m' _ k => hP m' (hk1.pa.tr k.a14))
    · rw [if_neg f] at hP; exact hP m1 hk1.pa
  · rw [if_neg (fun z => d ⟨z.1, by omega⟩)] at hP; exact hP m1 hk1.pa
theorem M_wed1 {l p : Int} (hR : RepM E m) (hW : WF E) (h7 : W7 E) (rl : rng l) (rp : rng p) (hP : ∀ m', Kp SA m m' → P (zWed E l p) m') : MMi mX10_wedding [vr 0, vi l, vi p] m P := by
  unfold zWed at hP
  obtain ⟨hI, hvn, -⟩ := Vz_ok hW
  refine uX10_wedding m l p ?_
  refine M_lives hR hW h7 (fun m1 hR1 hM1 hV1 hk1 => ?_)
  rw [hV1.1.1]
  refine M_within rl rng_0 ⟨by omega, by omega⟩ (fun d => ⟨⟨by decide, by decide⟩, fun z => absurd z (by decide), fun _ => ?_⟩) (fun d => ⟨rng_0, fun _ => ?_, fun z => absurd rfl z⟩)
  · rw [if_pos ⟨d.1, by omega⟩] at hP
    obtain ⟨i, hi⟩ : ∃ i : Nat, l = (i : Int) := ⟨l.toNat, by omega⟩
    subst hi
    rw [Int.toNat_natCast] at hP
    exact M_weddingAt hR1 hW hV1 hI hvn (by omega) rp (hP m1 hk1.pa)
  · rw [if_neg (fun z => d ⟨z.1, by omega⟩)] at hP; exact hP m1 hk1.pa
theorem M_worth1 {e l : Int} (hR : RepM E m) (hW : WF E) (h7 : W7 E) (re : rng e) (rl : rng l) (hP : ∀ m', Kp SA m m' → P (zWorth E e l) m') : MMi mX10_worth [vr 0, vi e, vi l] m P := by
  unfold zWorth at hP
  have hn := hW.1
  obtain ⟨hI, -, hvn, hw0, -⟩ := Vf_ok hW
  have h1 : nB E ≤ 7 := h7.1
  have h2 : nD E ≤ 7 := h7.2.2
  have hvn : vN (sVf E) ≤ 18 := by omega
  refine uX10_worth m e l ?_
  refine M_flives hR hW h7 (fun m1 hR1 hM1 hV1 hk1 => ?_)
  refine M_isE hR1 hW re (fun i hi hiE => ⟨⟨by decide, by decide⟩, fun z => absurd z (by decide), fun _ => ?_⟩) (fun f => ⟨rng_0, fun _ => ?_, fun z => absurd rfl z⟩)
  · subst hi
    rw [inE_t hiE, Int.toNat_natCast] at hP
    obtain ⟨a1, -⟩ := hR1.2.1 i hiE
    obtain ⟨w1, -⟩ := hW.2.1 i hiE
    simp only [Int.toNat_natCast]
    rw [a1, hV1.1.1]
    refine ⟨by omega, by omega, ⟨by omega, by omega⟩, fun c => ?_, fun c => ?_⟩
    · rw [if_pos (Or.inr (Or.inl c))] at hP; exact hP m1 hk1.pa
    · refine M_within rl rng_0 ⟨by omega, by omega⟩ (fun d => ⟨⟨by decide, by decide⟩, fun _ => ?_, fun z => absurd z (by decide)⟩) (fun d => ⟨rng_0, fun z => absurd rfl z, fun _ => ?_⟩)
      · have hc : ¬ (true = false ∨ eK E i ≠ 1 ∨ ¬ (0 ≤ l ∧ l < vN (sVf E))) := by
          rintro (h | h | h)
          · cases h
          · exact h c
          · exact h ⟨d.1, by omega⟩
        rw [if_neg hc] at hP
        obtain ⟨j, hj⟩ : ∃ j : Nat, l = (j : Int) := ⟨l.toNat, by omega⟩
        subst hj
        rw [Int.toNat_natCast] at hP
        refine M_canGo hR1 hW hV1 hI hvn (fun l => by rw [hw0]; omega) hiE (by omega) (fun m2 hR2 hV2 hk2 => ⟨fun g => ⟨⟨by decide, by decide⟩, fun z => absurd z (by decide), fun _ => ?_⟩, fun g => ⟨rng_0, fun _ => ?_, fun z => absurd rfl z⟩⟩)
        · rw [if_pos g] at hP
          exact M_worthAt hR2 hW hV2 hI hvn hiE (by omega) (fun m3 _ _ k => hP m3 (hk1.pa.tr (hk2.a14.tr k.a14)))
        · rw [if_neg (by rw [g]; decide)] at hP
          exact hP m2 (hk1.pa.tr hk2.a14)
      · rw [if_pos (Or.inr (Or.inr (fun z => d ⟨z.1, by omega⟩)))] at hP; exact hP m1 hk1.pa
  · rw [if_pos (Or.inl f)] at hP; exact hP m1 hk1.pa
theorem M_mate1 {e : Int} (hR : RepM E m) (hW : WF E) (h7 : W7 E) (re : rng e) (hP : ∀ m', Kp SA m m' → P (zMate E e) m') : MMi mX10_mate [vr 0, vi e] m P := by
  unfold zMate at hP
  have hn := hW.1
  refine uX10_mate m e ?_
  refine M_isE hR hW re (fun i hi hiE => ⟨⟨by decide, by decide⟩, fun z => absurd z (by decide), fun _ => ?_⟩) (fun f => ⟨rng_0, fun _ => ?_, fun z => absurd rfl z⟩)
  · subst hi
    rw [inE_t hiE, Int.toNat_natCast] at hP
    obtain ⟨a1, -⟩ := hR.2.1 i hiE
    obtain ⟨w1, -⟩ := hW.2.1 i hiE
    simp only [Int.toNat_natCast]
    rw [a1]
    refine ⟨by omega, by omega, ⟨by omega, by omega⟩, fun c => ?_, fun c => ?_⟩
    · rw [if_neg (fun z => c (z.resolve_left (by decide)))] at hP
      refine M_pairs hR hW h7 (fun m1 hR1 hM1 hk1 => ?_)
      rw [hM1.2.1 i hiE]
      exact hP m1 hk1.pa
    · rw [if_pos (Or.inr c)] at hP; exact hP m Kp.rf
  · rw [if_pos (Or.inl f)] at hP; exact hP m Kp.rf
theorem M_entry1 {e w : Int} (hR : RepM E m) (hW : WF E) (h7 : W7 E) (re : rng e) (rw_ : rng w) (hP : ∀ m', Kp SA m m' → P (zEntry E e w) m') : MMi mX10_entry [vr 0, vi e, vi w] m P := by
  unfold zEntry at hP
  obtain ⟨hI, hvn, -⟩ := Vz_ok hW
  refine uX10_entry m e w ?_
  refine M_isE hR hW re (fun i hi hiE => ⟨⟨by decide, by decide⟩, fun _ => ?_, fun z => absurd z (by decide)⟩) (fun f => ⟨rng_0, fun z => absurd rfl z, fun _ => ?_⟩)
  · subst hi
    rw [inE_t hiE, if_neg (by decide), Int.toNat_natCast] at hP
    refine M_within rw_ rng_0 ⟨by decide, by decide⟩ (fun f => ⟨⟨by decide, by decide⟩, fun z => absurd z (by decide), fun _ => ?_⟩) (fun f => ⟨rng_0, fun _ => ?_, fun z => absurd rfl z⟩)
    · rw [if_pos f] at hP
      refine uX10_entryTold m i w ?_
      refine M_lives hR hW h7 (fun m1 hR1 hM1 hV1 hk1 => ?_)
      exact M_entryNow hR1 hW hV1 hI hvn hiE f (hP m1 hk1.pa)
    · rw [if_neg f] at hP; exact hP m Kp.rf
  · rw [if_pos f] at hP; exact hP m Kp.rf
end MW

/-! the reference's match -/
def SP (a k : Nat) : Prop := 14 ≤ a ∨ (a = 0 ∧ 20 ≤ k ∧ k ≤ 28)
theorem SP.of14 {a k : Nat} (h : S14 a k) : SP a k := Or.inl (by unfold S14 at h; omega)
theorem Kp.sp {m m' : MS} (h : Kp S14 m m') : Kp SP m m' := h.mo (fun _ _ => SP.of14)
theorem RepM.kSP {E : EE} {m m' : MS} (h : RepM E m) (hk : Kp SP m m') : RepM E m' := h.kp hk (fun a k hc hs => by unfold SP at hs; unfold core at hc; omega)
/-- births and burials are listed up to n -/
def LKn (E : EE) (n : Nat) (m : MS) : Prop := m 0 20 = (cK E 0 n : Int) ∧ m 0 21 = (cK E 2 n : Int) ∧ (∀ i, i < cK E 0 n → m 15 i = (aK E 0 n i : Int)) ∧ (∀ i, i < cK E 2 n → m 16 i = (aK E 2 n i : Int))
abbrev LKM (E : EE) (m : MS) : Prop := LKn E (eN E) m
theorem LKn.k14 {E : EE} {n : Nat} {m m' : MS} (h : LKn E n m) (hk : Kp S14 m m') : LKn E n m' := by
  obtain ⟨h1, h2, h3, h4⟩ := h
  have n0 : ∀ k, ¬ S14 0 k := fun k z => by unfold S14 at z; omega
  have n5 : ∀ k, ¬ S14 15 k := fun k z => by unfold S14 at z; omega
  have n6 : ∀ k, ¬ S14 16 k := fun k z => by unfold S14 at z; omega
  exact ⟨by rw [hk 0 20 (n0 _)]; exact h1, by rw [hk 0 21 (n0 _)]; exact h2, fun i hi => by rw [hk 15 i (n5 _)]; exact h3 i hi, fun i hi => by rw [hk 16 i (n6 _)]; exact h4 i hi⟩
section MD
variable {E : EE} {P : MS → Prop}
theorem M_list12 (hW : WF E) (h7 : W7 E) : ∀ (t i : Nat) (m : MS), RepM E m → LKn E i m → i + t = eN E → (∀ m', RepM E m' → LKM E m' → Kp SP m m' → P m') → YYv mX10_listKinds 12 [some (vr 0), some (vi (i : Int))] [] m P := by
  have hn := hW.1
  intro t
  induction t with
  | zero =>
    intro i m hR hL hi k
    have hi : i = eN E := by omega
    subst hi
    refine uX10_listKinds_12 m _ ?_
    rw [hR.1]
    exact ⟨⟨by omega, by omega⟩, ⟨by omega, by omega⟩, fun _ => k m hR hL Kp.rf, fun z => by omega⟩
  | succ t ih =>
    intro i m hR hL hi k
    obtain ⟨a1, -⟩ := hR.2.1 i (by omega)
    obtain ⟨w1, -⟩ := hW.2.1 i (by omega)
    obtain ⟨l1, l2, l3, l4⟩ := hL
    refine uX10_listKinds_12 m _ ?_
    rw [hR.1]
    simp only [Int.toNat_natCast, a1]
    refine ⟨⟨by omega, by omega⟩, ⟨by omega, by omega⟩, fun z => by omega, fun _ => ⟨by omega, by omega, ⟨by omega, by omega⟩, fun c => ⟨fun d => ?_, fun d => ?_⟩, fun c => ?_⟩⟩
    · refine ih (i + 1) m hR ?_ (by omega) k
      refine ⟨by rw [cK, if_neg c]; exact l1, by rw [cK, if_neg d]; exact l2, fun j hj => ?_, fun j hj => ?_⟩
      · rw [cK, if_neg c] at hj
        rw [aK, if_neg (fun z => c z.1)]
        exact l3 j hj
      · rw [cK, if_neg d] at hj
        rw [aK, if_neg (fun z => d z.1)]
        exact l4 j hj
    · have h1 : cK E 2 (i + 1) = cK E 2 i + 1 := by rw [cK, if_pos d]
      have h2 : cK E 2 (i + 1) ≤ 7 := Nat.le_trans (cK_mono E 2 (by omega)) h7.2.2
      rw [l2, Int.toNat_natCast]
      refine ⟨by omega, by omega, ?_⟩
      intro m1 e1 m2 e2
      have hk : Kp SP m m2 := by
        rw [e2]
        refine Kp.tr ?_ (Kp.st (Or.inr ⟨rfl, by omega, by omega⟩))
        rw [e1]
        exact Kp.st (Or.inl (by omega))
      refine ih (i + 1) m2 (hR.kSP hk) ?_ (by omega) (fun m' r1 r2 r3 => k m' r1 r2 (hk.tr r3))
      subst e2 e1
      refine ⟨?_, ?_, fun j hj => ?_, fun j hj => ?_⟩
      · rw [cK, if_neg c, mI_ne (by omega), mI_ne (by omega)]; exact l1
      · rw [mI_eq, mI_ne (by omega), l2, h1]; omega
      · rw [cK, if_neg c] at hj
        rw [aK, if_neg (fun z => c z.1), mI_ne (by omega), mI_ne (by omega)]
        exact l3 j hj
      · rw [mI_ne (by omega), aK]
        by_cases q : cK E 2 i = j
        · subst q
          rw [if_pos ⟨d, rfl⟩, mI_eq]
        · rw [if_neg (fun z => q z.2), mI_ne (by omega)]
          exact l4 j (by omega)
    · have h1 : cK E 0 (i + 1) = cK E 0 i + 1 := by rw [cK, if_pos c]
      have h2 : cK E 0 (i + 1) ≤ 7 := Nat.le_trans (cK_mono E 0 (by omega)) h7.1
      have d : ¬ eK E i = 2 := by omega
      rw [l1, Int.toNat_natCast]
      refine ⟨by omega, by omega, ?_⟩
      intro m1 e1 m2 e2
      have hk : Kp SP m m2 := by
        rw [e2]
        refine Kp.tr ?_ (Kp.st (Or.inr ⟨rfl, by omega, by omega⟩))
        rw [e1]
        exact Kp.st (Or.inl (by omega))
      refine ih (i + 1) m2 (hR.kSP hk) ?_ (by omega) (fun m' r1 r2 r3 => k m' r1 r2 (hk.tr r3))
      subst e2 e1
      refine ⟨?_, ?_, fun j hj => ?_, fun j hj => ?_⟩
      · rw [mI_eq, mI_ne (by omega), l1, h1]; omega
      · rw [cK, if_neg d, mI_ne (by omega), mI_ne (by omega)]; exact l2
      · rw [mI_ne (by omega), aK]
        by_cases q : cK E 0 i = j
        · subst q
          rw [if_pos ⟨c, rfl⟩, mI_eq]
        · rw [if_neg (fun z => q z.2), mI_ne (by omega)]
          exact l3 j (by omega)
      · rw [cK, if_neg d] at hj
        rw [aK, if_neg (fun z => d z.1), mI_ne (by omega), mI_ne (by omega)]
        exact l4 j hj
theorem M_list {m : MS} (hR : RepM E m) (hW : WF E) (h7 : W7 E) (k : ∀ m', RepM E m' → LKM E m' → Kp SP m m' → P m') : MMv mX10_listKinds [vr 0] m P := by
  refine uX10_listKinds m ?_
  intro m1 e1 m2 e2
  have hk : Kp SP m m2 := by
    rw [e2]
    refine Kp.tr ?_ (Kp.st (Or.inr ⟨rfl, by omega, by omega⟩))
    rw [e1]
    exact Kp.st (Or.inr ⟨rfl, by omega, by omega⟩)
  refine M_list12 hW h7 (eN E) 0 m2 (hR.kSP hk) ?_ (by omega) (fun m' r1 r2 r3 => k m' r1 r2 (hk.tr r3))
  subst e2 e1
  exact ⟨by rw [mI_ne (by omega), mI_eq]; rfl, by rw [mI_eq]; rfl, fun i hi => absurd hi (Nat.not_lt_zero _), fun i hi => absurd hi (Nat.not_lt_zero _)⟩
end MD
section ME
variable {E : EE} {P : Int → MS → Prop}
/-- a row of best is right -/
def BRow (E : EE) (m : MS) (i : Nat) : Prop := ∀ u, u < 2 ^ nD E → m 17 (128 * i + u) = bE E (nB E - i) u
theorem BRow.k14 {m m' : MS} {i : Nat} (h : BRow E m i) (hk : Kp S14 m m') : BRow E m' i := fun u hu => by rw [hk 17 _ (by unfold S14; omega)]; exact h u hu
theorem two_le (h7 : W7 E) : 2 ^ nD E ≤ 128 := Nat.pow_le_pow_right (show 0 < 2 by omega) (show nD E ≤ 7 from h7.2.2)
theorem bV_b (hW : WF E) {i u k : Nat} (hi : i < nB E) (hk : k < nD E) : -1 ≤ bV E i u k ∧ bV E i u k ≤ 10000 + 1200 * (nB E : Int) := by
  have h1 := bE_b hW (nB E - (i + 1)) (by omega) (u ||| 2 ^ k)
  have h2 := sWo_b hW (aB_ok hi).1 (aD_ok hk).1
  unfold bV bW
  dsimp only
  split <;> omega
theorem M_bestWith {m : MS} {i k u : Nat} (hR : RepM E m) (hW : WF E) (h7 : W7 E) (hL : LKM E m) (hi : i < nB E) (hk : k < nD E) (hu : u < 2 ^ nD E) (hB : BRow E m (i + 1)) (kk : ∀ m', RepM E m' → Kp S14 m m' → P (bV E i u k) m') : MMi mX10_bestWith [vr 0, vi (i : Int), vi (k : Int), vi (u : Int)] m P := by
  have h2 := two_le h7
  have hi7 : nB E ≤ 7 := h7.1
  have hk7 : nD E ≤ 7 := h7.2.2
  obtain ⟨a1, a2⟩ := aB_ok hi
  obtain ⟨d1, d2⟩ := aD_ok hk
  obtain ⟨l1, l2, l3, l4⟩ := hL
  refine uX10_bestWith m i k u ?_
  rw [b_test (by omega) (by omega)]
  simp only [Int.toNat_natCast, l3 i hi, l4 k hk]
  unfold bV bW at kk
  dsimp only at kk
  cases ht : u.testBit k
  · simp only [Bool.false_eq_true, if_false]
    refine ⟨rng_0, fun z => absurd trivial z, fun _ => ⟨by omega, by omega, by omega, by omega, ?_⟩⟩
    refine M_fit hR hW a1 d1 (fun m1 hR1 hk1 => ⟨fun hf => ⟨⟨by decide, by decide⟩, fun z => absurd z (by decide), fun _ => ?_⟩, fun hf => ⟨rng_0, fun _ => ?_, fun z => absurd rfl z⟩⟩)
    · have L1 := LKn.k14 (E := E) (n := eN E) ⟨l1, l2, l3, l4⟩ hk1
      rw [L1.2.2.1 i hi, L1.2.2.2 k hk]
      refine M_worth hR1 hW a1 d1 (fun m2 hR2 hk2 => ?_)
      have hp : 2 ^ k < 2 ^ nD E := Nat.pow_lt_pow_right (by omega) hk
      have ho : u ||| 2 ^ k < 2 ^ nD E := Nat.or_lt_two_pow hu hp
      rw [b_bit (by omega), b_or_nat (by omega) (by omega)]
      rw [show (128 * ((i : Int) + 1) + ((u ||| 2 ^ k : Nat) : Int)) = ((128 * (i + 1) + (u ||| 2 ^ k) : Nat) : Int) by omega, Int.toNat_natCast, (hB.k14 (hk1.tr hk2)) _ ho]
      refine ⟨by omega, by omega, ?_⟩
      have := kk m2 hR2 (hk1.tr hk2)
      rw [if_pos ⟨ht, by have := sWo_fit hW a1 d1 hf; omega⟩] at this
      exact this
    · have := kk m1 hR1 hk1
      rw [if_neg (fun z => z.2 (sWo_no hf))] at this
      exact this
  · simp only [if_true]
    refine ⟨⟨by decide, by decide⟩, fun _ => ?_, fun z => absurd z (by decide)⟩
    have := kk m hR Kp.rf
    rw [if_neg (fun z => by rw [z.1] at ht; cases ht)] at this
    exact this
end ME

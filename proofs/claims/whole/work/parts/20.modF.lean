/-! the reference's pairs -/
/-- after i births -/
def PM (E : EE) (i : Nat) (m : MS) : Prop := LKM E m ∧ (∀ j, j ≤ nB E → BRow E m j) ∧ (∀ e, e < eN E → m 18 e = (cS E i).2.2 e) ∧ m 0 26 = ((cS E i).2.1 : Int) ∧ m 0 27 = sPw E
def MtM (E : EE) (m : MS) : Prop := LKM E m ∧ (∀ e, e < eN E → m 18 e = sMt E e) ∧ m 0 26 = sPa E ∧ m 0 27 = sPw E
theorem PM.k14 {E : EE} {i : Nat} {m m' : MS} (h : PM E i m) (hk : Kp S14 m m') : PM E i m' := by
  obtain ⟨h1, h2, h3, h4, h5⟩ := h
  have n0 : ∀ a k, a ≠ 14 → ¬ S14 a k := fun a k h z => h z
  exact ⟨h1.k14 hk, fun j hj => (h2 j hj).k14 hk, fun e he => by rw [hk 18 e (n0 _ _ (by omega))]; exact h3 e he, by rw [hk 0 26 (n0 _ _ (by omega))]; exact h4, by rw [hk 0 27 (n0 _ _ (by omega))]; exact h5⟩
theorem MtM.k14 {E : EE} {m m' : MS} (h : MtM E m) (hk : Kp S14 m m') : MtM E m' := by
  obtain ⟨h1, h3, h4, h5⟩ := h
  have n0 : ∀ a k, a ≠ 14 → ¬ S14 a k := fun a k h z => h z
  exact ⟨h1.k14 hk, fun e he => by rw [hk 18 e (n0 _ _ (by omega))]; exact h3 e he, by rw [hk 0 26 (n0 _ _ (by omega))]; exact h4, by rw [hk 0 27 (n0 _ _ (by omega))]; exact h5⟩
/-- the burial that the i-th birth gets, if it is less than nD -/
def cT (E : EE) (i : Nat) : Nat := cF (bV E i (cS E i).1) (bE E (nB E - i) (cS E i).1) (nD E) 0
theorem cS_no {E : EE} {i : Nat} (h : nD E ≤ cT E i) : cS E (i + 1) = cS E i := by
  unfold cT at h
  rw [cS]
  rw [if_neg (by omega)]
theorem cS_yes {E : EE} {i : Nat} (h : cT E i < nD E) : cS E (i + 1) = ((cS E i).1 ||| 2 ^ cT E i, (cS E i).2.1 + 1, fun e => if e = aD E (cT E i) then (aB E i : Int) else if e = aB E i then (aD E (cT E i) : Int) else (cS E i).2.2 e) := by
  unfold cT at h ⊢
  rw [cS]
  rw [if_pos h]
section MG
variable {E : EE} {P : MS → Prop}
theorem M_pairs60 (hW : WF E) (h7 : W7 E) {i : Nat} (hi : i < nB E) (kk : ∀ m, RepM E m → PM E (i + 1) m → ∀ m0, Kp SP m0 m → (∀ m', RepM E m' → MtM E m' → Kp SP m0 m' → P m') → YYv mX10_layPairs 50 [some (vr 0), some (vi ((cS E (i + 1)).1 : Int)), some (vi (((i + 1 : Nat)) : Int)), none] [] m P) : ∀ (t k : Nat) (m : MS), RepM E m → PM E i m → k + t = nD E → cF (bV E i (cS E i).1) (bE E (nB E - i) (cS E i).1) t k = cT E i → ∀ m0, Kp SP m0 m → (∀ m', RepM E m' → MtM E m' → Kp SP m0 m' → P m') → YYv mX10_layPairs 60 [some (vr 0), some (vi ((cS E i).1 : Int)), some (vi (i : Int)), some (vi (k : Int))] [] m P := by
  have h2 := two_le h7
  have hn := hW.1
  have hi7 : nB E ≤ 7 := h7.1
  have hk7 : nD E ≤ 7 := h7.2.2
  obtain ⟨v1, v2, v3, v4⟩ := MV_ok hW i (by omega)
  obtain ⟨a1, a2⟩ := aB_ok hi
  intro t
  induction t with
  | zero =>
    intro k m hR hP hk hc m0 hk0 hQ
    have hk : k = nD E := by omega
    subst hk
    have hc : nD E = cT E i := hc
    refine uX10_layPairs_60 m _ _ _ ?_
    rw [show m 0 21 = ((nD E : Nat) : Int) from hP.1.2.1]
    refine ⟨⟨by omega, by omega⟩, ⟨by omega, by omega⟩, fun _ => ⟨fun _ => ?_, fun z => by omega⟩, fun z => by omega⟩
    have he := cS_no (E := E) (i := i) (by omega)
    rw [← he]
    refine kk m hR ?_ m0 hk0 hQ
    unfold PM
    rw [he]
    exact hP
  | succ t ih =>
    intro k m hR hP hk hc m0 hk0 hQ
    have hkD : k < nD E := by omega
    refine uX10_layPairs_60 m _ _ _ ?_
    rw [show m 0 21 = ((nD E : Nat) : Int) from hP.1.2.1]
    refine ⟨⟨by omega, by omega⟩, ⟨by omega, by omega⟩, fun z => by omega, fun _ => ?_⟩
    refine M_bestWith hR hW h7 hP.1 hi hkD v1 (hP.2.1 (i + 1) (by omega)) (fun m1 hR1 hk1 => ?_)
    have hP1 := hP.k14 hk1
    obtain ⟨p1, p2, p3, p4, p5⟩ := hP1
    obtain ⟨l1, l2, l3, l4⟩ := p1
    rw [show (128 * (i : Int) + ((cS E i).1 : Int)) = ((128 * i + (cS E i).1 : Nat) : Int) by omega, Int.toNat_natCast, p2 i (by omega) _ v1]
    have b1 := bV_b hW (u := (cS E i).1) hi hkD
    have b2 := bE_b hW (nB E - i) (by omega) (cS E i).1
    rw [show m1 0 21 = ((nD E : Nat) : Int) from l2]
    simp only [Int.toNat_natCast]
    have l3' : m1 15 i = (aB E i : Int) := l3 i hi
    have l4' : m1 16 k = (aD E k : Int) := l4 k hkD
    rw [l3', l4']
    obtain ⟨d1, d2⟩ := aD_ok hkD
    refine ⟨by omega, by omega, ⟨by omega, by omega⟩, ⟨by omega, by omega⟩, fun c => ⟨⟨by omega, by omega⟩, fun z => by omega, fun _ => ⟨by omega, by omega, by omega, by omega, by omega, by omega, ?_⟩⟩, fun c => ?_⟩
    · have hT : k = cT E i := by rw [← hc, cF, if_pos c]
      have hy := cS_yes (E := E) (i := i) (by omega)
      rw [← hT] at hy
      simp only [Int.toNat_natCast]
      intro m2 e2
      have q1 : m2 16 k = (aD E k : Int) := by rw [e2, mI_ne (by omega)]; exact l4'
      have q2 : m2 15 i = (aB E i : Int) := by rw [e2, mI_ne (by omega)]; exact l3'
      rw [q1, q2, Int.toNat_natCast]
      refine ⟨by omega, by omega, ?_⟩
      intro m3 e3 m4 e4
      have hp : 2 ^ k < 2 ^ nD E := Nat.pow_lt_pow_right (by omega) hkD
      rw [b_bit (by omega), b_or_nat (by omega) (by omega)]
      have hkk : Kp SP m1 m4 := by
        rw [e4]
        refine Kp.tr ?_ (Kp.st (Or.inr ⟨rfl, by omega, by omega⟩))
        rw [e3]
        refine Kp.tr ?_ (Kp.st (Or.inl (by omega)))
        rw [e2]
        exact Kp.st (Or.inl (by omega))
      have hgo := kk m4 (hR1.kSP hkk) ?_ m0 (hk0.tr (hk1.sp.tr hkk)) hQ
      · rw [hy] at hgo
        exact hgo
      · have hbd : aB E i ≠ aD E k := fun z => by rw [z] at a2; omega
        subst e4 e3 e2
        refine ⟨⟨?_, ?_, fun j hj => ?_, fun j hj => ?_⟩, fun j hj u hu => ?_, fun e he => ?_, ?_, ?_⟩
        · rw [mI_ne (by omega), mI_ne (by omega), mI_ne (by omega)]; exact l1
        · rw [mI_ne (by omega), mI_ne (by omega), mI_ne (by omega)]; exact l2
        · rw [mI_ne (by omega), mI_ne (by omega), mI_ne (by omega)]; exact l3 j hj
        · rw [mI_ne (by omega), mI_ne (by omega), mI_ne (by omega)]; exact l4 j hj
        · rw [mI_ne (by omega), mI_ne (by omega), mI_ne (by omega)]; exact p2 j hj u hu
        · rw [hy, mI_ne (by omega)]
          simp only
          by_cases c1 : e = aD E k
          · rw [if_pos c1, c1, mI_eq]
          · rw [if_neg c1, mI_ne (by omega)]
            by_cases c2 : e = aB E i
            · rw [if_pos c2, c2, mI_eq]
            · rw [if_neg c2, mI_ne (by omega)]
              exact p3 e he
        · rw [hy, mI_eq, mI_ne (by omega), mI_ne (by omega), p4]
          simp only
          omega
        · rw [mI_ne (by omega), mI_ne (by omega), mI_ne (by omega)]; exact p5
    · rw [cF, if_neg c] at hc
      exact ih (k + 1) m1 hR1 (hP.k14 hk1) (by omega) hc m0 (hk0.tr hk1.sp) hQ
theorem M_pairs50 (hW : WF E) (h7 : W7 E) : ∀ (t i : Nat) (m : MS), RepM E m → PM E i m → i + t = nB E → ∀ m0, Kp SP m0 m → (∀ m', RepM E m' → MtM E m' → Kp SP m0 m' → P m') → YYv mX10_layPairs 50 [some (vr 0), some (vi ((cS E i).1 : Int)), some (vi (i : Int)), none] [] m P := by
  have hi7 : nB E ≤ 7 := h7.1
  intro t
  induction t with
  | zero =>
    intro i m hR hP hi m0 hk0 hQ
    have hi : i = nB E := by omega
    subst hi
    obtain ⟨p1, p2, p3, p4, p5⟩ := hP
    refine uX10_layPairs_50 m _ _ ?_
    rw [show m 0 20 = ((nB E : Nat) : Int) from p1.1]
    exact ⟨⟨by omega, by omega⟩, ⟨by omega, by omega⟩, fun _ => hQ m hR ⟨p1, p3, p4, p5⟩ hk0, fun z => by omega⟩
  | succ t ih =>
    intro i m hR hP hi m0 hk0 hQ
    refine uX10_layPairs_50 m _ _ ?_
    rw [show m 0 20 = ((nB E : Nat) : Int) from hP.1.1]
    refine ⟨⟨by omega, by omega⟩, ⟨by omega, by omega⟩, fun z => by omega, fun _ => ?_⟩
    exact M_pairs60 hW h7 (show i < nB E by omega) (fun m1 hR1 hP1 m2 hk2 hQ2 => ih (i + 1) m1 hR1 hP1 (by omega) m2 hk2 hQ2) (nD E) 0 m hR hP (by omega) rfl m0 hk0 hQ
theorem M_pairs25 (hW : WF E) (h7 : W7 E) : ∀ (t e : Nat) (m : MS), RepM E m → LKM E m → (∀ j, j ≤ nB E → BRow E m j) → m 0 26 = 0 → m 0 27 = sPw E → (∀ i, i < e → m 18 i = -1) → e + t = eN E → ∀ m0, Kp SP m0 m → (∀ m', RepM E m' → MtM E m' → Kp SP m0 m' → P m') → YYv mX10_layPairs 25 [some (vr 0), some (vi (e : Int)), none, none] [] m P := by
  have hn := hW.1
  intro t
  induction t with
  | zero =>
    intro e m hR hL hB h26 h27 hv he m0 hk0 hQ
    have he : e = eN E := by omega
    subst he
    refine uX10_layPairs_25 m _ ?_
    rw [hR.1]
    refine ⟨⟨by omega, by omega⟩, ⟨by omega, by omega⟩, fun _ => ?_, fun z => by omega⟩
    exact M_pairs50 hW h7 (nB E) 0 m hR ⟨hL, hB, hv, h26, h27⟩ (by omega) m0 hk0 hQ
  | succ t ih =>
    intro e m hR hL hB h26 h27 hv he m0 hk0 hQ
    refine uX10_layPairs_25 m _ ?_
    rw [hR.1]
    refine ⟨⟨by omega, by omega⟩, ⟨by omega, by omega⟩, fun z => by omega, fun _ => ⟨by omega, by omega, fun m1 e1 => ?_⟩⟩
    rw [Int.toNat_natCast] at e1
    have hk : Kp SP m m1 := by rw [e1]; exact Kp.st (Or.inl (by omega))
    subst e1
    obtain ⟨l1, l2, l3, l4⟩ := hL
    refine ih (e + 1) _ (hR.kSP hk) ⟨?_, ?_, fun j hj => ?_, fun j hj => ?_⟩ (fun j hj u hu => ?_) ?_ ?_ (fun i hi => ?_) (by omega) m0 (hk0.tr hk) hQ
    · rw [mI_ne (by omega)]; exact l1
    · rw [mI_ne (by omega)]; exact l2
    · rw [mI_ne (by omega)]; exact l3 j hj
    · rw [mI_ne (by omega)]; exact l4 j hj
    · rw [mI_ne (by omega)]; exact hB j hj u hu
    · rw [mI_ne (by omega)]; exact h26
    · rw [mI_ne (by omega)]; exact h27
    · by_cases c : i = e
      · rw [c, mI_eq]
      · rw [mI_ne (by omega)]; exact hv i (by omega)
theorem M_pairs {m : MS} (hR : RepM E m) (hW : WF E) (h7 : W7 E) (hQ : ∀ m', RepM E m' → MtM E m' → Kp SP m m' → P m') : MMv mX10_layPairs [vr 0] m P := by
  refine uX10_layPairs m ?_
  refine M_list hR hW h7 (fun m1 hR1 hL1 hk1 => ?_)
  refine M_layBest hR1 hW h7 hL1 (fun m2 hR2 hL2 hB2 hk2 => ?_)
  intro m3 e3 m4 e4
  have hk : Kp SP m2 m4 := by
    rw [e4]
    refine Kp.tr ?_ (Kp.st (Or.inr ⟨rfl, by omega, by omega⟩))
    rw [e3]
    exact Kp.st (Or.inr ⟨rfl, by omega, by omega⟩)
  subst e4 e3
  obtain ⟨l1, l2, l3, l4⟩ := hL2
  have h0 := hB2 0 (by omega) 0 (Nat.two_pow_pos _)
  refine M_pairs25 hW h7 (eN E) 0 _ (hR2.kSP hk) ⟨?_, ?_, fun j hj => ?_, fun j hj => ?_⟩ (fun j hj u hu => ?_) ?_ ?_ (fun i hi => absurd hi (Nat.not_lt_zero _)) (by omega) m ((hk1.tr hk2).tr hk) hQ
  · rw [mI_ne (by omega), mI_ne (by omega)]; exact l1
  · rw [mI_ne (by omega), mI_ne (by omega)]; exact l2
  · rw [mI_ne (by omega), mI_ne (by omega)]; exact l3 j hj
  · rw [mI_ne (by omega), mI_ne (by omega)]; exact l4 j hj
  · rw [mI_ne (by omega), mI_ne (by omega)]; exact hB2 j hj u hu
  · rw [mI_ne (by omega), mI_eq]
  · rw [mI_eq, mI_ne (by omega)]; exact h0
end MG

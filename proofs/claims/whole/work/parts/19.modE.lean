/-! the reference lays the table of the best, and the pairs -/
def bMM (E : EE) (i u n : Nat) : Int := bM (bE E (nB E - (i + 1))) (fun k => sWo E (aB E i) (aD E k)) u n
theorem bE_at (E : EE) {i : Nat} (hi : i < nB E) (u : Nat) : bE E (nB E - i) u = bMM E i u (nD E) := by
  unfold bMM
  obtain ⟨r, hr⟩ : ∃ r, nB E - i = r + 1 := ⟨nB E - i - 1, by omega⟩
  rw [hr, bE, show nB E - (i + 1) = r by omega, show nB E - (r + 1) = i by omega]
theorem bMM_b {E : EE} (hW : WF E) {i u n : Nat} (hi : i < nB E) (hn : n ≤ nD E) : 0 ≤ bMM E i u n ∧ bMM E i u n ≤ 1200 * (nB E : Int) + 1200 := by
  have h := bM_b (f := bE E (nB E - (i + 1))) (w := fun k => sWo E (aB E i) (aD E k)) (u := u) (lo := 0) (hi := 1200 * (nB E : Int)) (by omega) (fun v => by have := bE_b hW (nB E - (i + 1)) (by omega) v; omega) n (fun k hk => (sWo_b hW (aB_ok hi).1 (aD_ok (show k < nD E by omega)).1).2)
  exact h
theorem bMM_s (E : EE) (i u n : Nat) : bMM E i u (n + 1) = max (bMM E i u n) (bV E i u n) := rfl
section MF
variable {E : EE} {P : MS → Prop}
theorem SP_17 {k : Nat} : SP 17 k := Or.inl (by omega)
theorem M_layB72 (hW : WF E) (h7 : W7 E) {i u : Nat} (hi : i < nB E) (hu : u < 2 ^ nD E) : ∀ (t k : Nat) (m : MS), RepM E m → LKM E m → BRow E m (i + 1) → k + t = nD E → (∀ m', RepM E m' → LKM E m' → Kp S14 m m' → YYv mX10_layBest 44 [some (vr 0), some (vi (i : Int)), some (vi (((u + 1 : Nat)) : Int)), none, none] [] (mI m' 17 (128 * i + u) (bE E (nB E - i) u)) P) → YYv mX10_layBest 72 [some (vr 0), some (vi (i : Int)), some (vi (u : Int)), some (vi (bMM E i u k)), some (vi (k : Int))] [] m P := by
  have h2 := two_le h7
  have hi7 : nB E ≤ 7 := h7.1
  have hk7 : nD E ≤ 7 := h7.2.2
  intro t
  induction t with
  | zero =>
    intro k m hR hL hB hk kk
    have hk : k = nD E := by omega
    subst hk
    refine uX10_layBest_72 m _ _ _ _ ?_
    rw [show m 0 21 = ((nD E : Nat) : Int) from hL.2.1]
    refine ⟨⟨by omega, by omega⟩, ⟨by omega, by omega⟩, fun _ => ?_, fun z => by omega⟩
    rw [show (128 * (i : Int) + (u : Int)) = ((128 * i + u : Nat) : Int) by omega, Int.toNat_natCast]
    refine ⟨by omega, by omega, fun m6 e6 => ?_⟩
    subst e6
    rw [← bE_at E hi]
    exact kk m hR hL Kp.rf
  | succ t ih =>
    intro k m hR hL hB hk kk
    refine uX10_layBest_72 m _ _ _ _ ?_
    rw [show m 0 21 = ((nD E : Nat) : Int) from hL.2.1]
    refine ⟨⟨by omega, by omega⟩, ⟨by omega, by omega⟩, fun z => by omega, fun _ => ?_⟩
    refine M_bestWith hR hW h7 hL hi (show k < nD E by omega) hu hB (fun m1 hR1 hk1 => ?_)
    have b1 := bMM_b hW (u := u) hi (show k ≤ nD E by omega)
    have b2 := bV_b hW (u := u) hi (show k < nD E by omega)
    refine M_greater ⟨by omega, by omega⟩ ⟨by omega, by omega⟩ ?_
    exact ih (k + 1) m1 hR1 (hL.k14 hk1) (hB.k14 hk1) (by omega) (fun m2 a b c => kk m2 a b (hk1.tr c))
theorem M_layB44 (hW : WF E) (h7 : W7 E) {i : Nat} (hi : i < nB E) : ∀ (t u : Nat) (m : MS), RepM E m → LKM E m → (∀ j, i + 1 ≤ j → j ≤ nB E → BRow E m j) → (∀ v, v < u → m 17 (128 * i + v) = bE E (nB E - i) v) → u + t = 2 ^ nD E → (∀ m', RepM E m' → LKM E m' → (∀ j, i ≤ j → j ≤ nB E → BRow E m' j) → Kp SP m m' → YYv mX10_layBest 38 [some (vr 0), some (vi ((i : Int) + (-1))), none, none, none] [] m' P) → YYv mX10_layBest 44 [some (vr 0), some (vi (i : Int)), some (vi (u : Int)), none, none] [] m P := by
  have h2 := two_le h7
  have hi7 : nB E ≤ 7 := h7.1
  have hk7 : nD E ≤ 7 := h7.2.2
  have hs : b_shl 1 ((nD E : Nat) : Int) = ((2 ^ nD E : Nat) : Int) := b_bit (by omega)
  intro t
  induction t with
  | zero =>
    intro u m hR hL hB hv hu kk
    refine uX10_layBest_44 m _ _ ?_
    rw [show m 0 21 = ((nD E : Nat) : Int) from hL.2.1, hs]
    refine ⟨⟨by omega, by omega⟩, ⟨by omega, by omega⟩, fun _ => kk m hR hL (fun j hj hj2 => ?_) Kp.rf, fun z => by omega⟩
    by_cases e : j = i
    · subst e
      exact fun v hv2 => hv v (by omega)
    · exact hB j (by omega) hj2
  | succ t ih =>
    intro u m hR hL hB hv hu kk
    refine uX10_layBest_44 m _ _ ?_
    rw [show m 0 21 = ((nD E : Nat) : Int) from hL.2.1, hs]
    refine ⟨⟨by omega, by omega⟩, ⟨by omega, by omega⟩, fun z => by omega, fun _ => ?_⟩
    rw [show (128 * ((i : Int) + 1) + (u : Int)) = ((128 * (i + 1) + u : Nat) : Int) by omega, Int.toNat_natCast]
    refine ⟨by omega, by omega, ?_⟩
    rw [hB (i + 1) (by omega) (by omega) u (by omega)]
    refine M_layB72 hW h7 hi (by omega) (nD E) 0 m hR hL (hB (i + 1) (by omega) (by omega)) (by omega) (fun m1 hR1 hL1 hk1 => ?_)
    have hk : Kp SP m (mI m1 17 (128 * i + u) (bE E (nB E - i) u)) := hk1.sp.tr (Kp.st SP_17)
    refine ih (u + 1) _ (hR.kSP hk) ?_ (fun j hj hj2 v hv2 => ?_) (fun v hv2 => ?_) (by omega) (fun m' a b c d => kk m' a b c (hk.tr d))
    · obtain ⟨l1, l2, l3, l4⟩ := hL1
      exact ⟨by rw [mI_ne (by omega)]; exact l1, by rw [mI_ne (by omega)]; exact l2, fun j hj => by rw [mI_ne (by omega)]; exact l3 j hj, fun j hj => by rw [mI_ne (by omega)]; exact l4 j hj⟩
    · rw [mI_ne (by omega)]
      exact (hB j hj hj2).k14 hk1 v hv2
    · by_cases e : v = u
      · subst e; rw [mI_eq]
      · rw [mI_ne (by omega), hk1 17 _ (by unfold S14; omega)]
        exact hv v (by omega)
theorem M_layB38 (hW : WF E) (h7 : W7 E) : ∀ (i : Nat) (m : MS), RepM E m → LKM E m → i ≤ nB E → (∀ j, i ≤ j → j ≤ nB E → BRow E m j) → (∀ m', RepM E m' → LKM E m' → (∀ j, j ≤ nB E → BRow E m' j) → Kp SP m m' → P m') → YYv mX10_layBest 38 [some (vr 0), some (vi ((i : Int) + (-1))), none, none, none] [] m P := by
  have h2 := two_le h7
  have hi7 : nB E ≤ 7 := h7.1
  intro i
  induction i with
  | zero =>
    intro m hR hL _ hB kk
    refine uX10_layBest_38 m _ ⟨⟨by omega, by omega⟩, fun _ => kk m hR hL (fun j hj => hB j (by omega) hj) Kp.rf, fun z => by omega⟩
  | succ i ih =>
    intro m hR hL hi hB kk
    rw [show ((i + 1 : Nat) : Int) + (-1) = (i : Int) by omega]
    refine uX10_layBest_38 m _ ⟨⟨by omega, by omega⟩, fun z => by omega, fun _ => ?_⟩
    refine M_layB44 hW h7 (by omega) (2 ^ nD E) 0 m hR hL hB (fun v hv => absurd hv (Nat.not_lt_zero _)) (by omega) (fun m1 hR1 hL1 hB1 hk1 => ?_)
    exact ih m1 hR1 hL1 (by omega) hB1 (fun m' a b c d => kk m' a b c (hk1.tr d))
theorem M_layB2 (hW : WF E) (h7 : W7 E) : ∀ (t u : Nat) (m : MS), RepM E m → LKM E m → (∀ v, v < u → m 17 (128 * nB E + v) = 0) → u + t = 128 → (∀ m', RepM E m' → LKM E m' → (∀ j, j ≤ nB E → BRow E m' j) → Kp SP m m' → P m') → YYv mX10_layBest 2 [some (vr 0), some (vi (u : Int)), none, none, none] [] m P := by
  have h2 := two_le h7
  have hi7 : nB E ≤ 7 := h7.1
  intro t
  induction t with
  | zero =>
    intro u m hR hL hv hu kk
    refine uX10_layBest_2 m _ ⟨⟨by omega, by omega⟩, fun _ => ?_, fun z => by omega⟩
    rw [show m 0 20 = ((nB E : Nat) : Int) from hL.1]
    refine M_layB38 hW h7 (nB E) m hR hL (Nat.le_refl _) (fun j h1 h3 => ?_) kk
    have e : j = nB E := by omega
    subst e
    intro v hv2
    rw [hv v (by omega), Nat.sub_self]
    rfl
  | succ t ih =>
    intro u m hR hL hv hu kk
    refine uX10_layBest_2 m _ ⟨⟨by omega, by omega⟩, fun z => by omega, fun _ => ?_⟩
    rw [show m 0 20 = ((nB E : Nat) : Int) from hL.1, show (128 * ((nB E : Nat) : Int) + (u : Int)) = ((128 * nB E + u : Nat) : Int) by omega, Int.toNat_natCast]
    refine ⟨by omega, by omega, fun m1 e1 => ?_⟩
    have hk : Kp SP m m1 := by rw [e1]; exact Kp.st SP_17
    subst e1
    refine ih (u + 1) _ (hR.kSP hk) ?_ (fun v hv2 => ?_) (by omega) (fun m' a b c d => kk m' a b c (hk.tr d))
    · obtain ⟨l1, l2, l3, l4⟩ := hL
      exact ⟨by rw [mI_ne (by omega)]; exact l1, by rw [mI_ne (by omega)]; exact l2, fun j hj => by rw [mI_ne (by omega)]; exact l3 j hj, fun j hj => by rw [mI_ne (by omega)]; exact l4 j hj⟩
    · by_cases e : v = u
      · subst e; rw [mI_eq]
      · rw [mI_ne (by omega)]
        exact hv v (by omega)
theorem M_layBest {m : MS} (hR : RepM E m) (hW : WF E) (h7 : W7 E) (hL : LKM E m) (kk : ∀ m', RepM E m' → LKM E m' → (∀ j, j ≤ nB E → BRow E m' j) → Kp SP m m' → P m') : MMv mX10_layBest [vr 0] m P :=
  uX10_layBest m (M_layB2 hW h7 128 0 m hR hL (fun v hv => absurd hv (Nat.not_lt_zero _)) (by omega) kk)
end MF

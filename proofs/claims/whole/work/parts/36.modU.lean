/-! enter -/
theorem eAdd_cK (E : EE) (q : QQ) (k : Int) : (∀ n, n ≤ eN E → cK (eAdd E q) k n = cK E k n) ∧ ∀ n, cK (eAdd E q) k (eN E + n) = cK E k (eN E) + cQ q k n := by
  have h1 : ∀ n, n ≤ eN E → cK (eAdd E q) k n = cK E k n := by
    intro n
    induction n with
    | zero => intro _; rfl
    | succ n ih =>
      intro hn
      rw [cK, cK, ih (by omega), show eK (eAdd E q) n = eK E n from if_pos (by omega)]
  refine ⟨h1, fun n => ?_⟩
  induction n with
  | zero => rw [Nat.add_zero, h1 _ (Nat.le_refl _)]; rfl
  | succ n ih =>
    rw [← Nat.add_assoc, cK, cQ, ih, show eK (eAdd E q) (eN E + n) = qK q n from by show (if eN E + n < eN E then _ else _) = _; rw [if_neg (by omega), show eN E + n - eN E = n by omega]]
    split <;> omega
/-- a text that is whole -/
abbrev qEnd (q : QQ) : Prop := qS q = 7 ∨ 9 < qS q
theorem qEnd_f {p : Nat} {q : QQ} (h : WFQ p q) (he : qEnd q) {i : Nat} (hi : i < qN q) : WQb q i ∧ WQf q i := by
  obtain ⟨h1, h2, h3, h4, h5, h6⟩ := h
  refine ⟨h4 i hi, ?_⟩
  have he : qS q = 7 ∨ 9 < qS q := he
  by_cases c : i + 1 < qN q
  · exact h5 i hi (Or.inr c)
  · rw [show i = qN q - 1 by omega]
    obtain ⟨c1, c2, c3, c4, c5, c6, c7, -⟩ := h6 (by omega)
    exact ⟨c2 (by omega), c7 (by omega)⟩
theorem eAdd_w {E : EE} {q : QQ} {p : Nat} (hW : WF E) (hq : WFQ p q) (he : qEnd q) (hr : sRm E q = true) : WF (eAdd E q) ∧ W7 (eAdd E q) := by
  obtain ⟨w1, w2, w3, w4, w5, w6, w7⟩ := hW
  unfold sRm at hr
  simp only [Bool.and_eq_true, decide_eq_true_eq] at hr
  obtain ⟨⟨⟨r1, r2⟩, r3⟩, r4⟩ := hr
  refine ⟨⟨r1, fun i hi => ?_, fun i j => ?_, fun i => ?_, w5, w6, w7⟩, ?_, ?_, ?_⟩
  · have hi : i < eN E + qN q := hi
    unfold WFe
    show ((if i < eN E then eK E i else qK q (i - eN E)) = 0 ∨ (if i < eN E then eK E i else qK q (i - eN E)) = 1 ∨ (if i < eN E then eK E i else qK q (i - eN E)) = 2) ∧ (1600 ≤ (if i < eN E then eY E i else qY q (i - eN E)) ∧ (if i < eN E then eY E i else qY q (i - eN E)) ≤ 1899) ∧ (-1 ≤ (if i < eN E then eA E i else qA q (i - eN E)) ∧ (if i < eN E then eA E i else qA q (i - eN E)) ≤ 99) ∧ (1 ≤ (if i < eN E then eL E i else (qL q (i - eN E) : Int)) ∧ (if i < eN E then eL E i else (qL q (i - eN E) : Int)) ≤ 8) ∧ (∀ k : Nat, (k : Int) < (if i < eN E then eL E i else (qL q (i - eN E) : Int)) → 97 ≤ (if i < eN E then eW E i else qW q (i - eN E)) k ∧ (if i < eN E then eW E i else qW q (i - eN E)) k ≤ 122)
    by_cases c : i < eN E
    · simp only [if_pos c]
      exact w2 i c
    · simp only [if_neg c]
      obtain ⟨⟨b1, b2, b3, b4⟩, f1, f2⟩ := qEnd_f hq he (show i - eN E < qN q by omega)
      exact ⟨b1, f2, b4, by omega, fun k hk => b3 k (by omega)⟩
  · show (decide (i < eN E) && decide (j < eN E) && eP E i j) = (decide (j < eN E) && decide (i < eN E) && eP E j i)
    rw [w3 i j, Bool.and_comm (decide (i < eN E))]
  · show (decide (i < eN E) && decide (i < eN E) && eP E i i) = false
    rw [w4 i, Bool.and_false]
  · show cK (eAdd E q) 0 (eN E + qN q) ≤ 7
    rw [(eAdd_cK E q 0).2]; exact r2
  · show cK (eAdd E q) 1 (eN E + qN q) ≤ 7
    rw [(eAdd_cK E q 1).2]; exact r3
  · show cK (eAdd E q) 2 (eN E + qN q) ≤ 7
    rw [(eAdd_cK E q 2).2]; exact r4
/-- what enter answers -/
def sEn (A : AA) : Int := if (sRd A).1 = pN A ∧ qEnd (sRd A).2 then (if sRm (pE A) (sRd A).2 = true then (qN (sRd A).2 : Int) else -104) else -103
section MU
variable {P : Int → MS → Prop}
theorem RepM_add {E : EE} {q : QQ} {m : MS} (hR : RepM E m) (hE : ∀ i, i < qN q → EnR E q m i) {m' : MS} (h2 : m' 0 2 = ((eN E + qN q : Nat) : Int)) (hk : ∀ a k, 2 ≤ a ∧ a ≤ 8 → m' a k = m a k) : RepM (eAdd E q) m' := by
  obtain ⟨h1, h3, h4, h5, h6⟩ := hR
  refine ⟨h2, fun i hi => ?_, by rw [hk 8 0 (by omega)]; exact h4, by rw [hk 8 1 (by omega)]; exact h5, by rw [hk 8 2 (by omega)]; exact h6⟩
  have hi : i < eN E + qN q := hi
  show m' 2 i = (if i < eN E then eK E i else qK q (i - eN E)) ∧ m' 3 i = (if i < eN E then eY E i else qY q (i - eN E)) ∧ m' 4 i = (if i < eN E then eA E i else qA q (i - eN E)) ∧ m' 5 i = (if i < eN E then eL E i else (qL q (i - eN E) : Int)) ∧ (∀ k : Nat, (k : Int) < (if i < eN E then eL E i else (qL q (i - eN E) : Int)) → m' 6 (8 * i + k) = (if i < eN E then eW E i else qW q (i - eN E)) k) ∧ (∃ b : Nat, m' 7 i = (b : Int) ∧ b < 2 ^ (eN E + qN q) ∧ ∀ j, j < eN E + qN q → b.testBit j = (decide (i < eN E) && decide (j < eN E) && eP E i j))
  rw [hk 2 i (by omega), hk 3 i (by omega), hk 4 i (by omega), hk 5 i (by omega), hk 7 i (by omega)]
  by_cases c : i < eN E
  · simp only [if_pos c]
    obtain ⟨a1, a2, a3, a4, a5, b, a6, a7, a8⟩ := h3 i c
    refine ⟨a1, a2, a3, a4, fun k hkl => by rw [hk 6 _ (by omega)]; exact a5 k hkl, b, a6, Nat.lt_of_lt_of_le a7 (Nat.pow_le_pow_right (by omega) (by omega)), fun j hj => ?_⟩
    by_cases d : j < eN E
    · simp only [c, d, decide_true, Bool.true_and]
      exact a8 j d
    · simp only [d, decide_false, Bool.and_false, Bool.false_and]
      exact Nat.testBit_lt_two_pow (Nat.lt_of_lt_of_le a7 (Nat.pow_le_pow_right (by omega) (by omega)))
  · simp only [if_neg c]
    obtain ⟨a1, a2, a3, a4, a5, a6⟩ := hE (i - eN E) (by omega)
    rw [show eN E + (i - eN E) = i by omega] at a1 a2 a3 a4 a5 a6
    refine ⟨a1, a2, a3, a4, fun k hkl => by rw [hk 6 _ (by omega)]; exact a6 k (by omega), 0, by rw [a5]; rfl, Nat.two_pow_pos _, fun j hj => ?_⟩
    simp only [c, decide_false, Bool.false_and, Nat.zero_testBit]
theorem M_enter {A : AA} {m : MS} (hR : RepA A m) (hW : WFA A) (hP : ∀ m', RepA (if 0 ≤ sEn A then aEnt A else A) m' → P (sEn A) m') : MMi mX10_enter [vr 0] m P := by
  have hn := hW.1
  have hb := sRd_b A
  have hw := sRd_w A
  refine uX10_enter m ?_
  refine M_read hR hW (fun m1 hk1 hq1 => ?_)
  have hR1 := hR.kp hk1.qa
  rw [hR1.1]
  refine ⟨⟨by omega, by omega⟩, ⟨by omega, by omega⟩, fun c => ?_, fun c => ?_⟩
  · have h0 : sEn A = -103 := by unfold sEn; rw [if_neg (fun z => c (by omega))]
    have := hP m1
    rw [h0, if_neg (by decide)] at this
    exact this hR1
  · have c : (sRd A).1 = pN A := by omega
    have hq := hq1 c
    have h11 := hw.1
    have hnq : qN (sRd A).2 ≤ 18 := by
      obtain ⟨-, w2, w3, -⟩ := hw
      by_cases z : qS (sRd A).2 = 0
      · have := w2 z; omega
      · have := w3 z; omega
    rw [hq.1]
    have fin : qEnd (sRd A).2 → ∀ b : Int, b = bi (sRm (pE A) (sRd A).2) → rng b ∧ (¬ b = 0 → YYi mX10_enter 54 [some (vr 0), none, some (vi 0), none, none] [] m1 P) ∧ (b = 0 → P (-104) m1) := by
      intro he b eb
      cases hr : sRm (pE A) (sRd A).2
      · rw [hr] at eb
        subst eb
        have h0 : sEn A = -104 := by unfold sEn; rw [if_pos ⟨c, he⟩, if_neg (by rw [hr]; decide)]
        have := hP m1
        rw [h0, if_neg (by decide)] at this
        exact ⟨rng_0, fun z => absurd rfl z, fun _ => this hR1⟩
      · rw [hr] at eb
        subst eb
        refine ⟨⟨by decide, by decide⟩, fun _ => ?_, fun z => absurd z (by decide)⟩
        have h0 : sEn A = (qN (sRd A).2 : Int) := by unfold sEn; rw [if_pos ⟨c, he⟩, if_pos hr]
        have h18 : eN (pE A) + qN (sRd A).2 ≤ 18 := by
          unfold sRm at hr
          simp only [Bool.and_eq_true, decide_eq_true_eq] at hr
          exact hr.1.1.1
        rw [h0, if_pos (by omega)] at hP
        refine M_enter54 hW.2.2.1 h18 hw.2.2.2.1 (qN (sRd A).2) 0 m1 (by omega) hR1.2.2.1 hq (fun i hi => absurd hi (Nat.not_lt_zero _)) m1 Kp.rf (fun m2 hR2 hq2 hE2 hk2 m4 e4 m7 e7 m10 e10 => ?_)
        have n0 : ∀ a k, ¬ (2 ≤ a ∧ a ≤ 7) → m2 a k = m1 a k := fun a k h => hk2 a k h
        have v13 : m10 0 13 = (qN (sRd A).2 : Int) := by rw [e10, mI_ne (by omega), e7, mI_ne (by omega), e4, mI_ne (by omega)]; exact hq2.2.1
        rw [v13]
        obtain ⟨r1, r2, r3, r4, r5⟩ := hR1
        refine hP m10 ⟨?_, fun k hkl => absurd hkl (Nat.not_lt_zero _), ?_, ?_, ?_⟩
        · rw [e10, mI_eq]; rfl
        · refine RepM_add hR2 hE2 ?_ (fun a k h => ?_)
          · rw [e10, mI_ne (by omega), e7, mI_ne (by omega), e4, mI_eq, hR2.1, hq2.2.1]
            omega
          · rw [e10, mI_ne (by omega), e7, mI_ne (by omega), e4, mI_ne (by omega)]
        · rw [e10, mI_ne (by omega), e7, mI_eq, e4, mI_ne (by omega), n0 0 10 (by omega), r4]; rfl
        · rw [e10, mI_ne (by omega), e7, mI_ne (by omega), e4, mI_ne (by omega), n0 0 11 (by omega), r5]; rfl
    refine ⟨⟨by omega, by omega⟩, fun d => ?_, fun d => ⟨fun f => ?_, fun f => ?_⟩⟩
    · exact M_isRoom hR1.2.2.1 hW.2.2.1 hq hnq hw.2.2.2.1 (fin (Or.inl (by omega)) _ rfl)
    · have he : ¬ qEnd (sRd A).2 := fun z => by have z : qS (sRd A).2 = 7 ∨ 9 < qS (sRd A).2 := z; omega
      have h0 : sEn A = -103 := by unfold sEn; rw [if_neg (fun z => he z.2)]
      have := hP m1
      rw [h0, if_neg (by decide)] at this
      exact this hR1
    · exact M_isRoom hR1.2.2.1 hW.2.2.1 hq hnq hw.2.2.2.1 (fin (Or.inr (by omega)) _ rfl)
end MU

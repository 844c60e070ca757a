/-! the class: the entries of a text are added; enter -/
def dNn (q : QQ) : Nat := if qS q = 0 then qN q else qN q - 1
section XAD
variable {A : AA}
/-- the current entry of the text comes to the register -/
theorem X_addQ {P : GS → Prop} {g : GS} (hS : SoOK) (hW : WFA A) (hend : (sRd A).1 = pN A ∧ qEnd (sRd A).2 ∧ sRm (pE A) (sRd A).2 = true) {q : QQ} {p i : Nat} (hw : WFQ p q) (hr : RdX (pC A) q p p g) (hpp : p ≤ pN A) (hs : 7 ≤ qS q) (hn89 : qS q ≠ 8 ∧ qS q ≠ 9) (hi : i + 1 = qN q) (hiQ : i < qN (sRd A).2) (hf : Fs q (sRd A).2 i) (hR : RegX (setN (eAdd (pE A) (sRd A).2) (eN (pE A) + i)) g) (hN : NmX g) (hpg : g.1 1 1 = (pN A : Int)) (hcd : ∀ k, k < pN A → g.1 2 k = pC A k) (hP : ∀ g', RegX (setN (eAdd (pE A) (sRd A).2) (eN (pE A) + i + 1)) g' → AdK g g' → P g') : MXv mX8_add [vr 8, vr 1, vr 3, vr 5] g P := by
  have h60 := hW.1
  obtain ⟨g1, g7⟩ := eAdd_w hW.2.2.1 (sRd_w A) hend.2.1 hend.2.2
  obtain ⟨wn, wf, -⟩ := g1
  have wn : eN (pE A) + qN (sRd A).2 ≤ 18 := wn
  obtain ⟨b1, b2, b3, ⟨st, s1, s2, s3, s4⟩, -, -, b7, b8, b88, b9, -⟩ := hr.2.2.2.2 (by omega)
  have hcur : qN q - 1 = i := by omega
  rw [hcur] at b1 b2 b3 s2 s3 s4 b9
  obtain ⟨f1, f2, f3, f4, f5⟩ := hf
  have hge : ¬ (eN (pE A) + i < eN (pE A)) := by omega
  have eK' : eK (eAdd (pE A) (sRd A).2) (eN (pE A) + i) = qK q i := by
    show (if eN (pE A) + i < eN (pE A) then _ else qK (sRd A).2 (eN (pE A) + i - eN (pE A))) = _
    rw [if_neg hge, show eN (pE A) + i - eN (pE A) = i by omega, f1]
  have eY' : eY (eAdd (pE A) (sRd A).2) (eN (pE A) + i) = qY q i := by
    show (if eN (pE A) + i < eN (pE A) then _ else qY (sRd A).2 (eN (pE A) + i - eN (pE A))) = _
    rw [if_neg hge, show eN (pE A) + i - eN (pE A) = i by omega, f2]
  have eA' : eA (eAdd (pE A) (sRd A).2) (eN (pE A) + i) = qA q i := by
    show (if eN (pE A) + i < eN (pE A) then _ else qA (sRd A).2 (eN (pE A) + i - eN (pE A))) = _
    rw [if_neg hge, show eN (pE A) + i - eN (pE A) = i by omega, f3]
  have eL' : eL (eAdd (pE A) (sRd A).2) (eN (pE A) + i) = (qL q i : Int) := by
    show (if eN (pE A) + i < eN (pE A) then _ else (qL (sRd A).2 (eN (pE A) + i - eN (pE A)) : Int)) = _
    rw [if_neg hge, show eN (pE A) + i - eN (pE A) = i by omega, f4]
  have eW' : eW (eAdd (pE A) (sRd A).2) (eN (pE A) + i) = qW q i := by
    show (if eN (pE A) + i < eN (pE A) then _ else qW (sRd A).2 (eN (pE A) + i - eN (pE A))) = _
    rw [if_neg hge, show eN (pE A) + i - eN (pE A) = i by omega, f5]
  have r6 : g.1 3 6 = qA q i := by
    obtain ⟨-, -, -, -, -, w6⟩ := hw
    have w6 := w6 (by omega)
    by_cases z : qS q = 7
    · rw [(b7 z).2]
      have := w6.2.2.2.2.2.2.2.1 (by omega)
      rw [hcur] at this
      exact this.symm
    · exact b9 (by omega)
  refine X_add (G := eAdd (pE A) (sRd A).2) (st := st) hS (by omega) hR hN (fun j hj => ?_) ?_ (fun a b ha hb hab => ?_) (by rw [eK']; exact b1) s1 (by rw [eL']; exact b2) (by rw [eY']; exact b3) (by rw [eA']; exact r6) (by rw [eL', hpg]; omega) (by rw [hpg]; omega) (fun j hj => ?_) hP
  · obtain ⟨-, -, -, v4, v5⟩ := wf j (by show j < eN (pE A) + qN (sRd A).2; omega)
    exact ⟨v4, v5⟩
  · obtain ⟨v1, -⟩ := wf (eN (pE A) + i) (by show _ < eN (pE A) + qN (sRd A).2; omega)
    exact v1
  · show (decide (a < eN (pE A)) && decide (b < eN (pE A)) && eP (pE A) a b) = false
    rcases hab with h | h
    · rw [decide_eq_false (show ¬ a < eN (pE A) by omega), Bool.false_and, Bool.false_and]
    · rw [decide_eq_false (show ¬ b < eN (pE A) by omega), Bool.and_false, Bool.false_and]
  · rw [eL'] at hj
    rw [eW', hcd _ (by omega), s4 j (by omega)]
theorem X_ae9 {P : GS → Prop} (hS : SoOK) (hW : WFA A) (hend : (sRd A).1 = pN A ∧ qEnd (sRd A).2 ∧ sRm (pE A) (sRd A).2 = true) {g0 : GS} (h01 : g0.1 1 1 = (pN A : Int)) (h02 : ∀ k, k < pN A → g0.1 2 k = pC A k) (hP : ∀ g', (∀ a k, (a = 0 ∨ a = 1 ∨ a = 2 ∨ (a = 8 ∧ k = 3)) → g'.1 a k = g0.1 a k) → RegX (eAdd (pE A) (sRd A).2) g' → NmX g' → P g') : ∀ (t p : Nat) (q : QQ) (g : GS), p + t = pN A → rRun (pC A) t p q = sRd A → RdX (pC A) q p p g → WFQ p q → RegX (setN (eAdd (pE A) (sRd A).2) (eN (pE A) + dNn q)) g → NmX g → (∀ a k, (a = 0 ∨ a = 1 ∨ a = 2 ∨ (a = 8 ∧ k = 3)) → g.1 a k = g0.1 a k) → XXv mX9_addEntriesOfPage 9 [some (vr 0), some (vi (p : Int))] [] g P := by
  have h60 := hW.1
  have hqe := hend.2.1
  intro t
  induction t with
  | zero =>
    intro p q g hp hrun hr hw hR hN hk
    have hp : p = pN A := by omega
    subst hp
    have e : q = (sRd A).2 := by
      rw [rRun] at hrun
      exact congrArg (fun z => z.2) hrun
    have hqe2 : qEnd q := by rw [e]; exact hqe
    unfold qEnd at hqe2
    have hn1 := (hw.2.2.1 (by omega)).1
    refine uX9_addEntriesOfPage_9 g _ ?_
    rw [hk 1 1 (by omega), h01]
    refine ⟨⟨by omega, by omega⟩, ⟨by omega, by omega⟩, fun _ => ?_, fun z => by omega⟩
    have hd : dNn q = qN q - 1 := by unfold dNn; rw [if_neg (by omega)]
    rw [hd] at hR
    refine X_addQ hS hW hend hw hr (Nat.le_refl _) (by omega) (by omega) (i := qN q - 1) (by omega) (by rw [← e]; omega) (by rw [← e]; exact Fs.rf) hR hN (by rw [hk 1 1 (by omega)]; exact h01) (fun k hkl => by rw [hk 2 k (by omega)]; exact h02 k hkl) (fun g' hR' hA => ?_)
    refine hP g' (fun a k h => by rw [hA.1 a k (by omega)]; exact hk a k h) ?_ hA.2
    have hnn : eN (pE A) + (qN q - 1) + 1 = eN (pE A) + qN (sRd A).2 := by rw [← e]; omega
    rw [hnn] at hR'
    exact hR'
  | succ t ih =>
    intro p q g hp hrun hr hw hR hN hk
    obtain ⟨c1, c2⟩ := hW.2.1 p (by omega)
    have hfst : (rRun (pC A) (t + 1) p q).1 = pN A := by rw [hrun]; exact hend.1
    obtain ⟨q', e, hrun'⟩ : ∃ q', rT q (pC A p) = some q' ∧ rRun (pC A) t (p + 1) q' = sRd A := by
      rw [rRun] at hrun hfst
      cases hh : rT q (pC A p) with
      | none =>
        rw [hh] at hfst
        have hfst : p = pN A := hfst
        omega
      | some q' =>
        rw [hh] at hrun
        exact ⟨q', rfl, hrun⟩
    obtain ⟨t1, t2, t3⟩ := rT_step e
    have hdon : ∀ i, Don q' i → Fs q' (sRd A).2 i ∧ Don (sRd A).2 i := by
      intro i hi
      have := rRun_don (pC A) t (p + 1) q' (by rw [hrun', hend.1]; omega) i hi
      rw [hrun'] at this
      exact this
    have hv : g.1 2 p = pC A p := by rw [hk 2 p (by omega)]; exact h02 p (by omega)
    refine uX9_addEntriesOfPage_9 g _ ?_
    rw [hk 1 1 (by omega), h01]
    simp only [Int.toNat_natCast]
    rw [hv]
    refine ⟨⟨by omega, by omega⟩, ⟨by omega, by omega⟩, fun z => by omega, fun _ => ⟨by omega, by omega, ⟨by omega, by omega⟩, fun c59 => ?_, fun c59 => ?_⟩⟩
    · refine X_takes hr hw rfl ⟨by omega, by omega⟩ (fun q2 e2 g' hr' hk' => ?_) (fun e2 => by rw [e] at e2; cases e2)
      rw [e] at e2
      cases e2
      have hd : dNn q' = dNn q := by
        unfold dNn
        rcases t3 c59 with ⟨x1, x2, x3⟩ | ⟨x1, x2, x3⟩
        · rw [if_pos x1, if_neg (by omega), x3]; omega
        · rw [if_neg x1, if_neg x2, x3]
      have hR18 : eN (setN (eAdd (pE A) (sRd A).2) (eN (pE A) + dNn q)) ≤ 18 := by
        have wn : eN (pE A) + qN (sRd A).2 ≤ 18 := (eAdd_w hW.2.2.1 (sRd_w A) hend.2.1 hend.2.2).1.1
        show eN (pE A) + dNn q ≤ 18
        have : dNn q ≤ qN (sRd A).2 := by
          by_cases z : dNn q = 0
          · omega
          · have hq : Don q (dNn q - 1) := by
              unfold Don dNn at *
              by_cases y : qS q = 0
              · rw [if_pos y] at z ⊢; exact Or.inr ⟨y, by omega⟩
              · rw [if_neg y] at z ⊢; exact Or.inl (by omega)
            have := (hdon _ (t1 _ hq).2).2
            unfold Don at this
            omega
        omega
      refine ih (p + 1) q' g' (by omega) hrun' hr' (WFQ_S hw e) ?_ ?_ (fun a k h => by rw [hk'.1 a k (by unfold SR; omega)]; exact hk a k h)
      · rw [hd]
        exact hR.kx hR18 hk' (fun a k c z => by unfold coreX at c; unfold SR at z; omega)
      · unfold NmX; rw [hk'.2]; exact hN
    · obtain ⟨x1, x2, x3⟩ := t2 c59
      have hn1 := (hw.2.2.1 x1).1
      have hd : dNn q = qN q - 1 := by unfold dNn; rw [if_neg x1]
      have hi' : Don q' (qN q - 1) := by rw [x2]; exact Or.inr ⟨rfl, by show qN q - 1 < qN q; omega⟩
      obtain ⟨hf, hq⟩ := hdon _ hi'
      have hf : Fs q (sRd A).2 (qN q - 1) := by rw [x2] at hf; exact hf
      have h89 : qS q ≠ 8 ∧ qS q ≠ 9 := by
        rw [c59] at e
        refine ⟨fun z => ?_, fun z => ?_⟩
        · unfold rT at e
          rw [if_neg (by omega), if_neg (by omega), if_neg (by omega), if_neg (by omega), if_neg (by omega), if_neg (by omega), if_pos z] at e
          split at e
          · rw [if_neg (by decide)] at e; cases e
          · rw [if_neg (by decide)] at e; cases e
        · unfold rT at e
          rw [if_neg (by omega), if_neg (by omega), if_neg (by omega), if_neg (by omega), if_neg (by omega), if_neg (by omega), if_neg (by omega), if_pos z, if_neg (fun y => absurd y.1.2 (by decide))] at e
          cases e
      rw [hd] at hR
      refine X_addQ hS hW hend hw hr (by omega) x3 h89 (i := qN q - 1) (by omega) (by unfold Don at hq; omega) hf hR hN (by rw [hk 1 1 (by omega)]; exact h01) (fun k hkl => by rw [hk 2 k (by omega)]; exact h02 k hkl) (fun g1 hR1 hA => ?_)
      have hv1 : g1.1 2 p = pC A p := by rw [hA.1 2 p (by omega)]; exact hv
      have hr1 : RdX (pC A) q p p g1 := by
        have vj : ∀ a j, (a = 3 ∨ a = 4) → g1.1 a j = g.1 a j := fun a j h => hA.1 a j (by omega)
        unfold RdX at hr ⊢
        rw [vj 3 1 (by omega), vj 3 8 (by omega), vj 4 0 (by omega), vj 4 1 (by omega), vj 4 2 (by omega), vj 3 2 (by omega), vj 3 3 (by omega), vj 3 4 (by omega), vj 3 5 (by omega), vj 3 6 (by omega), vj 3 7 (by omega), vj 3 9 (by omega)]
        exact hr
      rw [hv1]
      refine X_takes hr1 hw rfl ⟨by omega, by omega⟩ (fun q2 e2 g' hr' hk' => ?_) (fun e2 => by rw [e] at e2; cases e2)
      rw [e] at e2
      cases e2
      have hd' : dNn q' = qN q - 1 + 1 := by rw [x2]; show (if (0 : Nat) = 0 then qN q else _) = _; rw [if_pos rfl]; omega
      have wn : eN (pE A) + qN (sRd A).2 ≤ 18 := (eAdd_w hW.2.2.1 (sRd_w A) hend.2.1 hend.2.2).1.1
      have hR18 : eN (setN (eAdd (pE A) (sRd A).2) (eN (pE A) + (qN q - 1) + 1)) ≤ 18 := by
        show eN (pE A) + (qN q - 1) + 1 ≤ 18
        unfold Don at hq
        omega
      refine ih (p + 1) q' g' (by omega) hrun' hr' (WFQ_S hw e) ?_ ?_ (fun a k h => by rw [hk'.1 a k (by unfold SR; omega), hA.1 a k (by omega)]; exact hk a k h)
      · rw [hd', ← Nat.add_assoc]
        exact hR1.kx hR18 hk' (fun a k c z => by unfold coreX at c; unfold SR at z; omega)
      · unfold NmX; rw [hk'.2]; exact hA.2
theorem X_addAll {P : GS → Prop} {g : GS} (hS : SoOK) (hW : WFA A) (hR : RepX A g) (hend : (sRd A).1 = pN A ∧ qEnd (sRd A).2 ∧ sRm (pE A) (sRd A).2 = true) (hP : ∀ g', (∀ a k, (a = 0 ∨ a = 1 ∨ a = 2 ∨ (a = 8 ∧ k = 3)) → g'.1 a k = g.1 a k) → RegX (eAdd (pE A) (sRd A).2) g' → NmX g' → P g') : MXv mX9_addEntriesOfPage [vr 0] g P := by
  refine uX9_addEntriesOfPage g (X_start (C := pC A) (fun g1 k1 h1 => ?_))
  have hX := (hR.kR hW k1).1
  refine X_ae9 hS hW hend (g0 := g) hR.1.1 hR.1.2.1 hP (pN A) 0 q0 g1 (by omega) rfl h1 WFQ_0 ?_ hX.2.2.2.2.2.2 (fun a k h => k1.1 a k (by unfold SR; omega))
  refine RegX_cg (E := pE A) rfl hW.2.2.1.1 (fun i hi => ?_) (fun i j hi hj => ?_) hX.2.2.1
  · refine ⟨?_, ?_, ?_, ?_, ?_⟩
    · exact if_pos hi
    · exact if_pos hi
    · exact if_pos hi
    · exact if_pos hi
    · exact if_pos hi
  · show (decide (i < eN (pE A)) && decide (j < eN (pE A)) && eP (pE A) i j) = _
    rw [decide_eq_true hi, decide_eq_true hj]; rfl
theorem K_enter {P : Int → GS → Prop} {g : GS} (hS : SoOK) (hR : RepX A g) (hW : WFA A) (hP : ∀ g', RepX (nEnt A) g' → P (sEn A) g') : MXi mX9_enter [vr 0] g P := by
  have h60 := hW.1
  have hb := sRd_b A
  have hw := sRd_w A
  have no : sEn A < 0 → ∀ g', RepX A g' → P (sEn A) g' := fun h g' hr => by
    unfold nEnt at hP
    rw [if_neg (by omega)] at hP
    exact hP g' hr
  refine uX9_enter g ?_
  refine X_fault hR hW (fun g1 k1 h1 => ?_)
  have hR1 := hR.kR hW k1
  rw [hR1.1.1]
  refine ⟨⟨by omega, by omega⟩, ⟨by omega, by omega⟩, fun c => ?_, fun c => ?_⟩
  · have e : sEn A = -103 := by unfold sEn; rw [if_neg (fun z => by have := z.1; omega)]
    rw [← e]
    exact no (by omega) g1 hR1
  · have hp : (sRd A).1 = pN A := by omega
    have hr := h1 hp
    rw [hp] at hw
    refine X_isWhole hr hw (fun hq => ⟨⟨by decide, by decide⟩, fun _ => ?_, fun z => absurd z (by decide)⟩) (fun hq => ⟨rng_0, fun z => absurd rfl z, fun _ => ?_⟩)
    · have hqn : qN (sRd A).2 ≤ 18 := by
        have := hw.2.2.1 (by unfold qEnd at hq; omega)
        omega
      refine X_room hR1.1.2.2.1 hW.2.2.1 hqn hr.1 hr.2.2.1 (fun hm => ⟨⟨by decide, by decide⟩, fun _ => ?_, fun z => absurd z (by decide)⟩) (fun hm => ⟨rng_0, fun z => absurd rfl z, fun _ => ?_⟩)
      · have e : sEn A = (qN (sRd A).2 : Int) := by unfold sEn; rw [if_pos ⟨hp, hq⟩, if_pos hm]
        rw [hr.1, ← e]
        unfold nEnt at hP
        rw [if_pos (by omega)] at hP
        refine X_addAll hS hW hR1 ⟨hp, hq, hm⟩ (fun g2 hk2 hE2 hN2 g3 e3 g4 e4 g5 e5 => hP g5 ?_)
        obtain ⟨r1, r2, r3, ⟨r4, r5, r6⟩, r7, r8, r9⟩ := hR1.1
        have kk : ∀ a k, ¬ (a = 1 ∧ k = 1) → ¬ (a = 0 ∧ (k = 10 ∨ k = 11)) → g5.1 a k = g2.1 a k := fun a k n1 n2 => by rw [e5, gI_ne (by omega), e4, gI_ne (by omega), e3, gI_ne (by omega)]
        have k2 : Kx (fun a k => (a = 1 ∧ k = 1) ∨ (a = 0 ∧ (k = 10 ∨ k = 11))) g2 g5 := ⟨fun a k h => kk a k (fun z => h (Or.inl z)) (fun z => h (Or.inr z)), by rw [e5, e4, e3]; rfl⟩
        have wn : eN (pE A) + qN (sRd A).2 ≤ 18 := (eAdd_w hW.2.2.1 (sRd_w A) hq hm).1.1
        refine ⟨⟨?_, fun k hk => absurd hk (Nat.not_lt_zero _), hE2.kx wn k2 (fun a k c z => by unfold coreX at c; omega), ⟨?_, ?_, ?_⟩, ?_, ?_, ?_⟩, Or.inl ?_⟩
        · rw [e5, gI_ne (by omega), e4, gI_ne (by omega), e3, gI_eq]; rfl
        · rw [kk _ _ (by omega) (by omega), hk2 _ _ (by omega)]; exact r4
        · rw [kk _ _ (by omega) (by omega), hk2 _ _ (by omega)]; exact r5
        · rw [kk _ _ (by omega) (by omega), hk2 _ _ (by omega)]; exact r6
        · rw [e5, gI_ne (by omega), e4, gI_eq, e3, gI_ne (by omega), hk2 _ _ (by omega), r7]; rfl
        · rw [kk _ _ (by omega) (by omega), hk2 _ _ (by omega)]; exact r8
        · unfold NmX; rw [k2.2]; exact hN2
        · rw [e5, gI_eq]
      · have e : sEn A = -104 := by unfold sEn; rw [if_pos ⟨hp, hq⟩, if_neg (by rw [hm]; decide)]
        rw [← e]
        exact no (by omega) g1 hR1
    · have e : sEn A = -103 := by unfold sEn; rw [if_neg (fun z => hq z.2)]
      rw [← e]
      exact no (by omega) g1 hR1
end XAD

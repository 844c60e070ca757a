/-! the class: enter -/
def Fs (q q' : QQ) (i : Nat) : Prop := qK q' i = qK q i ∧ qY q' i = qY q i ∧ qA q' i = qA q i ∧ qL q' i = qL q i ∧ qW q' i = qW q i
def Don (q : QQ) (i : Nat) : Prop := i + 1 < qN q ∨ (qS q = 0 ∧ i < qN q)
theorem Fs.tr {q q1 q2 : QQ} {i : Nat} (h1 : Fs q q1 i) (h2 : Fs q1 q2 i) : Fs q q2 i := ⟨h2.1.trans h1.1, h2.2.1.trans h1.2.1, h2.2.2.1.trans h1.2.2.1, h2.2.2.2.1.trans h1.2.2.2.1, h2.2.2.2.2.trans h1.2.2.2.2⟩
theorem Fs.rf {q : QQ} {i : Nat} : Fs q q i := ⟨rfl, rfl, rfl, rfl, rfl⟩
/-- a step: what became of the entries that are done; whether it ended one -/
theorem rT_step {q q' : QQ} {c : Int} (h : rT q c = some q') : (∀ i, Don q i → Fs q q' i ∧ Don q' i) ∧ (c = 59 → qS q ≠ 0 ∧ q' = qTo q 0 ∧ (7 ≤ qS q)) ∧ (c ≠ 59 → (qS q = 0 ∧ qS q' = 1 ∧ qN q' = qN q + 1) ∨ (qS q ≠ 0 ∧ qS q' ≠ 0 ∧ qN q' = qN q)) := by
  unfold rT at h
  by_cases s0 : qS q = 0
  · rw [if_pos s0] at h
    have key : ∀ k : Int, c ≠ 59 → q' = qBeg q k → (∀ i, Don q i → Fs q q' i ∧ Don q' i) ∧ (c = 59 → qS q ≠ 0 ∧ q' = qTo q 0 ∧ (7 ≤ qS q)) ∧ (c ≠ 59 → (qS q = 0 ∧ qS q' = 1 ∧ qN q' = qN q + 1) ∨ (qS q ≠ 0 ∧ qS q' ≠ 0 ∧ qN q' = qN q)) := by
      intro k hc e
      subst e
      refine ⟨fun i hi => ?_, fun z => absurd z hc, fun _ => Or.inl ⟨s0, rfl, rfl⟩⟩
      have hi2 : i < qN q := by unfold Don at hi; omega
      refine ⟨⟨fU_ne (by omega), fU_ne (by omega), fU_ne (by omega), fU_ne (by omega), rfl⟩, Or.inl ?_⟩
      show i + 1 < qN q + 1
      omega
    split at h
    · cases h; exact key 0 (by omega) rfl
    · split at h
      · cases h; exact key 1 (by omega) rfl
      · split at h
        · cases h; exact key 2 (by omega) rfl
        · cases h
  · rw [if_neg s0] at h
    have hd : ∀ i, Don q i → i + 1 < qN q := fun i hi => by unfold Don at hi; omega
    have toK : ∀ s : Nat, s ≠ 0 → c ≠ 59 → q' = qTo q s → (∀ i, Don q i → Fs q q' i ∧ Don q' i) ∧ (c = 59 → qS q ≠ 0 ∧ q' = qTo q 0 ∧ (7 ≤ qS q)) ∧ (c ≠ 59 → (qS q = 0 ∧ qS q' = 1 ∧ qN q' = qN q + 1) ∨ (qS q ≠ 0 ∧ qS q' ≠ 0 ∧ qN q' = qN q)) := by
      intro s hs hc e
      subst e
      exact ⟨fun i hi => ⟨⟨rfl, rfl, rfl, rfl, rfl⟩, Or.inl (hd i hi)⟩, fun z => absurd z hc, fun _ => Or.inr ⟨s0, hs, rfl⟩⟩
    have to0 : 7 ≤ qS q → c = 59 → q' = qTo q 0 → (∀ i, Don q i → Fs q q' i ∧ Don q' i) ∧ (c = 59 → qS q ≠ 0 ∧ q' = qTo q 0 ∧ (7 ≤ qS q)) ∧ (c ≠ 59 → (qS q = 0 ∧ qS q' = 1 ∧ qN q' = qN q + 1) ∨ (qS q ≠ 0 ∧ qS q' ≠ 0 ∧ qN q' = qN q)) := by
      intro h7 hc e
      subst e
      exact ⟨fun i hi => ⟨⟨rfl, rfl, rfl, rfl, rfl⟩, Or.inl (hd i hi)⟩, fun _ => ⟨s0, rfl, h7⟩, fun z => absurd hc z⟩
    have oth : c ≠ 59 → (q' = qLet q c ∨ q' = qYr q c ∨ ∃ s a, s ≠ 0 ∧ q' = qAg q s a) → (∀ i, Don q i → Fs q q' i ∧ Don q' i) ∧ (c = 59 → qS q ≠ 0 ∧ q' = qTo q 0 ∧ (7 ≤ qS q)) ∧ (c ≠ 59 → (qS q = 0 ∧ qS q' = 1 ∧ qN q' = qN q + 1) ∨ (qS q ≠ 0 ∧ qS q' ≠ 0 ∧ qN q' = qN q)) := by
      intro hc e
      rcases e with e | e | ⟨s, a, hs, e⟩
      · subst e
        refine ⟨fun i hi => ?_, fun z => absurd z hc, fun _ => Or.inr ⟨s0, by show 2 ≠ 0; decide, rfl⟩⟩
        have := hd i hi
        exact ⟨⟨rfl, rfl, rfl, fU_ne (by omega), fU_ne (by omega)⟩, Or.inl this⟩
      · subst e
        refine ⟨fun i hi => ?_, fun z => absurd z hc, fun _ => Or.inr ⟨s0, Nat.succ_ne_zero _, rfl⟩⟩
        have := hd i hi
        exact ⟨⟨rfl, fU_ne (by omega), rfl, rfl, rfl⟩, Or.inl this⟩
      · subst e
        refine ⟨fun i hi => ?_, fun z => absurd z hc, fun _ => Or.inr ⟨s0, hs, rfl⟩⟩
        have := hd i hi
        exact ⟨⟨rfl, rfl, fU_ne (by omega), rfl, rfl⟩, Or.inl this⟩
    by_cases s2 : qS q ≤ 2
    · rw [if_pos s2] at h
      split at h
      next c1 => cases h; exact toK 3 (by decide) (by omega) rfl
      · split at h
        next c1 => cases h; exact oth (by omega) (Or.inl rfl)
        · cases h
    · rw [if_neg s2] at h
      by_cases s3 : qS q = 3
      · rw [if_pos s3] at h
        split at h
        next c1 => cases h; exact oth (by omega) (Or.inr (Or.inl rfl))
        · cases h
      · rw [if_neg s3] at h
        by_cases s4 : qS q = 4
        · rw [if_pos s4] at h
          split at h
          next c1 => cases h; exact oth (by omega) (Or.inr (Or.inl rfl))
          · cases h
        · rw [if_neg s4] at h
          by_cases s6 : qS q ≤ 6
          · rw [if_pos s6] at h
            split at h
            next c1 => cases h; exact oth (by omega) (Or.inr (Or.inl rfl))
            · cases h
          · rw [if_neg s6] at h
            by_cases s7 : qS q = 7
            · rw [if_pos s7] at h
              split at h
              next c1 => cases h; exact to0 (by omega) c1 rfl
              · split at h
                next c1 => cases h; exact toK 8 (by decide) (by omega) rfl
                · cases h
            · rw [if_neg s7] at h
              by_cases s8 : qS q = 8
              · rw [if_pos s8] at h
                split at h
                · split at h
                  next c1 => cases h; exact oth (by omega) (Or.inr (Or.inr ⟨_, _, by decide, rfl⟩))
                  · cases h
                · split at h
                  next c1 => cases h; exact oth (by omega) (Or.inr (Or.inr ⟨_, _, by split <;> decide, rfl⟩))
                  · cases h
              · rw [if_neg s8] at h
                by_cases s9 : qS q = 9
                · rw [if_pos s9] at h
                  split at h
                  next c1 => cases h; exact oth (by omega) (Or.inr (Or.inr ⟨_, _, by decide, rfl⟩))
                  · cases h
                · rw [if_neg s9] at h
                  split at h
                  next c1 => cases h; exact to0 (by omega) c1 rfl
                  · split at h
                    · split at h
                      next c1 => cases h; exact oth (by omega) (Or.inr (Or.inr ⟨_, _, by decide, rfl⟩))
                      · cases h
                    · cases h
theorem rRun_don (C : Nat → Int) : ∀ (t p : Nat) (q : QQ), (rRun C t p q).1 = p + t → ∀ i, Don q i → Fs q (rRun C t p q).2 i ∧ Don (rRun C t p q).2 i := by
  intro t
  induction t with
  | zero => intro p q _ i hi; exact ⟨Fs.rf, hi⟩
  | succ t ih =>
    intro p q h i hi
    rw [rRun] at h ⊢
    split at h
    · exfalso
      have h : p = p + (t + 1) := h
      omega
    next q' e =>
      obtain ⟨f1, d1⟩ := (rT_step e).1 i hi
      obtain ⟨f2, d2⟩ := ih (p + 1) q' (by rw [h]; omega) i d1
      exact ⟨f1.tr f2, d2⟩
theorem RegX_cg {E F : EE} {g : GS} (hn : eN F = eN E) (h18 : eN E ≤ 18) (hk : ∀ i, i < eN E → eK F i = eK E i ∧ eY F i = eY E i ∧ eA F i = eA E i ∧ eL F i = eL E i ∧ eW F i = eW E i) (hp : ∀ i j, i < eN E → j < eN E → eP F i j = eP E i j) (hR : RegX E g) : RegX F g := by
  obtain ⟨h1, h2, h3, h4, h5, h6, h7, h8, h9⟩ := hR
  have ck : ∀ k : Int, ∀ n, n ≤ eN E → cK F k n = cK E k n := by
    intro k n
    induction n with
    | zero => intro _; rfl
    | succ n ih => intro hn; rw [cK, cK, ih (by omega), (hk n (by omega)).1]
  unfold RegX
  rw [hn]
  refine ⟨h1, h2, h3, h4, fun i hi => ?_, fun i j hi hj hij => ?_, by rw [ck 0 _ (Nat.le_refl _)]; exact h7, by rw [ck 1 _ (Nat.le_refl _)]; exact h8, by rw [ck 2 _ (Nat.le_refl _)]; exact h9⟩
  · obtain ⟨a1, a2, a3, a4, a5, b, b1, b2, b3⟩ := h5 i hi
    obtain ⟨k1, k2, k3, k4, k5⟩ := hk i hi
    unfold RowX
    rw [k1, k2, k3, k4, k5, hn]
    refine ⟨a1, a2, a3, a4, a5, b, b1, b2, fun j hj => ?_⟩
    rw [b3 j hj]
    by_cases c : j < eN E
    · rw [hp i j hi c]
    · rw [decide_eq_false c, Bool.false_and, Bool.false_and]
  · obtain ⟨-, -, -, k4, k5⟩ := hk i hi
    obtain ⟨-, -, -, l4, l5⟩ := hk j hj
    unfold sDi
    rw [k4, k5, l4, l5]
    exact h6 i j hi hj hij
section XAC
variable {A : AA}
theorem X_room {P : Int → GS → Prop} {g : GS} {E : EE} {q : QQ} (hR : RegX E g) (hW : WF E) (hq18 : qN q ≤ 18) (h1 : g.1 3 1 = (qN q : Int)) (h4 : g.1 4 0 = (cQ q 0 (qN q) : Int) ∧ g.1 4 1 = (cQ q 1 (qN q) : Int) ∧ g.1 4 2 = (cQ q 2 (qN q) : Int)) (hT : sRm E q = true → P 1 g) (hF : sRm E q = false → P 0 g) : MXi mX8_hasRoomFor [vr 8, vr 3] g P := by
  have h18 := hW.1
  have c0 := cK_le E 0 (eN E)
  have c1 := cK_le E 1 (eN E)
  have c2 := cK_le E 2 (eN E)
  have d0 := cQ_le q 0 (qN q)
  have d1 := cQ_le q 1 (qN q)
  have d2 := cQ_le q 2 (qN q)
  obtain ⟨r1, -, -, -, -, -, r7, r8, r9⟩ := hR
  have loop : ∀ (t k : Nat) (b : Bool), k + t = 3 → (b = (decide (eN E + qN q ≤ 18) && (decide (k ≤ 0) || decide (cK E 0 (eN E) + cQ q 0 (qN q) ≤ 7)) && (decide (k ≤ 1) || decide (cK E 1 (eN E) + cQ q 1 (qN q) ≤ 7)) && (decide (k ≤ 2) || decide (cK E 2 (eN E) + cQ q 2 (qN q) ≤ 7)))) → XXi mX8_hasRoomFor 22 [some (vr 8), some (vr 3), some (vi (bi b)), some (vi (k : Int))] [] g P := by
    intro t
    induction t with
    | zero =>
      intro k b hk hb
      have hk : k = 3 := by omega
      subst hk
      have hb2 : b = sRm E q := by rw [hb]; unfold sRm; simp
      refine uX8_hasRoomFor_22 g _ _ ⟨⟨by omega, by omega⟩, fun _ => ⟨bi_01 b, ?_⟩, fun z => by omega⟩
      cases hs : sRm E q
      · rw [hb2, hs]; exact hF hs
      · rw [hb2, hs]; exact hT hs
    | succ t ih =>
      intro k b hk hb
      have hv : g.1 10 k + g.1 4 k = ((cK E (k : Int) (eN E) + cQ q (k : Int) (qN q) : Nat) : Int) ∧ cK E (k : Int) (eN E) + cQ q (k : Int) (qN q) ≤ 36 := by
        have hk : k = 0 ∨ k = 1 ∨ k = 2 := by omega
        rcases hk with rfl | rfl | rfl
        · rw [r7, h4.1]; exact ⟨rfl, by show cK E 0 _ + cQ q 0 _ ≤ 36; omega⟩
        · rw [r8, h4.2.1]; exact ⟨rfl, by show cK E 1 _ + cQ q 1 _ ≤ 36; omega⟩
        · rw [r9, h4.2.2]; exact ⟨rfl, by show cK E 2 _ + cQ q 2 _ ≤ 36; omega⟩
      have hnext : ∀ b', b' = (b && decide (cK E (k : Int) (eN E) + cQ q (k : Int) (qN q) ≤ 7)) → XXi mX8_hasRoomFor 22 [some (vr 8), some (vr 3), some (vi (bi b')), some (vi ((k : Int) + 1))] [] g P := by
        intro b' hb'
        refine ih (k + 1) b' (by omega) ?_
        rw [hb', hb]
        have hk : k = 0 ∨ k = 1 ∨ k = 2 := by omega
        rcases hk with rfl | rfl | rfl
        · simp
        · simp [Bool.and_assoc]
        · simp [Bool.and_assoc]
      refine uX8_hasRoomFor_22 g _ _ ?_
      simp only [Int.toNat_natCast]
      rw [hv.1]
      refine ⟨⟨by omega, by omega⟩, fun z => by omega, fun _ => ⟨rng_bi b, fun c => ?_, fun c => ⟨by omega, by omega, ⟨by omega, by omega⟩, fun d => ?_, fun d => ?_⟩⟩⟩
      · have : b = false := by
          cases b
          · rfl
          · exact absurd c (by decide)
        exact hnext false (by rw [this]; rfl)
      · exact hnext false (by rw [decide_eq_false (by omega), Bool.and_false])
      · have : b = true := by
          cases b
          · exact absurd rfl c
          · rfl
        exact hnext true (by rw [this, decide_eq_true (by omega)]; rfl)
  refine uX8_hasRoomFor g ?_
  rw [r1, h1]
  refine ⟨⟨by omega, by omega⟩, fun c => ?_, fun c => ?_⟩
  · exact loop 3 0 false (by omega) (by rw [decide_eq_false (by omega)]; simp)
  · exact loop 3 0 true (by omega) (by rw [decide_eq_true (by omega)]; simp)
end XAC

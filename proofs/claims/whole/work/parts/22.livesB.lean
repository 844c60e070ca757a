/-! what holds of the lives, laid step by step -/
theorem V1_ok {E : EE} (hW : WF E) : ∀ i, i ≤ nB E → VI E (sV1 E i) ∧ vN (sV1 E i) = i ∧ (∀ l, vW (sV1 E i) l = 0) ∧ (∀ e, vO (sV1 E i) e ≠ -1 ↔ ∃ j, j < i ∧ (e = aB E j ∨ sMt E (aB E j) = (e : Int))) := by
  intro i
  induction i with
  | zero =>
    intro _
    refine ⟨⟨fun e => Or.inl rfl, fun l hl => absurd hl (Nat.not_lt_zero _), fun e l hl => absurd hl (Nat.not_lt_zero _)⟩, rfl, fun _ => rfl, fun e => ⟨fun z => absurd rfl z, fun ⟨j, hj, _⟩ => absurd hj (Nat.not_lt_zero _)⟩⟩
  | succ i ih =>
    intro hi
    obtain ⟨g1, g2, g3, g4⟩ := ih (by omega)
    obtain ⟨a1, a2⟩ := aB_ok (show i < nB E by omega)
    have fr : ∀ e, (∀ j, j < i → e ≠ aB E j ∧ sMt E (aB E j) ≠ (e : Int)) → vO (sV1 E i) e = -1 := by
      intro e he
      by_cases c : vO (sV1 E i) e = -1
      · exact c
      · obtain ⟨j, hj, c⟩ := (g4 e).mp c
        obtain ⟨n1, n2⟩ := he j hj
        rcases c with c | c
        · exact absurd c n1
        · exact absurd c n2
    have f1 : vO (sV1 E i) (aB E i) = -1 := by
      apply fr
      intro j hj
      refine ⟨fun z => by have := aB_inj (by omega) (by omega) z; omega, fun z => ?_⟩
      rcases sMt_B hW (show j < nB E by omega) with c | ⟨k, hk, c, -⟩
      · omega
      · exact bd_ne (show i < nB E by omega) hk (by omega)
    have hb : (aB E i : Int) ≠ -1 := by omega
    refine ⟨?_, ?_, fun l => ?_, fun e => ?_⟩
    · rw [sV1]
      refine VI_open g1 (Or.inr ⟨_, a1, rfl, a2, f1⟩) ?_ (Or.inl hb)
      rcases sMt_B hW (show i < nB E by omega) with c | ⟨k, hk, c, d, -⟩
      · exact Or.inl c
      · obtain ⟨d1, d2⟩ := aD_ok hk
        refine Or.inr ⟨aD E k, d1, c, d2, fr _ (fun j hj => ⟨fun z => bd_ne (show j < nB E by omega) hk z.symm, fun z => ?_⟩)⟩
        rcases sMt_B hW (show j < nB E by omega) with c' | ⟨k', hk', c', d', -⟩
        · omega
        · have : k' = k := aD_inj hk' hk (by omega)
          subst this
          have := aB_inj (show i < nB E by omega) (show j < nB E by omega) (by omega)
          omega
    · rw [sV1]
      show vN (sV1 E i) + 1 = i + 1
      omega
    · rw [sV1]
      show fU (vW (sV1 E i)) (vN (sV1 E i)) 0 l = 0
      unfold fU
      split
      · rfl
      · exact g3 l
    · rw [sV1]
      show (if (e : Int) = sMt E (aB E i) then (vN (sV1 E i) : Int) else if (e : Int) = (aB E i : Int) then (vN (sV1 E i) : Int) else vO (sV1 E i) e) ≠ -1 ↔ _
      constructor
      · intro h
        by_cases c1 : (e : Int) = sMt E (aB E i)
        · exact ⟨i, by omega, Or.inr c1.symm⟩
        · rw [if_neg c1] at h
          by_cases c2 : (e : Int) = (aB E i : Int)
          · exact ⟨i, by omega, Or.inl (by omega)⟩
          · rw [if_neg c2] at h
            obtain ⟨j, hj, c⟩ := (g4 e).mp h
            exact ⟨j, by omega, c⟩
      · rintro ⟨j, hj, c⟩
        by_cases c1 : (e : Int) = sMt E (aB E i)
        · rw [if_pos c1]; omega
        · rw [if_neg c1]
          by_cases c2 : (e : Int) = (aB E i : Int)
          · rw [if_pos c2]; omega
          · rw [if_neg c2]
            refine (g4 e).mpr ⟨j, ?_, c⟩
            by_cases q : j = i
            · subst q
              rcases c with c | c <;> omega
            · omega
theorem V2_ok {E : EE} (hW : WF E) : ∀ k, k ≤ nD E → VI E (sV2 E k) ∧ nB E ≤ vN (sV2 E k) ∧ vN (sV2 E k) ≤ nB E + k ∧ (∀ l, vW (sV2 E k) l = 0) ∧ (∀ e, vO (sV2 E k) e ≠ -1 ↔ (∃ j, j < nB E ∧ (e = aB E j ∨ sMt E (aB E j) = (e : Int))) ∨ (∃ q, q < k ∧ e = aD E q ∧ sMt E (aD E q) = -1)) := by
  intro k
  induction k with
  | zero =>
    intro _
    obtain ⟨g1, g2, g3, g4⟩ := V1_ok hW (nB E) (Nat.le_refl _)
    refine ⟨g1, by rw [show sV2 E 0 = sV1 E (nB E) from rfl]; omega, by rw [show sV2 E 0 = sV1 E (nB E) from rfl]; omega, g3, fun e => ⟨fun h => Or.inl ((g4 e).mp h), fun h => (g4 e).mpr ?_⟩⟩
    rcases h with h | ⟨q, hq, -⟩
    · exact h
    · exact absurd hq (Nat.not_lt_zero _)
  | succ k ih =>
    intro hk
    obtain ⟨g1, g2, g3, g4, g5⟩ := ih (by omega)
    obtain ⟨d1, d2⟩ := aD_ok (show k < nD E by omega)
    rw [sV2]
    by_cases c : sMt E (aD E k) = -1
    · rw [if_pos c]
      have f1 : vO (sV2 E k) (aD E k) = -1 := by
        by_cases z : vO (sV2 E k) (aD E k) = -1
        · exact z
        · exfalso
          rcases (g5 _).mp z with ⟨j, hj, q | q⟩ | ⟨q, hq, w, -⟩
          · exact bd_ne hj (show k < nD E by omega) q.symm
          · rcases sMt_B hW hj with y | ⟨k', hk', y, x, -⟩
            · omega
            · have : k' = k := aD_inj hk' (by omega) (by omega)
              subst this
              omega
          · have := aD_inj (show k < nD E by omega) (show q < nD E by omega) w
            omega
      refine ⟨VI_open g1 (Or.inl rfl) (Or.inr ⟨_, d1, rfl, d2, f1⟩) (Or.inr (by omega)), ?_, ?_, fun l => ?_, fun e => ?_⟩
      · show nB E ≤ vN (sV2 E k) + 1
        omega
      · show vN (sV2 E k) + 1 ≤ nB E + (k + 1)
        omega
      · show fU (vW (sV2 E k)) (vN (sV2 E k)) 0 l = 0
        unfold fU
        split
        · rfl
        · exact g4 l
      · show (if (e : Int) = (aD E k : Int) then (vN (sV2 E k) : Int) else if (e : Int) = -1 then (vN (sV2 E k) : Int) else vO (sV2 E k) e) ≠ -1 ↔ _
        rw [if_neg (show ¬ (e : Int) = -1 by omega)]
        constructor
        · intro h
          by_cases c1 : (e : Int) = (aD E k : Int)
          · exact Or.inr ⟨k, by omega, by omega, c⟩
          · rw [if_neg c1] at h
            rcases (g5 e).mp h with q | ⟨q, hq, w⟩
            · exact Or.inl q
            · exact Or.inr ⟨q, by omega, w⟩
        · intro h
          by_cases c1 : (e : Int) = (aD E k : Int)
          · rw [if_pos c1]; omega
          · rw [if_neg c1]
            refine (g5 e).mpr ?_
            rcases h with q | ⟨q, hq, w1, w2⟩
            · exact Or.inl q
            · refine Or.inr ⟨q, ?_, w1, w2⟩
              by_cases y : q = k
              · subst y; omega
              · omega
    · rw [if_neg c]
      refine ⟨g1, g2, by omega, g4, fun e => (g5 e).trans ⟨fun h => ?_, fun h => ?_⟩⟩
      · rcases h with q | ⟨q, hq, w⟩
        · exact Or.inl q
        · exact Or.inr ⟨q, by omega, w⟩
      · rcases h with q | ⟨q, hq, w1, w2⟩
        · exact Or.inl q
        · refine Or.inr ⟨q, ?_, w1, w2⟩
          by_cases y : q = k
          · subst y; exact absurd w2 c
          · omega
/-- births and burials are laid, weddings are not -/
theorem Vf_ok {E : EE} (hW : WF E) : VI E (sVf E) ∧ nB E ≤ vN (sVf E) ∧ vN (sVf E) ≤ nB E + nD E ∧ (∀ l, vW (sVf E) l = 0) ∧ (∀ e, e < eN E → (vO (sVf E) e ≠ -1 ↔ eK E e ≠ 1)) := by
  obtain ⟨g1, g2, g3, g4, g5⟩ := V2_ok hW (nD E) (Nat.le_refl _)
  refine ⟨g1, g2, g3, g4, fun e he => ⟨fun h => ?_, fun h => ?_⟩⟩
  · rcases (g5 e).mp h with ⟨j, hj, q | q⟩ | ⟨q, hq, w, -⟩
    · have := (aB_ok hj).2
      rw [← q] at this
      omega
    · rcases sMt_B hW hj with y | ⟨k', hk', y, -⟩
      · omega
      · have := (aD_ok hk').2
        rw [show aD E k' = e by omega] at this
        omega
    · have := (aD_ok hq).2
      rw [← w] at this
      omega
  · refine (g5 e).mpr ?_
    obtain ⟨w1, -⟩ := hW.2.1 e he
    rcases w1 with c | c | c
    · obtain ⟨x1, x2⟩ := aK_of E 0 (eN E) e he c
      exact Or.inl ⟨_, x1, Or.inl x2.symm⟩
    · exact absurd c h
    · obtain ⟨x1, x2⟩ := aK_of E 2 (eN E) e he c
      have x2 : aD E (cK E 2 e) = e := x2
      rcases sMt_D hW x1 with y | ⟨i, hi, y, z⟩
      · exact Or.inr ⟨_, x1, x2.symm, y⟩
      · exact Or.inl ⟨i, hi, Or.inr (by rw [z, x2])⟩
theorem cK_sum {E : EE} (hW : WF E) : ∀ n, n ≤ eN E → cK E 0 n + cK E 1 n + cK E 2 n = n := by
  intro n
  induction n with
  | zero => intro _; rfl
  | succ n ih =>
    intro hn
    have h := ih (by omega)
    obtain ⟨w1, -⟩ := hW.2.1 n (by omega)
    unfold cK
    rcases w1 with c | c | c <;> rw [c] <;> simp <;> omega
theorem vbn_b (E : EE) (V : VV) (e : Nat) : ∀ n, -1 ≤ vbn E V e n ∧ vbn E V e n < n ∧ (vbn E V e n ≠ -1 → vG E V e (vbn E V e n).toNat = true) := by
  intro n
  induction n with
  | zero => unfold vbn; exact ⟨by omega, by omega, fun z => absurd rfl z⟩
  | succ n ih =>
    unfold vbn
    split
    next c => exact ⟨by omega, by omega, fun _ => by rw [Int.toNat_natCast]; exact c.1⟩
    · exact ⟨by omega, by omega, ih.2.2⟩
theorem vGn_w {E : EE} {V : VV} {e l : Nat} : ∀ n, vGn E V e l n = true → vW V l < 3 := by
  intro n
  induction n with
  | zero => unfold vGn; exact of_decide_eq_true
  | succ n ih => unfold vGn; rw [Bool.and_eq_true]; exact fun h => ih h.1
theorem VI_L {E : EE} {V : VV} {e : Nat} (h : VI E V) (he : e < eN E) (hk : eK E e = 1) (h0 : vO V e = -1) : VI E (vL E V e) ∧ vN V ≤ vN (vL E V e) ∧ vN (vL E V e) ≤ vN V + 1 ∧ (∀ x, x ≠ e → vO (vL E V e) x = vO V x) ∧ ((∀ l, vW V l ≤ 3) → ∀ l, vW (vL E V e) l ≤ 3) := by
  obtain ⟨h1, h2, h3⟩ := h
  obtain ⟨b1, b2, b3⟩ := vbn_b E V e (vN V)
  unfold vL
  by_cases c : vbn E V e (vN V) = -1
  · rw [if_pos c]
    refine ⟨⟨fun x => ?_, fun l hl => ?_, fun x l hl hx hkx => ?_⟩, Nat.le_succ _, Nat.le_refl _, fun x hx => fU_ne hx, fun h l => ?_⟩
    · show fU (vO V) e (vN V : Int) x = -1 ∨ (x < eN E ∧ ∃ l, l < vN V + 1 ∧ fU (vO V) e (vN V : Int) x = (l : Int))
      by_cases q : x = e
      · subst q
        rw [fU_eq]
        exact Or.inr ⟨he, _, Nat.lt_succ_self _, rfl⟩
      · rw [fU_ne q]
        rcases h1 x with w | ⟨w, l, hl, y⟩
        · exact Or.inl w
        · exact Or.inr ⟨w, l, by omega, y⟩
    · have hl : l < vN V + 1 := hl
      show (fU (vB V) (vN V) (-1) l = -1 ∨ ∃ b, b < eN E ∧ fU (vB V) (vN V) (-1) l = (b : Int) ∧ eK E b = 0 ∧ fU (vO V) e (vN V : Int) b = (l : Int)) ∧ (fU (vD V) (vN V) (-1) l = -1 ∨ ∃ b, b < eN E ∧ fU (vD V) (vN V) (-1) l = (b : Int) ∧ eK E b = 2 ∧ fU (vO V) e (vN V : Int) b = (l : Int)) ∧ (fU (vB V) (vN V) (-1) l = -1 ∧ fU (vD V) (vN V) (-1) l = -1 → ∃ k, k < eN E ∧ eK E k = 1 ∧ fU (vO V) e (vN V : Int) k = (l : Int))
      by_cases q : l = vN V
      · subst q
        rw [fU_eq, fU_eq]
        exact ⟨Or.inl rfl, Or.inl rfl, fun _ => ⟨e, he, hk, fU_eq⟩⟩
      · rw [fU_ne q, fU_ne q]
        obtain ⟨q1, q2, q3⟩ := h2 l (by omega)
        refine ⟨?_, ?_, fun z => ?_⟩
        · rcases q1 with w | ⟨x, a1, a2, a3, a4⟩
          · exact Or.inl w
          · exact Or.inr ⟨x, a1, a2, a3, by rw [fU_ne (fun z => by rw [z] at a3; omega)]; exact a4⟩
        · rcases q2 with w | ⟨x, a1, a2, a3, a4⟩
          · exact Or.inl w
          · exact Or.inr ⟨x, a1, a2, a3, by rw [fU_ne (fun z => by rw [z] at a3; omega)]; exact a4⟩
        · obtain ⟨k, a1, a2, a3⟩ := q3 z
          exact ⟨k, a1, a2, by rw [fU_ne (fun z => by rw [z] at a3; omega)]; exact a3⟩
    · have hl : l < vN V + 1 := hl
      have hx : fU (vO V) e (vN V : Int) x = (l : Int) := hx
      have hne : x ≠ e := fun z => by rw [z] at hkx; exact hkx hk
      rw [fU_ne hne] at hx
      have hlt : l < vN V := by
        rcases h1 x with w | ⟨-, l', hl', y⟩ <;> omega
      show fU (vB V) (vN V) (-1) l = (x : Int) ∨ fU (vD V) (vN V) (-1) l = (x : Int)
      rw [fU_ne (by omega), fU_ne (by omega)]
      exact h3 x l hlt hx hkx
    · show fU (vW V) (vN V) 1 l ≤ 3
      have := h l
      unfold fU
      split <;> omega
  · rw [if_neg c]
    split
    · exact ⟨⟨h1, h2, h3⟩, Nat.le_refl _, Nat.le_succ _, fun _ _ => rfl, fun h => h⟩
    · obtain ⟨L, hL⟩ : ∃ L : Nat, vbn E V e (vN V) = (L : Int) := ⟨(vbn E V e (vN V)).toNat, by omega⟩
      have hw := vGn_w _ (b3 c)
      rw [hL] at hw ⊢
      rw [Int.toNat_natCast] at hw ⊢
      have hLn : L < vN V := by omega
      refine ⟨⟨fun x => ?_, fun l hl => ?_, fun x l hl hx hkx => ?_⟩, Nat.le_refl _, Nat.le_succ _, fun x hx => fU_ne hx, fun h l => ?_⟩
      · show fU (vO V) e (L : Int) x = -1 ∨ (x < eN E ∧ ∃ l, l < vN V ∧ fU (vO V) e (L : Int) x = (l : Int))
        by_cases q : x = e
        · subst q
          rw [fU_eq]
          exact Or.inr ⟨he, _, hLn, rfl⟩
        · rw [fU_ne q]
          exact h1 x
      · have hl : l < vN V := hl
        obtain ⟨q1, q2, q3⟩ := h2 l hl
        show (vB V l = -1 ∨ ∃ b, b < eN E ∧ vB V l = (b : Int) ∧ eK E b = 0 ∧ fU (vO V) e (L : Int) b = (l : Int)) ∧ (vD V l = -1 ∨ ∃ b, b < eN E ∧ vD V l = (b : Int) ∧ eK E b = 2 ∧ fU (vO V) e (L : Int) b = (l : Int)) ∧ (vB V l = -1 ∧ vD V l = -1 → ∃ k, k < eN E ∧ eK E k = 1 ∧ fU (vO V) e (L : Int) k = (l : Int))
        refine ⟨?_, ?_, fun z => ?_⟩
        · rcases q1 with w | ⟨x, a1, a2, a3, a4⟩
          · exact Or.inl w
          · exact Or.inr ⟨x, a1, a2, a3, by rw [fU_ne (fun z => by rw [z] at a3; omega)]; exact a4⟩
        · rcases q2 with w | ⟨x, a1, a2, a3, a4⟩
          · exact Or.inl w
          · exact Or.inr ⟨x, a1, a2, a3, by rw [fU_ne (fun z => by rw [z] at a3; omega)]; exact a4⟩
        · obtain ⟨k, a1, a2, a3⟩ := q3 z
          exact ⟨k, a1, a2, by rw [fU_ne (fun z => by rw [z] at a3; omega)]; exact a3⟩
      · have hx : fU (vO V) e (L : Int) x = (l : Int) := hx
        have hne : x ≠ e := fun z => by rw [z] at hkx; exact hkx hk
        rw [fU_ne hne] at hx
        exact h3 x l hl hx hkx
      · show fU (vW V) L (vW V L + 1) l ≤ 3
        have := h l
        unfold fU
        split <;> omega
/-- the lives, when the weddings below e are laid -/
theorem Vl_ok {E : EE} (hW : WF E) : ∀ e, e ≤ eN E → VI E (sVl E e) ∧ vN (sVl E e) ≤ nB E + nD E + cK E 1 e ∧ (∀ l, vW (sVl E e) l ≤ 3) ∧ (∀ x, x < eN E → eK E x ≠ 1 → vO (sVl E e) x = vO (sVf E) x ∧ vO (sVl E e) x ≠ -1) ∧ (∀ x, x < eN E → e ≤ x → eK E x = 1 → vO (sVl E e) x = -1) := by
  intro e
  induction e with
  | zero =>
    intro _
    obtain ⟨g1, g2, g3, g4, g5⟩ := Vf_ok hW
    refine ⟨g1, by show vN (sVf E) ≤ _; omega, fun l => by show vW (sVf E) l ≤ 3; rw [g4]; omega, fun x hx hk => ⟨rfl, (g5 x hx).mpr hk⟩, fun x hx _ hk => ?_⟩
    by_cases c : vO (sVf E) x = -1
    · exact c
    · exact absurd hk ((g5 x hx).mp c)
  | succ e ih =>
    intro he
    obtain ⟨g1, g2, g3, g4, g5⟩ := ih (by omega)
    rw [sVl, cK]
    by_cases c : eK E e = 1
    · rw [if_pos c, if_pos c]
      obtain ⟨l1, l2, l3, l4, l5⟩ := VI_L g1 (by omega) c (g5 e (by omega) (Nat.le_refl _) c)
      refine ⟨l1, by omega, l5 g3, fun x hx hk => ?_, fun x hx hxe hk => ?_⟩
      · rw [l4 x (fun z => by rw [z] at hk; exact hk c)]
        exact g4 x hx hk
      · rw [l4 x (by omega)]
        exact g5 x hx (by omega) hk
    · rw [if_neg c, if_neg c]
      exact ⟨g1, g2, g3, g4, fun x hx hxe hk => g5 x hx (by omega) hk⟩
theorem Vl_n {E : EE} (hW : WF E) {e : Nat} (he : e ≤ eN E) : vN (sVl E e) ≤ 18 := by
  have h1 := (Vl_ok hW e he).2.1
  have h2 := cK_sum hW (eN E) (Nat.le_refl _)
  have h3 := cK_mono E 1 he
  have h4 := hW.1
  have e0 : nB E = cK E 0 (eN E) := rfl
  have e2 : nD E = cK E 2 (eN E) := rfl
  omega

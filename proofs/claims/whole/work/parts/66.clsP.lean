/-! the class tells -/
section XP
variable {P : Int → GS → Prop} {E : EE} {g : GS}
theorem X_tellEntry {e : Nat} {w : Int} (hR : RegX E g) (hD : DrX E g) (hW : WF E) (he : e < eN E) (rw_ : rng w) (hP : P (if 0 ≤ w ∧ w ≤ 7 then vEt E (sVz E) e w else -102) g) : MXi mX9_tellEntry [vr 0, vi (e : Int), vi w] g P := by
  have h18 := hW.1
  obtain ⟨hB, hX, hM, hL, -, -, -, hO⟩ := hD
  obtain ⟨hI, hvn, -⟩ := Vz_ok hW
  have ho := vO_b hW hI hvn e
  obtain ⟨a1, a2, a3, a4, -⟩ := hR.2.2.2.2.1 e he
  obtain ⟨b1, b2⟩ := hB e he
  refine uX9_tellEntry g _ _ ?_
  simp only [Int.toNat_natCast]
  rw [a1, a2, a3, a4, b1, b2, hO e he]
  unfold vEt at hP
  refine ⟨by omega, by omega, hR.2.1 e (by omega), rw_, fun c => ?_, fun c => ?_, fun c => ?_, fun c => ?_, fun c => ?_, fun c => ?_, fun c => ?_, fun c => ?_, fun c => ⟨⟨by omega, by omega⟩, fun d => ?_, fun d => ?_⟩⟩
  · rw [if_neg (by omega)] at hP; exact hP
  · subst c; exact hP
  · subst c; exact hP
  · subst c; exact hP
  · subst c; exact hP
  · subst c; exact hP
  · subst c; exact hP
  · subst c; exact hP
  · subst c
    rw [decide_eq_false d] at hP
    exact hP
  · subst c
    rw [decide_eq_true d] at hP
    exact hP
theorem X_tellTwo {i j : Nat} {w : Int} (hR : RegX E g) (hD : DrX E g) (hW : WF E) (hi : i < eN E) (hj : j < eN E) (hn : i ≠ j) (rw_ : rng w) (hP : P (if 0 ≤ w ∧ w ≤ 4 then sTw E i j w else -102) g) : MXi mX9_tellTwo [vr 0, vi (i : Int), vi (j : Int), vi w] g P := by
  have h18 := hW.1
  obtain ⟨hB, hX, -⟩ := hD
  obtain ⟨x1, x2⟩ := hX.2.2 i j hi hj hn
  refine uX9_tellTwo g _ _ _ ?_
  simp only [Int.toNat_natCast]
  rw [x1, x2]
  unfold sTw at hP
  refine ⟨by omega, by omega, hR.2.1 i (by omega), by omega, by omega, hR.2.1 j (by omega), rw_, fun c => ?_, fun c => ?_, fun c => ?_, fun c => ?_, fun c => ?_, fun c => ?_⟩
  · rw [if_neg (by omega)] at hP; exact hP
  · subst c; exact X_dist hR hW hi hj hn hP
  · subst c; exact X_like hR hW hi hj hn hP
  · subst c; exact hP
  · subst c; exact hP
  · subst c; exact X_years hR hB hW hi hj hP
theorem X_cShaky (hD : DvX E g) (hvn : vN (sVz E) ≤ 18) (hP : P (vHm E (sVz E)) g) : MXi mX2_countShaky [vr 117] g P := by
  obtain ⟨⟨l1, l2⟩, hs, -⟩ := hD
  have loop : ∀ (t n : Nat), n + t = vN (sVz E) → XXi mX2_countShaky 4 [some (vr 117), some (vi (cnt (fun l => vH E (sVz E) l) n)), some (vi (n : Int))] [] g P := by
    intro t
    induction t with
    | zero =>
      intro n hn
      have hn : n = vN (sVz E) := by omega
      subst hn
      refine uX2_countShaky_4 g _ _ ?_
      rw [l1]
      exact ⟨⟨by omega, by omega⟩, ⟨by omega, by omega⟩, fun _ => hP, fun z => by omega⟩
    | succ t ih =>
      intro n hn
      have hh := ih (n + 1) (by omega)
      rw [cnt] at hh
      refine uX2_countShaky_4 g _ _ ?_
      rw [l1]
      simp only [Int.toNat_natCast]
      rw [hs n (by omega)]
      refine ⟨⟨by omega, by omega⟩, ⟨by omega, by omega⟩, fun z => by omega, fun _ => ⟨by omega, by omega, rng_bi _, fun c => ?_, fun c => ?_⟩⟩
      · rw [if_neg (fun z => by rw [z] at c; exact absurd c (by decide))] at hh
        exact hh
      · have : vH E (sVz E) n = true := by
          cases q : vH E (sVz E) n
          · rw [q] at c; exact absurd rfl c
          · rfl
        rw [if_pos this] at hh
        exact hh
  exact uX2_countShaky g (loop (vN (sVz E)) 0 (by omega))
theorem X_cSingle (hD : DvX E g) (hW : WF E) (hvn : vN (sVz E) ≤ 18) (hP : P (vOm E (sVz E)) g) : MXi mX2_countSingle [vr 117] g P := by
  obtain ⟨⟨l1, l2⟩, -⟩ := hD
  obtain ⟨-, -, hw3⟩ := Vz_ok hW
  have loop : ∀ (t n : Nat), n + t = vN (sVz E) → XXi mX2_countSingle 4 [some (vr 117), some (vi (cnt (fun l => decide (vEn E (sVz E) l = 1)) n)), some (vi (n : Int))] [] g P := by
    intro t
    induction t with
    | zero =>
      intro n hn
      have hn : n = vN (sVz E) := by omega
      subst hn
      refine uX2_countSingle_4 g _ _ ?_
      rw [l1]
      exact ⟨⟨by omega, by omega⟩, ⟨by omega, by omega⟩, fun _ => hP, fun z => by omega⟩
    | succ t ih =>
      intro n hn
      have hh := ih (n + 1) (by omega)
      rw [cnt] at hh
      obtain ⟨a1, a2, a3, a4, a5⟩ := l2 n (by omega)
      have hw := hw3 n
      have hh2 : hN (sVz E) n ≤ 2 := by unfold hN; split <;> split <;> omega
      have he : vEn E (sVz E) n = _ := vEn_of a5.1
      refine uX2_countSingle_4 g _ _ ?_
      rw [l1]
      simp only [Int.toNat_natCast]
      rw [a1]
      refine ⟨⟨by omega, by omega⟩, ⟨by omega, by omega⟩, fun z => by omega, fun _ => ⟨by omega, by omega, ⟨by omega, by omega⟩, fun c => ?_, fun c => ?_⟩⟩
      · rw [if_neg (by rw [he]; simpa using c)] at hh
        exact hh
      · rw [if_pos (by rw [he]; simpa using c)] at hh
        exact hh
  exact uX2_countSingle g (loop (vN (sVz E)) 0 (by omega))
theorem X_tellLives {w : Int} (hD : DrX E g) (hW : WF E) (rw_ : rng w) (hP : P (if 0 ≤ w ∧ w ≤ 5 then sLs E w else -102) g) : MXi mX9_tellLives [vr 0, vi w] g P := by
  obtain ⟨hB, hX, hM, hL⟩ := hD
  obtain ⟨-, hvn, -⟩ := Vz_ok hW
  have hL0 := hL
  obtain ⟨⟨l1, l2⟩, l3, l4, l5, l6⟩ := hL
  refine uX9_tellLives g _ ?_
  rw [l1, l5, hM.2.1, hM.2.2]
  unfold sLs at hP
  refine ⟨rw_, fun c => ?_, fun c => ?_, fun c => ?_, fun c => ?_, fun c => ?_, fun c => ?_, fun c => ?_⟩
  · rw [if_neg (by omega)] at hP; exact hP
  · subst c; exact hP
  · subst c; exact hP
  · subst c; exact hP
  · subst c; exact hP
  · subst c; exact X_cShaky hL0 hvn hP
  · subst c; exact X_cSingle hL0 hW hvn hP
theorem X_tellLife {l : Nat} {w : Int} (hD : DrX E g) (hW : WF E) (hl : l < vN (sVz E)) (rw_ : rng w) (hP : P (if 0 ≤ w ∧ w ≤ 7 then vLn E (sVz E) l w else -102) g) : MXi mX9_tellLife [vr (121 + 2 * l), vi w] g P := by
  obtain ⟨-, -, -, ⟨l1, l2⟩, l3, -⟩ := hD
  obtain ⟨hI, hvn, hw3⟩ := Vz_ok hW
  obtain ⟨a1, a2, a3, a4, a5⟩ := l2 l hl
  have hw := hw3 l
  have hh2 : hN (sVz E) l ≤ 2 := by unfold hN; split <;> split <;> omega
  have hpos := mM_pos hI hl a5.1
  have h0 : 0 < hN (sVz E) l + vW (sVz E) l := by unfold mM at hpos; split at hpos <;> omega
  have hr := LR_rng hW a5 h0
  obtain ⟨m5, m6, m7⟩ := a5.2 h0
  have e5 := vFn_of hW m5
  have e6 := vTn_of hW m6
  have e7 := vYn_of hW m7
  have e1 := vEn_of a5.1
  have born : ∀ (Q : Int → GS → Prop), (vTn E (sVz E) l (eN E) < vFn E (sVz E) l (eN E) → Q 0 g) → (¬ vTn E (sVz E) l (eN E) < vFn E (sVz E) l (eN E) → Q 1 g) → MXi mX1_isBorn [vr (121 + 2 * l)] g Q := by
    intro Q q0 q1
    refine uX1_isBorn g l (by omega) ?_
    exact ⟨hr.1, hr.2.1, fun c => q0 (by rw [e5, e6]; exact c), fun c => q1 (by rw [e5, e6]; omega)⟩
  refine uX9_tellLife g l (by omega) _ ?_
  unfold vLn vBo at hP
  refine ⟨rw_, fun c => ?_, fun c => ?_, fun c => ?_, fun c => ?_, fun c => ?_, fun c => ?_, fun c => ?_, fun c => ?_, fun c => ?_⟩
  · rw [if_neg (by omega)] at hP; exact hP
  · subst c; rw [a3]; exact hP
  · subst c; rw [a4]; exact hP
  · subst c
    refine uX1_weddings g l (by omega) ?_
    rw [a1, a2, show ((hN (sVz E) l + vW (sVz E) l : Nat) : Int) - (hN (sVz E) l : Int) = (vW (sVz E) l : Int) by omega]
    exact hP
  · subst c
    have hP : P (if vTn E (sVz E) l (eN E) < vFn E (sVz E) l (eN E) then -1 else vFn E (sVz E) l (eN E)) g := hP
    refine born _ (fun c => ⟨rng_0, fun _ => ?_, fun z => absurd rfl z⟩) (fun c => ⟨⟨by decide, by decide⟩, fun z => absurd z (by decide), fun _ => ?_⟩)
    · rw [if_pos c] at hP; exact hP
    · rw [if_neg c] at hP; rw [← e5]; exact hP
  · subst c
    have hP : P (if vTn E (sVz E) l (eN E) < vFn E (sVz E) l (eN E) then -1 else vTn E (sVz E) l (eN E)) g := hP
    refine born _ (fun c => ⟨rng_0, fun _ => ?_, fun z => absurd rfl z⟩) (fun c => ⟨⟨by decide, by decide⟩, fun z => absurd z (by decide), fun _ => ?_⟩)
    · rw [if_pos c] at hP; exact hP
    · rw [if_neg c] at hP; rw [← e6]; exact hP
  · subst c
    have hP : P (bi (vH E (sVz E) l)) g := hP
    rw [l3 l hl]
    refine ⟨rng_bi _, fun c => ?_, fun c => ?_⟩
    · rw [c] at hP; exact hP
    · rcases bi_01 (vH E (sVz E) l) with z | z
      · exact absurd z c
      · rw [z] at hP; exact hP
  · subst c; rw [a1, ← e1]; exact hP
  · subst c; rw [← e7]; exact hP
end XP

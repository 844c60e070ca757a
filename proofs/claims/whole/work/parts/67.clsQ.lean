/-! the class's questions -/
section XQ
variable {P : Int → GS → Prop} {A : AA} {g : GS}
theorem X_two1 {a b w : Int} (hR : RepX A g) (hW : WFA A) (ra : rng a) (rb : rng b) (rw_ : rng w) (hP : ∀ g', RepX A g' → P (zTwo (pE A) a b w) g') : MXi mX9_two [vr 0, vi a, vi b, vi w] g P := by
  unfold zTwo at hP
  refine uX9_two g _ _ _ ?_
  refine X_areTwo hR.1.2.2.1 hW.2.2.1 ra rb (fun i j hi hj hiE hjE hn => ⟨⟨by decide, by decide⟩, fun _ => ?_, fun z => absurd z (by decide)⟩) (fun f => ⟨rng_0, fun z => absurd rfl z, fun _ => ?_⟩)
  · subst hi hj
    rw [if_neg (by rw [inE_t hiE, inE_t hjE]; simp; omega), Int.toNat_natCast, Int.toNat_natCast] at hP
    exact X_settle hR hW (fun g' h0 hs hD => X_tellTwo h0.2.2.1 hD hW.2.2.1 hiE hjE hn rw_ (hP g' ⟨h0, Or.inr ⟨hs, hD⟩⟩))
  · rw [if_pos f] at hP
    exact hP g hR
theorem X_fits1 {a : Int} (hR : RepX A g) (hW : WFA A) (ra : rng a) (hP : ∀ g', RepX A g' → P (zFits (pE A) a) g') : MXi mX9_fits [vr 0, vi a] g P := by
  unfold zFits at hP
  refine uX9_fits g _ ?_
  refine X_has hR.1.2.2.1 hW.2.2.1 ra (fun i hi hiE => ⟨⟨by decide, by decide⟩, fun _ => ?_, fun z => absurd z (by decide)⟩) (fun f => ⟨rng_0, fun z => absurd rfl z, fun _ => ?_⟩)
  · subst hi
    rw [inE_t hiE, if_pos rfl, Int.toNat_natCast] at hP
    exact X_settle hR hW (fun g' h0 hs hD => X_countFit hD.2.1 hW.2.2.1 hiE (hP g' ⟨h0, Or.inr ⟨hs, hD⟩⟩))
  · rw [f, if_neg (by decide)] at hP
    exact hP g hR
theorem X_near1 {a : Int} (hR : RepX A g) (hW : WFA A) (ra : rng a) (hP : ∀ g', RepX A g' → P (zNear (pE A) a) g') : MXi mX9_nearest [vr 0, vi a] g P := by
  unfold zNear at hP
  refine uX9_nearest g _ ?_
  refine X_has hR.1.2.2.1 hW.2.2.1 ra (fun i hi hiE => ⟨⟨by decide, by decide⟩, fun _ => ?_, fun z => absurd z (by decide)⟩) (fun f => ⟨rng_0, fun z => absurd rfl z, fun _ => ?_⟩)
  · subst hi
    rw [inE_t hiE, if_pos rfl, Int.toNat_natCast] at hP
    exact X_settle hR hW (fun g' h0 hs hD => X_bestFor hD.2.1 hW.2.2.1 hiE (hP g' ⟨h0, Or.inr ⟨hs, hD⟩⟩))
  · rw [f, if_neg (by decide)] at hP
    exact hP g hR
theorem X_lives1 {w : Int} (hR : RepX A g) (hW : WFA A) (rw_ : rng w) (hP : ∀ g', RepX A g' → P (zLives (pE A) w) g') : MXi mX9_lives [vr 0, vi w] g P :=
  uX9_lives g _ (X_settle hR hW (fun g' h0 hs hD => X_tellLives hD hW.2.2.1 rw_ (hP g' ⟨h0, Or.inr ⟨hs, hD⟩⟩)))
theorem X_hasL {E : EE} {x : Int} (hL : g.1 117 2 = (vN (sVz E) : Int)) (hvn : vN (sVz E) ≤ 18) (rx : rng x) (hT : ∀ l : Nat, x = (l : Int) → l < vN (sVz E) → P 1 g) (hF : ¬ (0 ≤ x ∧ x < vN (sVz E)) → P 0 g) : MXi mX2_has [vr 117, vi x] g P := by
  refine uX2_has g x ?_
  rw [hL]
  exact ⟨rx, fun c => hF (by omega), fun c => ⟨⟨by omega, by omega⟩, fun d => hF (by omega), fun d => hT x.toNat (by omega) (by omega)⟩⟩
theorem X_life1 {l w : Int} (hR : RepX A g) (hW : WFA A) (rl : rng l) (rw_ : rng w) (hP : ∀ g', RepX A g' → P (zLife (pE A) l w) g') : MXi mX9_life [vr 0, vi l, vi w] g P := by
  unfold zLife at hP
  obtain ⟨-, hvn, -⟩ := Vz_ok hW.2.2.1
  refine uX9_life g _ _ (X_settle hR hW (fun g' h0 hs hD => ?_))
  have hgo := hP g' ⟨h0, Or.inr ⟨hs, hD⟩⟩
  refine X_hasL hD.2.2.2.1.1 hvn rl (fun i hi hiv => ⟨⟨by decide, by decide⟩, fun z => absurd z (by decide), fun _ => ?_⟩) (fun f => ⟨rng_0, fun _ => ?_, fun z => absurd rfl z⟩)
  · subst hi
    rw [if_pos ⟨by omega, by omega⟩, Int.toNat_natCast] at hgo
    simp only [Int.toNat_natCast]
    exact ⟨by omega, by omega, X_tellLife hD hW.2.2.1 hiv rw_ hgo⟩
  · rw [if_neg f] at hgo
    exact hgo
theorem X_wed1 {l p : Int} (hR : RepX A g) (hW : WFA A) (rl : rng l) (rp : rng p) (hP : ∀ g', RepX A g' → P (zWed (pE A) l p) g') : MXi mX9_wedding [vr 0, vi l, vi p] g P := by
  unfold zWed at hP
  obtain ⟨-, hvn, hw3⟩ := Vz_ok hW.2.2.1
  refine uX9_wedding g _ _ (X_settle hR hW (fun g' h0 hs hD => ?_))
  have hgo := hP g' ⟨h0, Or.inr ⟨hs, hD⟩⟩
  refine X_hasL hD.2.2.2.1.1 hvn rl (fun i hi hiv => ⟨⟨by decide, by decide⟩, fun _ => ?_, fun z => absurd z (by decide)⟩) (fun f => ⟨rng_0, fun z => absurd rfl z, fun _ => ?_⟩)
  · subst hi
    rw [if_pos ⟨by omega, by omega⟩, Int.toNat_natCast] at hgo
    simp only [Int.toNat_natCast]
    obtain ⟨a1, a2, a3, a4, a5⟩ := hD.2.2.2.1.2 i hiv
    have hw := hw3 i
    have hh2 : hN (sVz (pE A)) i ≤ 2 := by unfold hN; split <;> split <;> omega
    refine ⟨by omega, by omega, rp, fun c => ?_, fun c => ?_⟩
    · unfold vP at hgo
      rw [if_pos c] at hgo
      exact hgo
    · obtain ⟨q, eq⟩ : ∃ q : Nat, p = (q : Int) := ⟨p.toNat, by omega⟩
      subst eq
      rw [vP_of a5.1 (by omega)] at hgo
      refine uX1_weddings g' i (by omega) ?_
      rw [a1, a2, show ((hN (sVz (pE A)) i + vW (sVz (pE A)) i : Nat) : Int) - (hN (sVz (pE A)) i : Int) = (vW (sVz (pE A)) i : Int) by omega, show (hN (sVz (pE A)) i : Int) + (q : Int) = ((hN (sVz (pE A)) i + q : Nat) : Int) by omega, Int.toNat_natCast]
      refine ⟨⟨by omega, by omega⟩, fun d => ⟨by omega, by omega, ?_⟩, fun d => ?_⟩
      · rw [if_pos (by omega)] at hgo; exact hgo
      · rw [if_neg (by omega)] at hgo; exact hgo
  · rw [if_neg f] at hgo
    exact hgo
theorem X_mate1 {e : Int} (hR : RepX A g) (hW : WFA A) (re : rng e) (hP : ∀ g', RepX A g' → P (zMate (pE A) e) g') : MXi mX9_mate [vr 0, vi e] g P := by
  unfold zMate at hP
  have h18 := hW.2.2.1.1
  refine uX9_mate g _ ?_
  refine X_has hR.1.2.2.1 hW.2.2.1 re (fun i hi hiE => ⟨⟨by decide, by decide⟩, fun z => absurd z (by decide), fun _ => ?_⟩) (fun f => ⟨rng_0, fun _ => ?_, fun z => absurd rfl z⟩)
  · subst hi
    rw [inE_t hiE, Int.toNat_natCast] at hP
    obtain ⟨-, a2, -⟩ := hR.1.2.2.1.2.2.2.2.1 i hiE
    obtain ⟨w1, -⟩ := hW.2.2.1.2.1 i hiE
    simp only [Int.toNat_natCast]
    rw [a2]
    refine ⟨by omega, by omega, hR.1.2.2.1.2.1 i (by omega), ⟨by omega, by omega⟩, fun c => ?_, fun c => ?_⟩
    · rw [if_neg (fun z => c (z.resolve_left (by decide)))] at hP
      refine X_settle hR hW (fun g' h0 hs hD => ?_)
      rw [hD.2.2.1.1 i hiE]
      exact hP g' ⟨h0, Or.inr ⟨hs, hD⟩⟩
    · rw [if_pos (Or.inr c)] at hP
      exact hP g hR
  · rw [if_pos (Or.inl f)] at hP
    exact hP g hR
theorem X_entry1 {e w : Int} (hR : RepX A g) (hW : WFA A) (re : rng e) (rw_ : rng w) (hP : ∀ g', RepX A g' → P (zEntry (pE A) e w) g') : MXi mX9_entry [vr 0, vi e, vi w] g P := by
  unfold zEntry at hP
  refine uX9_entry g _ _ ?_
  refine X_has hR.1.2.2.1 hW.2.2.1 re (fun i hi hiE => ⟨⟨by decide, by decide⟩, fun _ => ?_, fun z => absurd z (by decide)⟩) (fun f => ⟨rng_0, fun z => absurd rfl z, fun _ => ?_⟩)
  · subst hi
    rw [inE_t hiE, if_neg (by decide), Int.toNat_natCast] at hP
    exact X_settle hR hW (fun g' h0 hs hD => X_tellEntry h0.2.2.1 hD hW.2.2.1 hiE rw_ (hP g' ⟨h0, Or.inr ⟨hs, hD⟩⟩))
  · rw [if_pos f] at hP
    exact hP g hR
theorem X_sign1 {e p : Int} (hR : RepX A g) (hW : WFA A) (re : rng e) (rp : rng p) (hP : ∀ g', RepX A g' → P (zSign (pE A) e p) g') : MXi mX9_sign [vr 0, vi e, vi p] g P := by
  unfold zSign at hP
  have h18 := hW.2.2.1.1
  refine uX9_sign g _ _ ?_
  refine X_has hR.1.2.2.1 hW.2.2.1 re (fun i hi hiE => ⟨⟨by decide, by decide⟩, fun _ => ?_, fun z => absurd z (by decide)⟩) (fun f => ⟨rng_0, fun z => absurd rfl z, fun _ => ?_⟩)
  · subst hi
    rw [inE_t hiE, Int.toNat_natCast] at hP
    have hgo := hP g hR
    obtain ⟨a1, a2, a3, a4, a5, -⟩ := hR.1.2.2.1.2.2.2.2.1 i hiE
    obtain ⟨-, -, -, w4, -⟩ := hW.2.2.1.2.1 i hiE
    simp only [Int.toNat_natCast]
    rw [a1]
    refine ⟨by omega, by omega, hR.1.2.2.1.2.1 i (by omega), rp, fun c => ?_, fun c => ⟨⟨by omega, by omega⟩, fun d => ⟨by omega, by omega, ?_⟩, fun d => ?_⟩⟩
    · rw [if_neg (by omega)] at hgo; exact hgo
    · rw [if_pos ⟨rfl, c, d⟩] at hgo
      rw [a5 p.toNat (by omega)]
      exact hgo
    · rw [if_neg (by omega)] at hgo; exact hgo
  · rw [if_neg (by rw [f]; rintro ⟨z, -⟩; cases z)] at hP
    exact hP g hR
theorem X_as1 {e k : Int} (hR : RepX A g) (hW : WFA A) (re : rng e) (rk : rng k) (hP : ∀ g', RepX A g' → P (zAs (pE A) e k) g') : MXi mX9_as [vr 0, vi e, vi k] g P := by
  unfold zAs at hP
  have h18 := hW.2.2.1.1
  refine uX9_as g _ _ ?_
  refine X_has hR.1.2.2.1 hW.2.2.1 re (fun i hi hiE => ⟨⟨by decide, by decide⟩, fun _ => ?_, fun z => absurd z (by decide)⟩) (fun f => ⟨rng_0, fun z => absurd rfl z, fun _ => ?_⟩)
  · subst hi
    rw [inE_t hiE, if_neg (by decide), Int.toNat_natCast] at hP
    have hgo := hP g hR
    obtain ⟨a1, a2, a3, -⟩ := hR.1.2.2.1.2.2.2.2.1 i hiE
    obtain ⟨w1, -⟩ := hW.2.2.1.2.1 i hiE
    simp only [Int.toNat_natCast]
    rw [a2, a3]
    refine ⟨rk, fun c => ?_, fun c => ⟨fun d => ⟨by omega, by omega, hR.1.2.2.1.2.1 i (by omega), ⟨by omega, by omega⟩, fun q => ?_, fun q => ?_⟩, fun d => ?_⟩⟩
    · rw [if_neg (by omega)] at hgo; exact hgo
    · rw [if_pos (by omega), if_neg q] at hgo; exact hgo
    · rw [if_pos (by omega), if_pos q] at hgo; exact hgo
    · rw [if_neg (by omega)] at hgo; exact hgo
  · rw [if_pos f] at hP
    exact hP g hR
/-- the heads of a life of the match -/
theorem Mem_f {E : EE} {l s h : Nat} {f : Nat → Int} (hW : WF E) (hM : Mem E (vO (sVz E)) l s h f) (hh : h ≤ s) : Mem E (vO (sVf E)) l h h f := by
  obtain ⟨-, -, -, v4, -⟩ := Vl_ok hW (eN E) (Nat.le_refl _)
  obtain ⟨-, -, -, -, f5⟩ := Vf_ok hW
  obtain ⟨m1, m2, m3, m4⟩ := hM
  refine ⟨fun p hp => ?_, fun p q hp hq e => m2 p q (by omega) (by omega) e, fun k hk ho => ?_, fun p q hp hpq hq => by omega⟩
  · obtain ⟨k, a1, a2, a3, a4⟩ := m1 p (by omega)
    have hk1 := a4.1 hp
    refine ⟨k, a1, a2, ?_, a4⟩
    rw [← (v4 k a2 hk1).1]
    exact a3
  · have hk1 : eK E k ≠ 1 := (f5 k hk).1 (by omega)
    obtain ⟨p, hp, e⟩ := m3 k hk (by rw [show vO (sVz E) k = vO (sVf E) k from (v4 k hk hk1).1]; exact ho)
    obtain ⟨k', a1, a2, a3, a4⟩ := m1 p hp
    have : k' = k := by omega
    subst this
    exact ⟨p, a4.2 hk1, e⟩
theorem X_worth1 {e l : Int} (hR : RepX A g) (hW : WFA A) (re : rng e) (rl : rng l) (hP : ∀ g', RepX A g' → P (zWorth (pE A) e l) g') : MXi mX9_worth [vr 0, vi e, vi l] g P := by
  unfold zWorth at hP
  have hWE := hW.2.2.1
  have h18 := hWE.1
  obtain ⟨hI, hvn, hw3⟩ := Vz_ok hWE
  obtain ⟨fI, -, -, f4, f5⟩ := Vf_ok hWE
  refine uX9_worth g _ _ ?_
  refine X_has hR.1.2.2.1 hWE re (fun i hi hiE => ⟨⟨by decide, by decide⟩, fun z => absurd z (by decide), fun _ => ?_⟩) (fun f => ⟨rng_0, fun _ => ?_, fun z => absurd rfl z⟩)
  · subst hi
    rw [inE_t hiE, Int.toNat_natCast] at hP
    obtain ⟨-, a2, -⟩ := hR.1.2.2.1.2.2.2.2.1 i hiE
    obtain ⟨w1, -⟩ := hWE.2.1 i hiE
    simp only [Int.toNat_natCast]
    rw [a2]
    refine ⟨by omega, by omega, hR.1.2.2.1.2.1 i (by omega), ⟨by omega, by omega⟩, fun c => ?_, fun c => ?_⟩
    · refine X_settle hR hW (fun g' h0 hs hD => ?_)
      have hgo := hP g' ⟨h0, Or.inr ⟨hs, hD⟩⟩
      refine X_hasL hD.2.2.2.1.1 hvn rl (fun q hq hqv => ⟨⟨by decide, by decide⟩, fun z => absurd z (by decide), fun _ => ?_⟩) (fun f => ⟨rng_0, fun _ => ?_, fun z => absurd rfl z⟩)
      · subst hq
        rw [hD.2.2.2.2.2.1]
        simp only [Int.toNat_natCast]
        have hvf : vN (sVf (pE A)) ≤ 18 := by
          by_cases z : 0 < vN (sVf (pE A))
          · have : vN (sVf (pE A)) ≤ vN (sVz (pE A)) := (sVl_keep z (eN (pE A))).2.2
            omega
          · omega
        refine ⟨rl, ⟨by omega, by omega⟩, fun d => ⟨by omega, by omega, ?_⟩, fun d => ?_⟩
        · rw [if_neg (fun z => by rcases z with z | z | z <;> first | cases z | omega), Int.toNat_natCast] at hgo
          have hqf : q < vN (sVf (pE A)) := by omega
          obtain ⟨k1, k2, -⟩ := sVl_keep hqf (eN (pE A))
          have eh : hN (sVf (pE A)) q = hN (sVz (pE A)) q := by unfold hN; rw [← k1, ← k2]; rfl
          obtain ⟨b1, b2, b3, b4, b5⟩ := hD.2.2.2.1.2 q hqv
          have hh2 : hN (sVz (pE A)) q ≤ 2 := by unfold hN; split <;> split <;> omega
          have hM := Mem_f hWE b5.1 (by omega)
          have hw0 : vW (sVf (pE A)) q = 0 := f4 q
          have hM' : Mem (pE A) (vO (sVf (pE A))) q (hN (sVf (pE A)) q + vW (sVf (pE A)) q) (hN (sVf (pE A)) q) (g'.1 (122 + 2 * q)) := by rw [eh, hw0]; exact hM
          have hpos := mM_pos fI hqf hM'
          have hne : vO (sVf (pE A)) i ≠ (q : Int) := by
            by_cases z : vO (sVf (pE A)) i = -1
            · omega
            · exact absurd c ((f5 i hiE).1 z)
          have hmm : mM (sVf (pE A)) q = hN (sVz (pE A)) q := by unfold mM; rw [hw0, eh]; split <;> omega
          rw [hmm] at hpos
          have hiff := vG_iff (E := pE A) (V := sVf (pE A)) (e := i) (l := q) (eN (pE A))
          rw [b2]
          refine X_fitFirst hWE hD.2.1 (by omega) hM (by omega) hiE hne (Nat.le_refl _) (fun hT => ⟨⟨by decide, by decide⟩, fun z => absurd z (by decide), fun _ => ?_⟩) (fun hF => ⟨rng_0, fun _ => ?_, fun z => absurd rfl z⟩)
          · have hg : vG (pE A) (sVf (pE A)) i q = true := by
              refine hiff.2 ⟨by omega, fun k hk ho => ?_⟩
              obtain ⟨p, hp, ep⟩ := hM.2.2.1 k hk ho
              exact hT p hp k ep
            rw [if_pos hg, vA_mem hM', hmm] at hgo
            rw [b2]
            exact X_mean hWE hD.2.1 (by omega) hM (by omega) hiE hne (Nat.le_refl _) hpos hgo
          · rw [if_neg (fun z => ?_)] at hgo
            · exact hgo
            · obtain ⟨p, hp, k, ek, fk⟩ := hF
              obtain ⟨k', c1, c2, c3, -⟩ := hM.1 p hp
              have hkk : k' = k := by omega
              subst hkk
              have := (hiff.1 z).2 k' c2 c3
              rw [fk] at this
              exact absurd this (by decide)
        · rw [if_pos (Or.inr (Or.inr (by omega)))] at hgo
          exact hgo
      · rw [if_pos (Or.inr (Or.inr (fun z => f ⟨z.1, ?_⟩)))] at hgo
        · exact hgo
        · have hpz : 0 < vN (sVf (pE A)) := by omega
          have : vN (sVf (pE A)) ≤ vN (sVz (pE A)) := (sVl_keep hpz (eN (pE A))).2.2
          omega
    · rw [if_pos (Or.inr (Or.inl c))] at hP
      exact hP g hR
  · rw [if_pos (Or.inl f)] at hP
    exact hP g hR
end XQ

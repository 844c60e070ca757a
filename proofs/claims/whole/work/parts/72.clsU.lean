/-! the class: letter, blank, age, bound, part -/
theorem DrX.kx {E : EE} {S : Nat → Nat → Prop} {g g' : GS} (h : DrX E g) (hR : RegX E g) (hW : WF E) (k5 : Kx S g g') (hS : ∀ a k, 11 ≤ a → ¬ S a k) : DrX E g' := by
  obtain ⟨b4, p4, m4, d4⟩ := h
  refine ⟨b4.kx hR hW.1 k5 (fun a k c => hS a k c.1), ?_, ?_, ?_⟩
  · obtain ⟨x1, x2, x3⟩ := p4
    refine ⟨by rw [k5.1 _ _ (hS _ _ (by omega))]; exact x1, fun i hi => by rw [k5.1 _ _ (hS _ _ (by omega))]; exact x2 i hi, fun i j hi hj hn => ?_⟩
    unfold PairX
    rw [k5.1 _ _ (hS _ _ (by omega)), k5.1 _ _ (hS _ _ (by omega))]
    exact x3 i j hi hj hn
  · obtain ⟨x1, x2, x3⟩ := m4
    exact ⟨fun e he => by rw [k5.1 _ _ (hS _ _ (by omega))]; exact x1 e he, by rw [k5.1 _ _ (hS _ _ (by omega))]; exact x2, by rw [k5.1 _ _ (hS _ _ (by omega))]; exact x3⟩
  · obtain ⟨⟨x1, x2⟩, x3, x4, x5, x6⟩ := d4
    exact ⟨⟨by rw [k5.1 _ _ (hS _ _ (by omega))]; exact x1, fun l hl => (x2 l hl).kx (fun j _ => k5.1 _ _ (hS _ _ (by omega))) (fun j => k5.1 _ _ (hS _ _ (by omega))) rfl rfl rfl (fun k _ => Iff.rfl)⟩, fun l hl => by rw [k5.1 _ _ (hS _ _ (by omega))]; exact x3 l hl, by rw [k5.1 _ _ (hS _ _ (by omega))]; exact x4, by rw [k5.1 _ _ (hS _ _ (by omega))]; exact x5, fun e he => by rw [k5.1 _ _ (hS _ _ (by omega))]; exact x6 e he⟩
section XU
variable {P : Int → GS → Prop} {A : AA} {g : GS}
/-- the page has changed, nothing else -/
theorem RepX_page {A' : AA} {g' : GS} (hR : RepX A g) (hW : WFA A) (hk : Kx (fun a _ => a = 1 ∨ a = 2) g g') (hE : pE A' = pE A) (hr : pR A' = pR A) (hs : pS A' = pS A) (h1 : g'.1 1 1 = (pN A' : Int)) (h2 : ∀ k, k < pN A' → g'.1 2 k = pC A' k) : RepX A' g' := by
  obtain ⟨⟨r1, r2, r3, r4, r5, r6, r7⟩, r8⟩ := hR
  have n0 : ∀ a k, coreX a k → ¬ (a = 1 ∨ a = 2) := fun a k c z => by unfold coreX at c; omega
  refine ⟨⟨h1, h2, by rw [hE]; exact r3.kx hW.2.2.1.1 hk n0, by rw [hE]; exact r4.kx hk n0, by rw [hk.1 _ _ (by omega), hr]; exact r5, by rw [hk.1 _ _ (by omega), hs]; exact r6, ?_⟩, ?_⟩
  · unfold NmX; rw [hk.2]; exact r7
  · rw [hk.1 0 11 (by omega), hE]
    exact r8.imp id (fun z => ⟨z.1, z.2.kx r3 hW.2.2.1 hk (fun a k h y => by omega)⟩)
theorem K_letter {c : Int} (hR : RepX A g) (hW : WFA A) (rc : rng c) (hP : ∀ g', RepX (nLet A c) g' → P (zLet A c) g') : MXi mX9_letter [vr 0, vi c] g P := by
  have hn := hW.1
  unfold nLet zLet at hP
  refine uX9_letter g c ?_
  rw [hR.1.1]
  refine ⟨rc, fun h => ?_, fun h => ⟨fun h2 => ⟨⟨by omega, by omega⟩, fun d => ?_, fun d => ?_⟩, fun h2 => ?_⟩⟩
  · rw [if_neg (by omega), if_neg (by omega)] at hP; exact hP g hR
  · rw [if_pos ⟨⟨h, h2⟩, by omega⟩, if_pos ⟨h, h2⟩, if_neg (by omega)] at hP
    refine uX5_put g c ?_
    rw [hR.1.1]
    simp only [Int.toNat_natCast]
    refine ⟨⟨by omega, by omega⟩, fun z => by omega, fun _ => ⟨by omega, by omega, fun g1 e1 g2 e2 => ?_⟩⟩
    have q : g2.1 1 1 = ((pN A + 1 : Nat) : Int) := by rw [e2, gI_eq, e1, gI_ne (by omega), hR.1.1]; omega
    rw [q]
    refine hP g2 (RepX_page (A' := aLet A c) hR hW ?_ rfl rfl rfl q (fun k hk => ?_))
    · rw [e2, e1]
      exact (Kx.st (S := fun a _ => a = 1 ∨ a = 2) (Or.inr rfl)).tr (Kx.st (S := fun a _ => a = 1 ∨ a = 2) (Or.inl rfl))
    · have hk : k < pN A + 1 := hk
      show g2.1 2 k = fU (pC A) (pN A) c k
      rw [e2, gI_ne (by omega), e1]
      by_cases z : k = pN A
      · rw [z, gI_eq, fU_eq]
      · rw [gI_ne (by omega), fU_ne z]; exact hR.1.2.1 k (by omega)
  · rw [if_neg (by omega), if_pos ⟨h, h2⟩, if_pos (by omega)] at hP; exact hP g hR
  · rw [if_neg (by omega), if_neg (by omega)] at hP; exact hP g hR
theorem K_blank (hR : RepX A g) (hW : WFA A) (hP : ∀ g', RepX (aBlk A) g' → P (pN A : Int) g') : MXi mX9_blank [vr 0] g P := by
  refine uX9_blank g (fun g1 e1 => ?_)
  rw [hR.1.1]
  refine hP g1 (RepX_page (A' := aBlk A) hR hW ?_ rfl rfl rfl ?_ (fun k hk => absurd hk (Nat.not_lt_zero _)))
  · rw [e1]; exact Kx.st (S := fun a _ => a = 1 ∨ a = 2) (Or.inl rfl)
  · rw [e1, gI_eq]; rfl
/-- the entries have changed: what is derived is stale -/
theorem RepX_E {E' : EE} {g' : GS} {S : Nat → Nat → Prop} (hR : RepX A g) (hk : ∀ a k, ¬ S a k → g'.1 a k = g.1 a k) (h2 : g'.2.2 = g.2.2) (hS : ∀ a k, (a = 1 ∨ a = 2 ∨ (a = 0 ∧ k = 10) ∨ (a = 8 ∧ k = 3)) → ¬ S a k) (hs : g'.1 0 11 = 1) (hE : RegX E' g') (hB : BndX E' g') : RepX (setE A E') g' := by
  obtain ⟨⟨r1, r2, r3, r4, r5, r6, r7⟩, r8⟩ := hR
  refine ⟨⟨by rw [hk _ _ (hS _ _ (by omega))]; exact r1, fun k hl => by rw [hk _ _ (hS _ _ (by omega))]; exact r2 k hl, hE, hB, by rw [hk _ _ (hS _ _ (by omega))]; exact r5, by rw [hk _ _ (hS _ _ (by omega))]; exact r6, ?_⟩, Or.inl hs⟩
  unfold NmX
  rw [h2]
  exact r7
theorem RegX_age {E : EE} {i : Nat} {a : Int} {g' : GS} (hR : RegX E g) (hW : WF E) (hi : i < eN E) (hk : Kx (fun x k => (x = sE g i ∧ k = 6) ∨ (x = 0 ∧ k = 11)) g g') (ha : g'.1 (sE g i) 6 = a) : RegX (eAge E i a) g' := by
  have h18 := hW.1
  obtain ⟨h1, h2, h3, h4, h5, h6, h7, h8, h9⟩ := hR
  obtain ⟨k1, k2⟩ := hk
  have e : g'.2.1 = g.2.1 := congrArg (fun z => z.1) k2
  have si := h2 i (by omega)
  have c0 : cK (eAge E i a) 0 (eN E) = cK E 0 (eN E) := cK_cg (E := E) (F := eAge E i a) 0 (fun _ => rfl) _
  have c1 : cK (eAge E i a) 1 (eN E) = cK E 1 (eN E) := cK_cg (E := E) (F := eAge E i a) 1 (fun _ => rfl) _
  have c2 : cK (eAge E i a) 2 (eN E) = cK E 2 (eN E) := cK_cg (E := E) (F := eAge E i a) 2 (fun _ => rfl) _
  unfold RegX RowX sE
  rw [e]
  unfold sE at k1 ha
  refine ⟨by rw [k1 _ _ (by omega)]; exact h1, h2, h3, fun s hs => by rw [k1 _ _ (by omega)]; exact h4 s hs, fun j hj => ?_, fun j l hj hl hn => ?_, ?_, ?_, ?_⟩
  · have hj : j < eN E := hj
    obtain ⟨a1, a2, a3, a4, a5, b, a6, a7⟩ := h5 j hj
    have hs := h2 j (by omega)
    refine ⟨by rw [k1 _ _ (by omega)]; exact a1, by rw [k1 _ _ (by omega)]; exact a2, by rw [k1 _ _ (by omega)]; exact a3, ?_, fun k hl => by rw [k1 _ _ (by omega)]; exact a5 k hl, b, by rw [k1 _ _ (by omega)]; exact a6, a7⟩
    show g'.1 _ 6 = fU (eA E) i a j
    by_cases c : j = i
    · rw [c, fU_eq]; exact ha
    · rw [fU_ne c, k1 _ _ (fun z => c (h3 j i (by omega) (by omega) (by omega)))]
      exact a4
  · have hj : j < eN E := hj
    have hs := h2 j (by omega)
    rw [k1 _ _ (by omega)]
    exact h6 j l hj hl hn
  · rw [k1 _ _ (by omega)]; show _ = ((cK (eAge E i a) 0 (eN E) : Nat) : Int); rw [c0]; exact h7
  · rw [k1 _ _ (by omega)]; show _ = ((cK (eAge E i a) 1 (eN E) : Nat) : Int); rw [c1]; exact h8
  · rw [k1 _ _ (by omega)]; show _ = ((cK (eAge E i a) 2 (eN E) : Nat) : Int); rw [c2]; exact h9
theorem X_mayAge {k a : Int} (rk : rng k) (ra : rng a) (hk : k = 0 ∨ k = 1 ∨ k = 2) (hn : a ≠ -1) (hT : okAge k a = true → P 1 g) (hF : okAge k a = false → P 0 g) : MXi mX9_mayHaveAge [vi k, vi a] g P := by
  refine uX9_mayHaveAge g k a ⟨rk, fun c => hF (by simp [okAge, c, hn]), fun c => ?_⟩
  refine uX9_leastAge g k ⟨rk, fun d => ⟨ra, rng_0, fun e => hF ?_, fun e => ⟨fun f => hF ?_, fun f => hT ?_⟩⟩, fun d => ⟨ra, ⟨by decide, by decide⟩, fun e => hF ?_, fun e => ⟨fun f => hF ?_, fun f => hT ?_⟩⟩⟩
  · simp [okAge, hn, d]; omega
  · simp [okAge, hn, d]; omega
  · have : k = 2 := by omega
    simp [okAge, this]; omega
  · simp [okAge, hn, d]; omega
  · simp [okAge, hn, d]; omega
  · simp [okAge, d]; omega
theorem K_age {e a : Int} (hR : RepX A g) (hW : WFA A) (re : rng e) (ra : rng a) (hP : ∀ g', RepX (nAge A e a) g' → P (zAge (pE A) e a) g') : MXi mX9_age [vr 0, vi e, vi a] g P := by
  have h18 := hW.2.2.1.1
  unfold nAge zAge at hP
  refine uX9_age g e a ?_
  refine X_has hR.1.2.2.1 hW.2.2.1 re (fun i hi hiE => ⟨⟨by decide, by decide⟩, fun _ => ?_, fun z => absurd z (by decide)⟩) (fun f => ⟨rng_0, fun z => absurd rfl z, fun _ => ?_⟩)
  · subst hi
    rw [if_neg (show ¬ inE (pE A) (i : Int) = false by rw [inE_t hiE]; decide)] at hP
    simp only [Int.toNat_natCast] at hP ⊢
    obtain ⟨-, a2, -, a4, -⟩ := hR.1.2.2.1.2.2.2.2.1 i hiE
    obtain ⟨w1, -⟩ := hW.2.2.1.2.1 i hiE
    have hs := hR.1.2.2.1.2.1 i (by omega)
    have fin : okAge (eK (pE A) i) a = true → ∀ g1, g1 = gI g (sE g i) 6 a → ∀ g2, g2 = gI g1 0 11 1 → P (eA (pE A) i) g2 := by
      intro hok g1 e1 g2 e2
      rw [if_pos (show inE (pE A) (i : Int) = true ∧ okAge (eK (pE A) i) a = true from ⟨inE_t hiE, hok⟩), if_pos hok] at hP
      have hk : Kx (fun x k => (x = sE g i ∧ k = 6) ∨ (x = 0 ∧ k = 11)) g g2 := by
        rw [e2, e1]
        exact (Kx.st (S := fun x k => (x = sE g i ∧ k = 6) ∨ (x = 0 ∧ k = 11)) (Or.inl ⟨rfl, rfl⟩)).tr (Kx.st (S := fun x k => (x = sE g i ∧ k = 6) ∨ (x = 0 ∧ k = 11)) (Or.inr ⟨rfl, rfl⟩))
      refine hP g2 (RepX_E hR (fun a k h => hk.1 a k h) (congrArg (fun z => z.2) hk.2) (fun x k h z => by unfold sE at z; omega) (by rw [e2, gI_eq]) (RegX_age hR.1.2.2.1 hW.2.2.1 hiE hk ?_) ?_)
      · rw [e2, gI_ne (by unfold sE; omega), e1, gI_eq]
      · obtain ⟨b1, b2, b3⟩ := hR.1.2.2.2.1
        exact ⟨by rw [hk.1 _ _ (by unfold sE; omega)]; exact b1, by rw [hk.1 _ _ (by unfold sE; omega)]; exact b2, by rw [hk.1 _ _ (by unfold sE; omega)]; exact b3⟩
    rw [a2, a4]
    refine ⟨by omega, by omega, hs, ra, fun c => fin (by simp [okAge, c]), fun c => ?_⟩
    refine X_mayAge ⟨by omega, by omega⟩ ra (by omega) c (fun hok => ⟨⟨by decide, by decide⟩, fun _ => ?_, fun z => absurd z (by decide)⟩) (fun hok => ⟨rng_0, fun z => absurd rfl z, fun _ => ?_⟩)
    · rw [a4]; exact fin hok
    · rw [if_neg (by rw [hok]; simp), if_neg (by rw [hok]; decide)] at hP
      exact hP g hR
  · rw [if_neg (by rw [f]; simp), if_pos f] at hP
    exact hP g hR
theorem K_bound {w v : Int} (hR : RepX A g) (hW : WFA A) (rw_ : rng w) (rv : rng v) (hP : ∀ g', RepX (nBnd A w v) g' → P (zBnd A w v) g') : MXi mX9_bound [vr 0, vi w, vi v] g P := by
  have h18 := hW.2.2.1.1
  unfold nBnd zBnd at hP
  have hno : okBnd w v = false → P (-102) g := fun h => by rw [h, if_neg (by decide), if_neg (by decide)] at hP; exact hP g hR
  obtain ⟨b1, b2, b3⟩ := hR.1.2.2.2.1
  have fin : ∀ (i : Nat), w = (i : Int) → i < 3 → okBnd w v = true → ∀ g1, g1 = gI g 0 (7 + i) v → ∀ g2, g2 = gI g1 0 11 1 → P (eB (pE A) i) g2 := by
    intro i hi hi3 hok g1 e1 g2 e2
    subst hi
    rw [if_pos hok, if_pos hok, Int.toNat_natCast] at hP
    have hk : Kx (fun x k => x = 0 ∧ (k = 7 + i ∨ k = 11)) g g2 := by
      rw [e2, e1]
      exact (Kx.st (S := fun x k => x = 0 ∧ (k = 7 + i ∨ k = 11)) ⟨rfl, Or.inl rfl⟩).tr (Kx.st (S := fun x k => x = 0 ∧ (k = 7 + i ∨ k = 11)) ⟨rfl, Or.inr rfl⟩)
    have kj : ∀ j, j < 3 → g2.1 0 (7 + j) = fU (eB (pE A)) i v j := by
      intro j hj
      rw [e2, gI_ne (by omega), e1]
      by_cases c : j = i
      · rw [c, gI_eq, fU_eq]
      · rw [gI_ne (by omega), fU_ne c]
        have hj : j = 0 ∨ j = 1 ∨ j = 2 := by omega
        rcases hj with rfl | rfl | rfl
        · exact b1
        · exact b2
        · exact b3
    have hE : RegX (eBnd (pE A) i v) g2 := by
      have hk0 : Kx (fun x k => x = 0 ∧ (k = 7 + i ∨ k = 11)) g g2 := hk
      obtain ⟨h1, h2, h3, h4, h5, h6, h7, h8, h9⟩ := hR.1.2.2.1
      obtain ⟨k1, k2⟩ := hk
      have e : g2.2.1 = g.2.1 := congrArg (fun z => z.1) k2
      have c0 : cK (eBnd (pE A) i v) 0 (eN (pE A)) = cK (pE A) 0 (eN (pE A)) := cK_cg (E := pE A) (F := eBnd (pE A) i v) 0 (fun _ => rfl) _
      have c1 : cK (eBnd (pE A) i v) 1 (eN (pE A)) = cK (pE A) 1 (eN (pE A)) := cK_cg (E := pE A) (F := eBnd (pE A) i v) 1 (fun _ => rfl) _
      have c2 : cK (eBnd (pE A) i v) 2 (eN (pE A)) = cK (pE A) 2 (eN (pE A)) := cK_cg (E := pE A) (F := eBnd (pE A) i v) 2 (fun _ => rfl) _
      unfold RegX RowX sE
      rw [e]
      refine ⟨by rw [k1 _ _ (by omega)]; exact h1, h2, h3, fun s hs => by rw [k1 _ _ (by omega)]; exact h4 s hs, fun j hj => ?_, fun j l hj hl hn => by rw [k1 _ _ (by omega)]; exact h6 j l hj hl hn, ?_, ?_, ?_⟩
      · obtain ⟨a1, a2, a3, a4, a5, b, a6, a7⟩ := h5 j hj
        exact ⟨by rw [k1 _ _ (by omega)]; exact a1, by rw [k1 _ _ (by omega)]; exact a2, by rw [k1 _ _ (by omega)]; exact a3, by rw [k1 _ _ (by omega)]; exact a4, fun k hl => by rw [k1 _ _ (by omega)]; exact a5 k hl, b, by rw [k1 _ _ (by omega)]; exact a6, a7⟩
      · rw [k1 _ _ (by omega)]; show _ = ((cK (eBnd (pE A) i v) 0 (eN (pE A)) : Nat) : Int); rw [c0]; exact h7
      · rw [k1 _ _ (by omega)]; show _ = ((cK (eBnd (pE A) i v) 1 (eN (pE A)) : Nat) : Int); rw [c1]; exact h8
      · rw [k1 _ _ (by omega)]; show _ = ((cK (eBnd (pE A) i v) 2 (eN (pE A)) : Nat) : Int); rw [c2]; exact h9
    exact hP g2 (RepX_E hR (fun a k h => hk.1 a k h) (congrArg (fun z => z.2) hk.2) (fun x k h z => by omega) (by rw [e2, gI_eq]) hE ⟨kj 0 (by omega), kj 1 (by omega), kj 2 (by omega)⟩)
  have b34 : ∀ (x : Int), 0 ≤ w → w ≤ 2 → x = (if w = 0 then 1000 else if w = 1 then 5 else 500) → XXi mX9_bound 34 [some (vr 0), some (vi w), some (vi v), none, none] [vi x] g P := by
    intro x h0 h2 hx
    have hok : (0 ≤ v ∧ v ≤ x) → okBnd w v = true := by
      intro h
      unfold okBnd
      simp only [Bool.or_eq_true, Bool.and_eq_true, decide_eq_true_eq]
      by_cases c : w = 0
      · rw [if_pos c] at hx; omega
      · rw [if_neg c] at hx
        by_cases d : w = 1
        · rw [if_pos d] at hx; omega
        · rw [if_neg d] at hx; omega
    have hnk : ¬ (0 ≤ v ∧ v ≤ x) → okBnd w v = false := by
      intro h
      cases q : okBnd w v
      · rfl
      · exfalso
        unfold okBnd at q
        simp only [Bool.or_eq_true, Bool.and_eq_true, decide_eq_true_eq] at q
        by_cases c : w = 0
        · rw [if_pos c] at hx; omega
        · rw [if_neg c] at hx
          by_cases d : w = 1
          · rw [if_pos d] at hx; omega
          · rw [if_neg d] at hx; omega
    have rx : rng x := by rw [hx]; split <;> (try split) <;> exact ⟨by decide, by decide⟩
    refine uX9_bound_34 g w v x ⟨rv, fun c => hno (hnk (by omega)), fun c => ⟨rx, fun d => ⟨rw_, fun e => ⟨fun f => ⟨fun _ => ⟨fun _ g1 e1 g2 e2 => ?_, fun z => absurd z f⟩, fun z => absurd z e⟩, fun f => ⟨fun _ => ⟨fun z => absurd f z, fun _ g1 e1 g2 e2 => ?_⟩, fun z => absurd z e⟩⟩, fun e => ⟨fun z => absurd e z, fun _ g1 e1 g2 e2 => ?_⟩⟩, fun d => hno (hnk (by omega))⟩⟩
    · rw [b3]; exact fin 2 (by omega) (by omega) (hok ⟨c, d⟩) g1 e1 g2 e2
    · rw [b2]; exact fin 1 (by omega) (by omega) (hok ⟨c, d⟩) g1 e1 g2 e2
    · rw [b1]; exact fin 0 (by omega) (by omega) (hok ⟨c, d⟩) g1 e1 g2 e2
  have hlo : ¬ (0 ≤ w ∧ w ≤ 2) → okBnd w v = false := by
    intro h
    cases q : okBnd w v
    · rfl
    · exfalso
      unfold okBnd at q
      simp only [Bool.or_eq_true, Bool.and_eq_true, decide_eq_true_eq] at q
      omega
  refine uX9_bound g w v ⟨rw_, fun c => hno (hlo (by omega)), fun c => ⟨fun d => ⟨fun e => ⟨fun f => ?_, fun f => ?_⟩, fun e => ?_⟩, fun d => hno (hlo (by omega))⟩⟩
  · exact b34 500 c d (by rw [if_neg e, if_neg f])
  · exact b34 5 c d (by rw [if_neg e, if_pos f])
  · exact b34 1000 c d (by rw [if_pos e])
end XU

/-! THE CLASS's STATE between calls; what is derived is settled -/
def DrX (E : EE) (g : GS) : Prop := BornX E g ∧ PrX E g ∧ MtX E g ∧ DvX E g
def NmX (g : GS) : Prop := (g.2.2 0 = 6 ∧ g.2.2 1 = 7) ∨ (g.2.2 0 = 7 ∧ g.2.2 1 = 6)
/-- all but what is derived -/
def Rep0 (A : AA) (g : GS) : Prop := g.1 1 1 = (pN A : Int) ∧ (∀ k, k < pN A → g.1 2 k = pC A k) ∧ RegX (pE A) g ∧ BndX (pE A) g ∧ g.1 0 10 = pR A ∧ g.1 8 3 = pS A ∧ NmX g
def RepX (A : AA) (g : GS) : Prop := Rep0 A g ∧ (g.1 0 11 = 1 ∨ (g.1 0 11 = 0 ∧ DrX (pE A) g))
def SxS (a k : Nat) : Prop := (a = 0 ∧ k = 11) ∨ Sxb a k ∨ 65 ≤ a
theorem Rep0.kx {A : AA} {S : Nat → Nat → Prop} {g g' : GS} (h : Rep0 A g) (hW : WFA A) (hk : Kx S g g') (hS : ∀ a k, (coreX a k ∨ a = 1 ∨ a = 2 ∨ (a = 0 ∧ k = 10) ∨ (a = 8 ∧ k = 3)) → ¬ S a k) : Rep0 A g' := by
  obtain ⟨h1, h2, h3, h4, h5, h6, h7⟩ := h
  refine ⟨by rw [hk.1 1 1 (hS _ _ (by omega))]; exact h1, fun k hl => by rw [hk.1 2 k (hS _ _ (by omega))]; exact h2 k hl, h3.kx hW.2.2.1.1 hk (fun a k c => hS a k (Or.inl c)), h4.kx hk (fun a k c => hS a k (Or.inl c)), by rw [hk.1 0 10 (hS _ _ (by omega))]; exact h5, by rw [hk.1 8 3 (hS _ _ (by omega))]; exact h6, ?_⟩
  unfold NmX
  rw [hk.2]
  exact h7
theorem Rep0.kS {A : AA} {g g' : GS} (h : Rep0 A g) (hW : WFA A) (hk : Kx SxS g g') : Rep0 A g' := h.kx hW hk (fun a k c z => by unfold coreX at c; unfold SxS Sxb at z; omega)
theorem MtX.k117 {E : EE} {g g' : GS} (h : MtX E g) (hk : Kx Sx117 g g') : MtX E g' := by
  obtain ⟨h1, h2, h3⟩ := h
  exact ⟨fun e he => by rw [hk.1 _ _ (by unfold Sx117; omega)]; exact h1 e he, by rw [hk.1 _ _ (by unfold Sx117; omega)]; exact h2, by rw [hk.1 _ _ (by unfold Sx117; omega)]; exact h3⟩
theorem BornX.k104 {E : EE} {g g' : GS} (h : BornX E g) (hR : RegX E g) (hW : WF E) (hk : Kx Sx104 g g') : BornX E g' := h.kx hR hW.1 hk (fun a k c z => by unfold Sx104 at z; omega)
section XN
variable {P : GS → Prop} {A : AA}
theorem X_settle {g : GS} (hR : RepX A g) (hW : WFA A) (hP : ∀ g', Rep0 A g' → g'.1 0 11 = 0 → DrX (pE A) g' → P g') : MXv mX9_settle [vr 0] g P := by
  obtain ⟨h0, hs⟩ := hR
  have hWE := hW.2.2.1
  have h7 := hW.2.2.2
  refine uX9_settle g ⟨by rcases hs with c | ⟨c, -⟩ <;> rw [c] <;> exact ⟨by decide, by decide⟩, fun c => ?_, fun c => ?_⟩
  · obtain ⟨-, -, hReg, hBnd, -⟩ := id h0
    rw [hBnd.2.1]
    refine X_born hReg hWE (fun g1 k1 b1 => ?_)
    have q1 : Rep0 A g1 := h0.kS hW (k1.mo (fun a k z => Or.inr (Or.inl z)))
    rw [q1.2.2.2.1.1]
    refine X_prs q1.2.2.1 b1 hWE (fun g2 k2 p2 => ?_)
    have q2 : Rep0 A g2 := q1.kS hW (k2.mo (fun a k z => Or.inr (Or.inr (by unfold Sx65 at z; omega))))
    have b2 := b1.k65 q1.2.2.1 hWE k2
    refine X_match hWE h7 q2.2.2.1 p2 (fun g3 k3 m3 => ?_)
    have q3 : Rep0 A g3 := q2.kS hW (k3.mo (fun a k z => Or.inr (Or.inr (by unfold Sx104 at z; omega))))
    have b3 := b2.k104 q2.2.2.1 hWE k3
    have p3 := p2.k104 hWE k3
    rw [q3.2.2.2.1.2.2]
    refine X_lives hWE h7 q3.2.2.1 b3 p3 m3 (fun g4 k4 d4 => ?_)
    have q4 : Rep0 A g4 := q3.kS hW (k4.mo (fun a k z => Or.inr (Or.inr (by unfold Sx117 at z; omega))))
    have b4 := b3.k117 q3.2.2.1 hWE k4
    have p4 := p3.k117 hWE k4
    have m4 := m3.k117 k4
    intro g5 e5
    have k5 : Kx (fun a k => a = 0 ∧ k = 11) g4 g5 := by rw [e5]; exact Kx.st ⟨rfl, rfl⟩
    have q5 : Rep0 A g5 := q4.kS hW (k5.mo (fun a k z => Or.inl z))
    refine hP g5 q5 (by rw [e5, gI_eq]) ⟨b4.kx q4.2.2.1 hWE.1 k5 (fun a k c z => by omega), ?_, ?_, ?_⟩
    · obtain ⟨x1, x2, x3⟩ := p4
      refine ⟨by rw [k5.1 _ _ (by omega)]; exact x1, fun i hi => by rw [k5.1 _ _ (by omega)]; exact x2 i hi, fun i j hi hj hn => ?_⟩
      unfold PairX
      rw [k5.1 _ _ (by omega), k5.1 _ _ (by omega)]
      exact x3 i j hi hj hn
    · obtain ⟨x1, x2, x3⟩ := m4
      exact ⟨fun e he => by rw [k5.1 _ _ (by omega)]; exact x1 e he, by rw [k5.1 _ _ (by omega)]; exact x2, by rw [k5.1 _ _ (by omega)]; exact x3⟩
    · obtain ⟨⟨x1, x2⟩, x3, x4, x5, x6⟩ := d4
      exact ⟨⟨by rw [k5.1 _ _ (by omega)]; exact x1, fun l hl => (x2 l hl).kx (fun j _ => k5.1 _ _ (by omega)) (fun j => k5.1 _ _ (by omega)) rfl rfl rfl (fun k _ => Iff.rfl)⟩, fun l hl => by rw [k5.1 _ _ (by omega)]; exact x3 l hl, by rw [k5.1 _ _ (by omega)]; exact x4, by rw [k5.1 _ _ (by omega)]; exact x5, fun e he => by rw [k5.1 _ _ (by omega)]; exact x6 e he⟩
  · rcases hs with d | ⟨d, hd⟩
    · exact absurd c (by rw [d]; decide)
    · exact hP g h0 d hd
end XN
section XN2
variable {P : Int → GS → Prop} {E : EE} {g : GS}
theorem X_has {x : Int} (hR : RegX E g) (hW : WF E) (rx : rng x) (hT : ∀ i : Nat, x = (i : Int) → i < eN E → P 1 g) (hF : inE E x = false → P 0 g) : MXi mX8_has [vr 8, vi x] g P := by
  have h18 := hW.1
  refine uX8_has g x ?_
  rw [hR.1]
  refine ⟨rx, fun c => hF (inE_f (by omega)), fun c => ⟨⟨by omega, by omega⟩, fun d => hF (inE_f (by omega)), fun d => hT x.toNat (by omega) (by omega)⟩⟩
theorem X_areTwo {x y : Int} (hR : RegX E g) (hW : WF E) (rx : rng x) (ry : rng y) (hT : ∀ i j : Nat, x = (i : Int) → y = (j : Int) → i < eN E → j < eN E → i ≠ j → P 1 g) (hF : inE E x = false ∨ inE E y = false ∨ x = y → P 0 g) : MXi mX9_areTwo [vr 0, vi x, vi y] g P := by
  refine uX9_areTwo g x y ?_
  refine X_has hR hW rx (fun i hi hiE => ⟨⟨by decide, by decide⟩, fun z => absurd z (by decide), fun _ => ?_⟩) (fun f => ⟨rng_0, fun _ => hF (Or.inl f), fun z => absurd rfl z⟩)
  refine X_has hR hW ry (fun j hj hjE => ⟨⟨by decide, by decide⟩, fun z => absurd z (by decide), fun _ => ⟨rx, ry, fun c => hF (Or.inr (Or.inr c)), fun c => hT i j hi hj hiE hjE (by omega)⟩⟩) (fun f => ⟨rng_0, fun _ => hF (Or.inr (Or.inl f)), fun z => absurd rfl z⟩)
theorem X_countFit {e : Nat} (hX : PrX E g) (hW : WF E) (he : e < eN E) (hP : P (sFs E e) g) : MXi mX6_countFitting [vr 65, vi (e : Int)] g P := by
  have h18 := hW.1
  have loop : ∀ (t n : Nat), n + t = eN E → XXi mX6_countFitting 4 [some (vr 65), some (vi (e : Int)), some (vi (cnt (fun k => decide (k ≠ e) && sFt E e k) n)), some (vi (n : Int))] [] g P := by
    intro t
    induction t with
    | zero =>
      intro n hn
      have hn : n = eN E := by omega
      subst hn
      refine uX6_countFitting_4 g _ _ _ ?_
      rw [hX.1]
      exact ⟨⟨by omega, by omega⟩, ⟨by omega, by omega⟩, fun _ => hP, fun z => by omega⟩
    | succ t ih =>
      intro n hn
      have hh := ih (n + 1) (by omega)
      rw [cnt] at hh
      refine uX6_countFitting_4 g _ _ _ ?_
      rw [hX.1]
      refine ⟨⟨by omega, by omega⟩, ⟨by omega, by omega⟩, fun z => by omega, fun _ => ?_⟩
      by_cases c : n = e
      · subst c
        rw [if_neg (by simp)] at hh
        exact X_self hX hW (by omega) ⟨rng_0, fun _ => hh, fun z => absurd rfl z⟩
      · refine X_fit hX hW he (show n < eN E by omega) (fun z => c z.symm) (fun f _ => ⟨⟨by decide, by decide⟩, fun z => absurd z (by decide), fun _ => ?_⟩) (fun f _ => ⟨rng_0, fun _ => ?_, fun z => absurd rfl z⟩)
        · rw [if_pos (by simp [f, c])] at hh
          exact hh
        · rw [if_neg (by simp [f])] at hh
          exact hh
  exact uX6_countFitting g _ (loop (eN E) 0 (by omega))
theorem X_bestFor {e : Nat} (hX : PrX E g) (hW : WF E) (he : e < eN E) (hP : P (sNr E e (eN E)) g) : MXi mX6_bestFor [vr 65, vi (e : Int)] g P := by
  have h18 := hW.1
  have loop : ∀ (t n : Nat), n + t = eN E → XXi mX6_bestFor 4 [some (vr 65), some (vi (e : Int)), some (vi (sNr E e n)), some (vi (n : Int))] [] g P := by
    intro t
    induction t with
    | zero =>
      intro n hn
      have hn : n = eN E := by omega
      subst hn
      refine uX6_bestFor_4 g _ _ _ ?_
      rw [hX.1]
      exact ⟨⟨by omega, by omega⟩, ⟨by omega, by omega⟩, fun _ => hP, fun z => by omega⟩
    | succ t ih =>
      intro n hn
      have hh := ih (n + 1) (by omega)
      have hb := sNr_b E e n
      rw [sNr] at hh
      refine uX6_bestFor_4 g _ _ _ ?_
      rw [hX.1]
      refine ⟨⟨by omega, by omega⟩, ⟨by omega, by omega⟩, fun z => by omega, fun _ => ?_⟩
      by_cases c : n = e
      · subst c
        rw [if_neg (by simp)] at hh
        exact X_self hX hW (by omega) ⟨rng_0, fun _ => hh, fun z => absurd rfl z⟩
      · refine X_fit hX hW he (show n < eN E by omega) (fun z => c z.symm) (fun f _ => ⟨⟨by decide, by decide⟩, fun z => absurd z (by decide), fun _ => ⟨⟨by omega, by omega⟩, fun d => ?_, fun d => ?_⟩⟩) (fun f _ => ⟨rng_0, fun _ => ?_, fun z => absurd rfl z⟩)
        · rw [if_pos ⟨c, f, Or.inl d⟩] at hh
          exact hh
        · have hs : ∀ m, sNr E e m ≠ -1 → (sNr E e m).toNat ≠ e := by
            intro m
            induction m with
            | zero => intro z; exact absurd rfl z
            | succ m ihm =>
              intro z
              rw [sNr] at z ⊢
              by_cases y : m ≠ e ∧ sFt E e m = true ∧ (sNr E e m = -1 ∨ sWo E e (sNr E e m).toNat < sWo E e m)
              · rw [if_pos y, Int.toNat_natCast]; exact y.1
              · rw [if_neg y] at z ⊢; exact ihm z
          have hse := hs n d
          have w1 := sWo_b hW he (show n < eN E by omega)
          have w2 := sWo_b hW he (show (sNr E e n).toNat < eN E by omega)
          simp only [Int.toNat_natCast]
          rw [(hX.2.2 e n he (by omega) (by omega)).2, (hX.2.2 e (sNr E e n).toNat he (by omega) (by omega)).2]
          refine ⟨by omega, by omega, by omega, by omega, by omega, by omega, ⟨by omega, by omega⟩, ⟨by omega, by omega⟩, fun y => ?_, fun y => ?_⟩
          · rw [if_neg (fun q => by rcases q.2.2 with q | q <;> omega)] at hh
            exact hh
          · rw [if_pos ⟨c, f, Or.inr y⟩] at hh
            exact hh
        · rw [if_neg (by simp [f])] at hh
          exact hh
  exact uX6_bestFor g _ (loop (eN E) 0 (by omega))
end XN2

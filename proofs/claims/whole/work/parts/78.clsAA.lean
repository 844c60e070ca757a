/-! the class: fault; what it costs to change a name -/
section XA1
variable {P : Int → GS → Prop} {A : AA} {g : GS}
theorem RepX.kR {g' : GS} (hR : RepX A g) (hW : WFA A) (hk : Kx SR g g') : RepX A g' := by
  obtain ⟨h0, hs⟩ := hR
  refine ⟨h0.kx hW hk (fun a k c z => by unfold coreX at c; unfold SR at z; omega), ?_⟩
  rw [hk.1 0 11 (by unfold SR; omega)]
  exact hs.imp id (fun z => ⟨z.1, z.2.kx h0.2.2.1 hW.2.2.1 hk (fun a k h y => by unfold SR at y; omega)⟩)
theorem X_start {P : GS → Prop} {C : Nat → Int} (hP : ∀ g', Kx SR g g' → RdX C q0 0 0 g' → P g') : MXv mX7_start [vr 3] g P := by
  have loop : ∀ (t k : Nat) (g1 : GS), k + t = 3 → Kx SR g g1 → (∀ j, j < k → g1.1 4 j = 0) → XXv mX7_start 2 [some (vr 3), some (vi (k : Int))] [] g1 P := by
    intro t
    induction t with
    | zero =>
      intro k g1 hk k1 h0
      have hk : k = 3 := by omega
      subst hk
      refine uX7_start_2 g1 _ ⟨⟨by omega, by omega⟩, fun _ g2 e2 g3 e3 => ?_, fun z => by omega⟩
      have k3 : Kx SR g1 g3 := by rw [e3, e2]; exact (Kx.st (Or.inl rfl)).tr (Kx.st (Or.inl rfl))
      refine X_startE (fun g4 k4 h7 h4 h5 h6 h9 => hP g4 ((k1.tr k3).tr (k4.mo (fun a k z => Or.inl z.1))) ⟨?_, ?_, ⟨?_, ?_, ?_⟩, fun _ => ⟨h7, h4, h5, h6, h9⟩, fun z => absurd rfl z⟩)
      · rw [k4.1 _ _ (by omega), e3, gI_ne (by omega), e2, gI_eq]; rfl
      · rw [k4.1 _ _ (by omega), e3, gI_eq]; rfl
      · rw [k4.1 _ _ (by omega), e3, gI_ne (by omega), e2, gI_ne (by omega), h0 0 (by omega)]; rfl
      · rw [k4.1 _ _ (by omega), e3, gI_ne (by omega), e2, gI_ne (by omega), h0 1 (by omega)]; rfl
      · rw [k4.1 _ _ (by omega), e3, gI_ne (by omega), e2, gI_ne (by omega), h0 2 (by omega)]; rfl
    | succ t ih =>
      intro k g1 hk k1 h0
      refine uX7_start_2 g1 _ ⟨⟨by omega, by omega⟩, fun z => by omega, fun _ => ⟨by omega, by omega, fun g2 e2 => ?_⟩⟩
      rw [Int.toNat_natCast] at e2
      refine ih (k + 1) g2 (by omega) (k1.tr (by rw [e2]; exact Kx.st (Or.inr rfl))) (fun j hj => ?_)
      by_cases c : j = k
      · rw [c, e2, gI_eq]
      · rw [e2, gI_ne (by omega)]; exact h0 j (by omega)
  exact uX7_start g (loop 3 0 g (by omega) Kx.rf (fun j hj => absurd hj (Nat.not_lt_zero _)))
theorem X_flt9 (hW : WFA A) {g0 : GS} (hR0 : RepX A g0) : ∀ (t p : Nat) (q : QQ) (g : GS), p + t = pN A → Kx SR g0 g → RdX (pC A) q p p g → WFQ p q → (∀ g', Kx SR g0 g' → ((rRun (pC A) t p q).1 = pN A → RdX (pC A) (rRun (pC A) t p q).2 (pN A) (pN A) g') → P ((rRun (pC A) t p q).1 : Int) g') → XXi mX9_fault 9 [some (vr 0), some (vi (p : Int))] [] g P := by
  have hn := hW.1
  intro t
  induction t with
  | zero =>
    intro p q g hp hk hr hw hP
    have hp : p = pN A := by omega
    subst hp
    refine uX9_fault_9 g _ ?_
    rw [(hR0.kR hW hk).1.1]
    exact ⟨⟨by omega, by omega⟩, ⟨by omega, by omega⟩, fun _ => hP g hk (fun _ => hr), fun z => by omega⟩
  | succ t ih =>
    intro p q g hp hk hr hw hP
    have hX := (hR0.kR hW hk).1
    obtain ⟨c1, c2⟩ := hW.2.1 p (by omega)
    refine uX9_fault_9 g _ ?_
    rw [hX.1, Int.toNat_natCast, hX.2.1 p (by omega)]
    refine ⟨⟨by omega, by omega⟩, ⟨by omega, by omega⟩, fun z => by omega, fun _ => ⟨by omega, by omega, ?_⟩⟩
    rw [rRun] at hP
    refine X_takes hr hw rfl ⟨by omega, by omega⟩ (fun q' e g' hr' hk' => ?_) (fun e => ?_)
    · rw [e] at hP
      refine ⟨⟨by decide, by decide⟩, fun _ => ?_, fun z => absurd z (by decide)⟩
      exact ih (p + 1) q' g' (by omega) (hk.tr hk') hr' (WFQ_S hw e) hP
    · rw [e] at hP
      exact ⟨rng_0, fun z => absurd rfl z, fun _ => hP g hk (fun z => by exfalso; have z : p = pN A := z; omega)⟩
theorem X_fault (hR : RepX A g) (hW : WFA A) (hP : ∀ g', Kx SR g g' → ((sRd A).1 = pN A → RdX (pC A) (sRd A).2 (pN A) (pN A) g') → P ((sRd A).1 : Int) g') : MXi mX9_fault [vr 0] g P :=
  uX9_fault g (X_start (C := pC A) (fun g1 k1 h1 => X_flt9 hW hR (pN A) 0 q0 g1 (by omega) k1 h1 WFQ_0 hP))
theorem K_fault (hR : RepX A g) (hW : WFA A) (hP : ∀ g', RepX A g' → P ((sRd A).1 : Int) g') : MXi mX9_fault [vr 0] g P := X_fault hR hW (fun g' k _ => hP g' (hR.kR hW k))
end XA1
/-! the table of costs, two rows at a time -/
def soV (c : Int) : Int := (by40.getD (c - 97).toNat 0).toInt
def SoOK : Prop := ∀ (g : GS) (c : Int) (P : Int → GS → Prop), (97 ≤ c ∧ c ≤ 122) → P (soV c) g → MXi mX4_soundOf [vi c] g P
theorem so_iff0 : ∀ a, a < 26 → ∀ b, b < 26 → (soV ((97 + a : Nat) : Int) = soV ((97 + b : Nat) : Int) ↔ sG ((97 + a : Nat) : Int) = sG ((97 + b : Nat) : Int)) := by decide +kernel
theorem so_iff {c d : Int} (hc : 97 ≤ c ∧ c ≤ 122) (hd : 97 ≤ d ∧ d ≤ 122) : soV c = soV d ↔ sG c = sG d := by
  have := so_iff0 (c - 97).toNat (by omega) (d - 97).toNat (by omega)
  rw [show ((97 + (c - 97).toNat : Nat) : Int) = c by omega, show ((97 + (d - 97).toNat : Nat) : Int) = d by omega] at this
  exact this
def KD (g g' : GS) : Prop := (∀ a k, a ≠ 6 → a ≠ 7 → g'.1 a k = g.1 a k) ∧ g'.2.1 = g.2.1 ∧ NmX g'
theorem NmX.of {g : GS} (h : NmX g) : (g.2.2 0 = 6 ∨ g.2.2 0 = 7) ∧ (g.2.2 1 = 6 ∨ g.2.2 1 = 7) ∧ g.2.2 0 ≠ g.2.2 1 := by rcases h with ⟨a, b⟩ | ⟨a, b⟩ <;> rw [a, b] <;> decide
section XA2
variable {P : Int → GS → Prop} {g : GS}
theorem X_cost {c d : Int} (hS : SoOK) (hc : 97 ≤ c ∧ c ≤ 122) (hd : 97 ≤ d ∧ d ≤ 122) (hP : P (sC c d) g) : MXi mX4_costOfMaking [vi c, vi d] g P := by
  refine uX4_costOfMaking g c d ⟨⟨by omega, by omega⟩, ⟨by omega, by omega⟩, fun z => ?_, fun z => ?_⟩
  · refine hS g c _ hc (hS g d _ hd ⟨rng_of _, rng_of _, fun y => ?_, fun y => ?_⟩)
    · unfold sC at hP
      rw [if_neg z, if_neg (fun x => y ((so_iff hc hd).2 x))] at hP
      exact hP
    · unfold sC at hP
      rw [if_neg z, if_pos ((so_iff hc hd).1 y)] at hP
      exact hP
  · unfold sC at hP
    rw [if_pos z] at hP
    exact hP
/-- the names of two entries, as they lie -/
def TwX (s1 s2 l1 l2 : Nat) (u v : Nat → Int) (g : GS) : Prop := g.1 (11 + 3 * s1) 3 = (l1 : Int) ∧ g.1 (11 + 3 * s2) 3 = (l2 : Int) ∧ (∀ k, k < l1 → g.1 (12 + 3 * s1) k = u k) ∧ (∀ k, k < l2 → g.1 (12 + 3 * s2) k = v k)
theorem TwX.kd {s1 s2 l1 l2 : Nat} {u v : Nat → Int} {g g' : GS} (h : TwX s1 s2 l1 l2 u v g) (hk : KD g g') : TwX s1 s2 l1 l2 u v g' := by
  obtain ⟨h1, h2, h3, h4⟩ := h
  exact ⟨by rw [hk.1 _ _ (by omega) (by omega)]; exact h1, by rw [hk.1 _ _ (by omega) (by omega)]; exact h2, fun k hk2 => by rw [hk.1 _ _ (by omega) (by omega)]; exact h3 k hk2, fun k hk2 => by rw [hk.1 _ _ (by omega) (by omega)]; exact h4 k hk2⟩
theorem KD.st {g0 g : GS} {a k : Nat} {x : Int} (h : KD g0 g) (ha : a = 6 ∨ a = 7) : KD g0 (gI g a k x) := ⟨fun b j h1 h2 => by rw [gI_ne (by omega)]; exact h.1 b j h1 h2, h.2.1, h.2.2⟩
theorem X_di67 (hS : SoOK) {s1 s2 l1 l2 i : Nat} {u v : Nat → Int} (h1 : s1 < 18) (h2 : s2 < 18) (hl1 : l1 ≤ 8) (hl2 : l2 ≤ 8) (hu : ∀ k, k < l1 → 97 ≤ u k ∧ u k ≤ 122) (hv : ∀ k, k < l2 → 97 ≤ v k ∧ v k ≤ 122) (hi : i < l1) {g0 : GS} (hT : TwX s1 s2 l1 l2 u v g0) (hP : ∀ g', KD g0 g' → (∀ k, k ≤ l2 → g'.1 (g'.2.2 1) k = sD u v (i + 1) k) → XXi mX4_distance 27 [some (vr 5), some (vr (11 + 3 * s1)), some (vr (11 + 3 * s2)), some (vi (((i + 1 : Nat) : Int) + 1)), none, none, none] [] g' P) : ∀ (t j : Nat) (g : GS), j + t = l2 → KD g0 g → (∀ k, k ≤ l2 → g.1 (g.2.2 0) k = sD u v i k) → (∀ k, k ≤ j → g.1 (g.2.2 1) k = sD u v (i + 1) k) → XXi mX4_distance 67 [some (vr 5), some (vr (11 + 3 * s1)), some (vr (11 + 3 * s2)), some (vi ((i + 1 : Nat) : Int)), none, some (vi ((j + 1 : Nat) : Int)), none] [] g P := by
  intro t
  induction t with
  | zero =>
    intro j g hj hk ha hr
    have hj : j = l2 := by omega
    subst hj
    have hT2 := hT.kd hk
    refine uX4_distance_67 g s1 h1 s2 h2 _ _ ?_
    rw [hT2.2.1]
    exact ⟨⟨by omega, by omega⟩, ⟨by omega, by omega⟩, fun _ => hP g hk hr, fun z => by omega⟩
  | succ t ih =>
    intro j g hj hk ha hr
    have hT2 := hT.kd hk
    obtain ⟨n0, n1, n2⟩ := hk.2.2.of
    have b1 := sD_b u v i j
    have b2 := sD_b u v i (j + 1)
    have b3 := sD_b u v (i + 1) j
    have b4 := sC_b (u i) (v j)
    refine uX4_distance_67 g s1 h1 s2 h2 _ _ ?_
    rw [hT2.2.1, show ((j + 1 : Nat) : Int) - 1 = (j : Int) by omega, show ((i + 1 : Nat) : Int) - 1 = (i : Int) by omega]
    simp only [Int.toNat_natCast]
    rw [hT2.2.2.1 i hi, hT2.2.2.2 j (by omega), ha j (by omega)]
    refine ⟨⟨by omega, by omega⟩, ⟨by omega, by omega⟩, fun z => by omega, fun _ => ⟨n0, by omega, by omega, by omega, by omega, by omega, ?_⟩⟩
    refine X_cost hS (hu i hi) (hv j (by omega)) ?_
    rw [ha (j + 1) (by omega), hr j (Nat.le_refl _)]
    refine ⟨n1, n0, by omega, by omega, ⟨by omega, by omega⟩, ⟨by omega, by omega⟩, ⟨by omega, by omega⟩, ⟨by omega, by omega⟩, fun g2 e2 => ?_⟩
    have q2 : g2.2 = g.2 := by rw [e2]; rfl
    refine ih (j + 1) g2 (by omega) (by rw [e2]; exact hk.st n1) (fun k hkl => ?_) (fun k hkl => ?_)
    · rw [q2, e2, gI_ne (fun z => n2 z.1)]; exact ha k hkl
    · rw [q2]
      by_cases c : k = j + 1
      · rw [c, e2, gI_eq, sD_ss]; omega
      · rw [e2, gI_ne (fun z => c z.2)]; exact hr k (by omega)
theorem X_di27 (hS : SoOK) {s1 s2 l1 l2 : Nat} {u v : Nat → Int} (h1 : s1 < 18) (h2 : s2 < 18) (hl1 : l1 ≤ 8) (hl2 : l2 ≤ 8) (hu : ∀ k, k < l1 → 97 ≤ u k ∧ u k ≤ 122) (hv : ∀ k, k < l2 → 97 ≤ v k ∧ v k ≤ 122) {g0 : GS} (hT : TwX s1 s2 l1 l2 u v g0) (hP : ∀ g', KD g0 g' → P (sD u v l1 l2) g') : ∀ (t i : Nat) (g : GS), i + t = l1 → KD g0 g → (∀ k, k ≤ l2 → g.1 (g.2.2 1) k = sD u v i k) → XXi mX4_distance 27 [some (vr 5), some (vr (11 + 3 * s1)), some (vr (11 + 3 * s2)), some (vi ((i : Int) + 1)), none, none, none] [] g P := by
  intro t
  induction t with
  | zero =>
    intro i g hi hk hr
    have hi : i = l1 := by omega
    subst hi
    have hT2 := hT.kd hk
    obtain ⟨n0, n1, n2⟩ := hk.2.2.of
    refine uX4_distance_27 g s1 h1 s2 h2 _ ?_
    rw [hT2.1, hT2.2.1]
    simp only [Int.toNat_natCast]
    rw [hr l2 (Nat.le_refl _)]
    exact ⟨⟨by omega, by omega⟩, ⟨by omega, by omega⟩, fun _ => ⟨n1, by omega, by omega, hP g hk⟩, fun z => by omega⟩
  | succ t ih =>
    intro i g hi hk hr
    have hT2 := hT.kd hk
    obtain ⟨n0, n1, n2⟩ := hk.2.2.of
    refine uX4_distance_27 g s1 h1 s2 h2 _ ?_
    rw [hT2.1]
    refine ⟨⟨by omega, by omega⟩, ⟨by omega, by omega⟩, fun z => by omega, fun _ => ⟨n0, n1, fun g1 e1 g2 e2 => ?_⟩⟩
    have q0 : g2.2.2 0 = g.2.2 1 := by rw [e2, e1]; rfl
    have q1 : g2.2.2 1 = g.2.2 0 := by rw [e2, e1]; rfl
    have f2 : g2.1 = g.1 := by rw [e2, e1]; rfl
    refine ⟨by rw [q1]; exact n0, fun g3 e3 => ?_⟩
    have q3 : g3.2 = g2.2 := by rw [e3]; rfl
    have k3 : KD g0 g3 := by
      refine ⟨fun a k h6 h7 => ?_, ?_, ?_⟩
      · rw [e3, gI_ne (by rw [q1]; omega), f2]; exact hk.1 a k h6 h7
      · rw [q3, e2, e1]; exact hk.2.1
      · unfold NmX
        rw [q3, q0, q1]
        have := hk.2.2
        unfold NmX at this
        omega
    rw [show (0 : Int).toNat = 0 from rfl, q1] at e3
    refine X_di67 hS h1 h2 hl1 hl2 hu hv (show i < l1 by omega) hT (fun g4 k4 r4 => ih (i + 1) g4 (by omega) k4 r4) l2 0 g3 (by omega) k3 (fun k hkl => ?_) (fun k hkl => ?_)
    · rw [q3, q0, e3, gI_ne (fun z => n2 z.1.symm), f2]; exact hr k hkl
    · have : k = 0 := by omega
      subst this
      rw [q3, q1, e3, gI_eq, sD_s0]
theorem X_dist0 (hS : SoOK) {s1 s2 l1 l2 : Nat} {u v : Nat → Int} (h1 : s1 < 18) (h2 : s2 < 18) (hl1 : l1 ≤ 8) (hl2 : l2 ≤ 8) (hu : ∀ k, k < l1 → 97 ≤ u k ∧ u k ≤ 122) (hv : ∀ k, k < l2 → 97 ≤ v k ∧ v k ≤ 122) (hN : NmX g) (hT : TwX s1 s2 l1 l2 u v g) (hP : ∀ g', KD g g' → P (sD u v l1 l2) g') : MXi mX4_distance [vr 5, vr (11 + 3 * s1), vr (11 + 3 * s2)] g P := by
  have loop : ∀ (t j : Nat) (g1 : GS), j + t = l2 + 1 → KD g g1 → (∀ k, k < j → g1.1 (g1.2.2 1) k = 2 * (k : Int)) → XXi mX4_distance 2 [some (vr 5), some (vr (11 + 3 * s1)), some (vr (11 + 3 * s2)), some (vi (j : Int)), none, none, none] [] g1 P := by
    intro t
    induction t with
    | zero =>
      intro j g1 hj hk hr
      have hT2 := hT.kd hk
      refine uX4_distance_2 g1 s1 h1 s2 h2 _ ?_
      rw [hT2.2.1]
      refine ⟨⟨by omega, by omega⟩, ⟨by omega, by omega⟩, fun _ => X_di27 hS h1 h2 hl1 hl2 hu hv hT hP l1 0 g1 (by omega) hk (fun k hkl => by rw [sD_0]; exact hr k (by omega)), fun z => by omega⟩
    | succ t ih =>
      intro j g1 hj hk hr
      have hT2 := hT.kd hk
      obtain ⟨n0, n1, n2⟩ := hk.2.2.of
      refine uX4_distance_2 g1 s1 h1 s2 h2 _ ?_
      rw [hT2.2.1]
      simp only [Int.toNat_natCast]
      refine ⟨⟨by omega, by omega⟩, ⟨by omega, by omega⟩, fun z => by omega, fun _ => ⟨n1, by omega, by omega, fun g2 e2 => ?_⟩⟩
      have q2 : g2.2 = g1.2 := by rw [e2]; rfl
      refine ih (j + 1) g2 (by omega) (by rw [e2]; exact hk.st n1) (fun k hkl => ?_)
      rw [q2]
      by_cases c : k = j
      · rw [c, e2, gI_eq]
      · rw [e2, gI_ne (fun z => c z.2)]; exact hr k (by omega)
  exact uX4_distance g s1 h1 s2 h2 (loop (l2 + 1) 0 g (by omega) ⟨fun _ _ _ _ => rfl, rfl, hN⟩ (fun k hk => absurd hk (Nat.not_lt_zero _)))
end XA2

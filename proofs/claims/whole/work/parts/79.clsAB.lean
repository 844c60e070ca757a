/-! the class: an entry is read from the page and added to the register -/
def setN (G : EE) (n : Nat) : EE := (n, G.2)
section XAB
variable {P : GS → Prop} {G : EE} {g : GS}
theorem X_read {s L st : Nat} {w : Nat → Int} (hs : s < 18) (hL : g.1 3 4 = (L : Int)) (hL8 : L ≤ 8) (hst : g.1 3 3 = (st : Int)) (hp : (st + L : Int) ≤ g.1 1 1) (hp6 : g.1 1 1 ≤ 60) (hw : ∀ j, j < L → g.1 2 (st + j) = w j) (hP : ∀ g', Kx (fun a k => (a = 11 + 3 * s ∧ 3 ≤ k ∧ k ≤ 7) ∨ a = 12 + 3 * s) g g' → g'.1 (11 + 3 * s) 4 = g.1 3 2 → g'.1 (11 + 3 * s) 5 = g.1 3 5 → g'.1 (11 + 3 * s) 6 = g.1 3 6 → g'.1 (11 + 3 * s) 7 = 0 → g'.1 (11 + 3 * s) 3 = (L : Int) → (∀ j, j < L → g'.1 (12 + 3 * s) j = w j) → P g') : MXv mX0_read [vr (11 + 3 * s), vr 1, vr 3] g P := by
  have st1 : ∀ (r : GS) (j : Nat) (v : Int), (3 ≤ j ∧ j ≤ 7) → Kx (fun a k => (a = 11 + 3 * s ∧ 3 ≤ k ∧ k ≤ 7) ∨ a = 12 + 3 * s) r (gI r (11 + 3 * s) j v) := fun r j v h => Kx.st (S := fun a k => (a = 11 + 3 * s ∧ 3 ≤ k ∧ k ≤ 7) ∨ a = 12 + 3 * s) (Or.inl ⟨rfl, h⟩)
  have st2 : ∀ (r : GS) (j : Nat) (v : Int), Kx (fun a k => (a = 11 + 3 * s ∧ 3 ≤ k ∧ k ≤ 7) ∨ a = 12 + 3 * s) r (gI r (12 + 3 * s) j v) := fun r j v => Kx.st (S := fun a k => (a = 11 + 3 * s ∧ 3 ≤ k ∧ k ≤ 7) ∨ a = 12 + 3 * s) (Or.inr rfl)
  have loop : ∀ (t x : Nat) (g1 : GS), x + t = L → Kx (fun a k => (a = 11 + 3 * s ∧ 3 ≤ k ∧ k ≤ 7) ∨ a = 12 + 3 * s) g g1 → g1.1 (11 + 3 * s) 4 = g.1 3 2 → g1.1 (11 + 3 * s) 5 = g.1 3 5 → g1.1 (11 + 3 * s) 6 = g.1 3 6 → g1.1 (11 + 3 * s) 7 = 0 → g1.1 (11 + 3 * s) 3 = (x : Int) → (∀ j, j < x → g1.1 (12 + 3 * s) j = w j) → XXv mX0_read 36 [some (vr (11 + 3 * s)), some (vr 1), some (vr 3), some (vi (x : Int))] [] g1 P := by
    intro t
    induction t with
    | zero =>
      intro x g1 hx hk h4 h5 h6 h7 h3 hn
      have hx : x = L := by omega
      subst hx
      refine uX0_read_36 g1 s hs _ ?_
      rw [hk.1 3 4 (by omega), hL]
      exact ⟨⟨by omega, by omega⟩, ⟨by omega, by omega⟩, fun _ => hP g1 hk h4 h5 h6 h7 h3 hn, fun z => by omega⟩
    | succ t ih =>
      intro x g1 hx hk h4 h5 h6 h7 h3 hn
      refine uX0_read_36 g1 s hs _ ?_
      rw [hk.1 3 4 (by omega), hL, hk.1 3 3 (by omega), hst, hk.1 1 1 (by omega)]
      rw [show (st : Int) + (x : Int) = ((st + x : Nat) : Int) by omega]
      simp only [Int.toNat_natCast]
      refine ⟨⟨by omega, by omega⟩, ⟨by omega, by omega⟩, fun z => by omega, fun _ => ⟨⟨by omega, by omega⟩, ⟨by omega, by omega⟩, fun z => by omega, fun _ => ⟨by omega, by omega, by omega, by omega, fun g2 e2 g3 e3 => ?_⟩⟩⟩
      rw [hk.1 2 _ (by omega), hw x (by omega)] at e2
      refine ih (x + 1) g3 (by omega) (hk.tr (by rw [e3, e2]; exact (st2 _ _ _).tr (st1 _ _ _ (by omega)))) ?_ ?_ ?_ ?_ ?_ (fun j hj => ?_)
      · rw [e3, gI_ne (by omega), e2, gI_ne (by omega)]; exact h4
      · rw [e3, gI_ne (by omega), e2, gI_ne (by omega)]; exact h5
      · rw [e3, gI_ne (by omega), e2, gI_ne (by omega)]; exact h6
      · rw [e3, gI_ne (by omega), e2, gI_ne (by omega)]; exact h7
      · rw [e3, gI_eq, e2, gI_ne (by omega), h3]; rfl
      · rw [e3, gI_ne (by omega), e2]
        by_cases c : j = x
        · rw [c, gI_eq]
        · rw [gI_ne (by omega)]; exact hn j (by omega)
  refine uX0_read g s hs (fun g1 e1 g2 e2 g3 e3 g4 e4 g5 e5 => ?_)
  rw [e1, gI_ne (by omega), ← e1] at e2
  rw [e2, gI_ne (by omega), e1, gI_ne (by omega), ← e1, ← e2] at e3
  refine loop L 0 g5 (by omega) ?_ ?_ ?_ ?_ ?_ ?_ (fun j hj => absurd hj (Nat.not_lt_zero _))
  · rw [e5, e4, e3, e2, e1]
    exact ((((st1 _ _ _ (by omega)).tr (st1 _ _ _ (by omega))).tr (st1 _ _ _ (by omega))).tr (st1 _ _ _ (by omega))).tr (st1 _ _ _ (by omega))
  · rw [e5, gI_ne (by omega), e4, gI_ne (by omega), e3, gI_ne (by omega), e2, gI_ne (by omega), e1, gI_eq]
  · rw [e5, gI_ne (by omega), e4, gI_ne (by omega), e3, gI_ne (by omega), e2, gI_eq]
  · rw [e5, gI_ne (by omega), e4, gI_ne (by omega), e3, gI_eq]
  · rw [e5, gI_ne (by omega), e4, gI_eq]
  · rw [e5, gI_eq]; rfl
/-- what the distances of the entry with slot sn may have changed -/
def SDn (sn a k : Nat) : Prop := a = 6 ∨ a = 7 ∨ a = 13 + 3 * sn ∨ (13 ≤ a ∧ a < 67 ∧ a % 3 = 1 ∧ k = sn)
def AdX (G : EE) (n sn x : Nat) (π : Nat → Nat) (g g1 : GS) : Prop := (∀ a k, ¬ SDn sn a k → g1.1 a k = g.1 a k) ∧ g1.2.1 = g.2.1 ∧ NmX g1 ∧ (∀ j, j < x → g1.1 (13 + 3 * sn) (π j) = sDi G n j ∧ g1.1 (13 + 3 * π j) sn = sDi G j n)
theorem X_add31 (hS : SoOK) {n : Nat} (hn : n < 18) (hl : ∀ i, i ≤ n → (1 ≤ eL G i ∧ eL G i ≤ 8) ∧ (∀ k : Nat, (k : Int) < eL G i → 97 ≤ eW G i k ∧ eW G i k ≤ 122)) {g : GS} (h82 : g.1 8 2 = (n : Int)) (hr : ∀ i, i < 18 → g.2.1 i < 18) (hj : ∀ i j, i < 18 → j < 18 → g.2.1 i = g.2.1 j → i = j) (hsl : ∀ s, s < 18 → g.1 (11 + 3 * s) 0 = (s : Int)) (hrow : ∀ i, i ≤ n → g.1 (sE g i) 3 = eL G i ∧ (∀ k : Nat, (k : Int) < eL G i → g.1 (12 + 3 * g.2.1 i) k = eW G i k)) (hk : 0 ≤ g.1 (sE g n) 4 ∧ g.1 (sE g n) 4 < 3) (hP : ∀ g1, AdX G n (g.2.1 n) n g.2.1 g g1 → ∀ g2, g2 = gI g1 10 (g1.1 (sE g n) 4).toNat ((g1.1 10 (g1.1 (sE g n) 4).toNat) + 1) → ∀ g3, g3 = gI g2 8 2 ((g2.1 8 2) + 1) → P g3) : ∀ (t x : Nat) (g1 : GS), x + t = n → AdX G n (g.2.1 n) x g.2.1 g g1 → XXv mX8_add 31 [some (vr 8), none, none, some (vr 5), some (vr (sE g n)), some (vi (x : Int)), none, none] [] g1 P := by
  have hsn := hr n hn
  intro t
  induction t with
  | zero =>
    intro x g1 hx hA
    have hx : x = n := by omega
    subst hx
    have v4 : g1.1 (11 + 3 * g.2.1 x) 4 = g.1 (sE g x) 4 := by rw [hA.1 _ _ (by unfold SDn; omega)]
    refine uX8_add_31 g1 _ hsn _ ?_
    rw [hA.1 8 2 (by unfold SDn; omega), h82]
    refine ⟨⟨by omega, by omega⟩, ⟨by omega, by omega⟩, fun _ => ⟨?_, ?_, fun g2 e2 g3 e3 => hP g1 hA g2 e2 g3 e3⟩, fun z => by omega⟩
    · rw [v4]; exact hk.1
    · rw [v4]; exact hk.2
  | succ t ih =>
    intro x g1 hx hA
    obtain ⟨a1, a2, a3, a4⟩ := hA
    have hxn : x < n := by omega
    have hsx := hr x (by omega)
    have hne : g.2.1 x ≠ g.2.1 n := fun z => by have := hj x n (by omega) hn z; omega
    obtain ⟨⟨l1, l2⟩, l3⟩ := hl n (Nat.le_refl _)
    obtain ⟨⟨m1, m2⟩, m3⟩ := hl x (by omega)
    obtain ⟨r1, r2⟩ := hrow n (Nat.le_refl _)
    obtain ⟨s1, s2⟩ := hrow x (by omega)
    unfold sE at r1 s1
    refine uX8_add_31 g1 _ hsn _ ?_
    rw [a1 8 2 (by unfold SDn; omega), h82]
    simp only [Int.toNat_natCast]
    rw [a2]
    refine ⟨⟨by omega, by omega⟩, ⟨by omega, by omega⟩, fun z => by omega, fun _ => ⟨by omega, by omega, hsx, ?_⟩⟩
    refine X_dist0 hS (l1 := (eL G n).toNat) (l2 := (eL G x).toNat) (u := eW G n) (v := eW G x) hsn hsx (by omega) (by omega) (fun k hk => l3 k (by omega)) (fun k hk => m3 k (by omega)) a3 ⟨?_, ?_, fun k hk => ?_, fun k hk => ?_⟩ (fun g2 hk2 => ?_)
    · rw [a1 _ _ (by unfold SDn; omega), r1]; omega
    · rw [a1 _ _ (by unfold SDn; omega), s1]; omega
    · rw [a1 _ _ (by unfold SDn; omega)]; exact r2 k (by omega)
    · rw [a1 _ _ (by unfold SDn; omega)]; exact s2 k (by omega)
    · have w0 : g2.1 (11 + 3 * g.2.1 x) 0 = (g.2.1 x : Int) := by rw [hk2.1 _ _ (by omega) (by omega), a1 _ _ (by unfold SDn; omega)]; exact hsl _ hsx
      rw [w0]
      simp only [Int.toNat_natCast]
      refine ⟨by omega, by omega, fun g3 e3 => ?_⟩
      have w1 : g3.1 (11 + 3 * g.2.1 n) 0 = (g.2.1 n : Int) := by rw [e3, gI_ne (by omega), hk2.1 _ _ (by omega) (by omega), a1 _ _ (by unfold SDn; omega)]; exact hsl _ hsn
      rw [w1]
      simp only [Int.toNat_natCast]
      refine ⟨by omega, by omega, fun g4 e4 => ?_⟩
      refine ih (x + 1) g4 (by omega) ⟨fun a k hak => ?_, ?_, ?_, fun j hj2 => ?_⟩
      · unfold SDn at hak
        rw [e4, gI_ne (by omega), e3, gI_ne (by omega), hk2.1 _ _ (by omega) (by omega)]
        exact a1 a k (by unfold SDn; omega)
      · rw [e4, e3]; show g2.2.1 = _; rw [hk2.2.1, a2]
      · rw [e4, e3]; exact hk2.2.2
      · by_cases c : j = x
        · subst c
          refine ⟨?_, ?_⟩
          · rw [e4, gI_ne (by omega), e3, gI_eq]; rfl
          · rw [e4, gI_eq, sDi_sym]; rfl
        · obtain ⟨b1, b2⟩ := a4 j (by omega)
          have hsj := hr j (by omega)
          have hjx : g.2.1 j ≠ g.2.1 x := fun z => c (hj j x (by omega) (by omega) z)
          have hjn : g.2.1 j ≠ g.2.1 n := fun z => by have := hj j n (by omega) hn z; omega
          refine ⟨?_, ?_⟩
          · rw [e4, gI_ne (by omega), e3, gI_ne (by omega), hk2.1 _ _ (by omega) (by omega)]; exact b1
          · rw [e4, gI_ne (by omega), e3, gI_ne (by omega), hk2.1 _ _ (by omega) (by omega)]; exact b2
/-- what adding keeps -/
def AdK (g g' : GS) : Prop := (∀ a k, (a = 0 ∨ a = 1 ∨ a = 2 ∨ a = 3 ∨ a = 4 ∨ (a = 8 ∧ k = 3)) → g'.1 a k = g.1 a k) ∧ NmX g'
theorem cK_set {n m : Nat} (k : Int) : ∀ x, cK (setN G n) k x = cK (setN G m) k x := fun x => cK_cg (E := setN G m) (F := setN G n) k (fun _ => rfl) x
theorem X_add (hS : SoOK) {n st : Nat} (hn : n < 18) (hR : RegX (setN G n) g) (hN : NmX g) (hl : ∀ i, i ≤ n → (1 ≤ eL G i ∧ eL G i ≤ 8) ∧ (∀ k : Nat, (k : Int) < eL G i → 97 ≤ eW G i k ∧ eW G i k ≤ 122)) (hk3 : eK G n = 0 ∨ eK G n = 1 ∨ eK G n = 2) (hp1 : ∀ i j, i ≤ n → j ≤ n → i = n ∨ j = n → eP G i j = false) (r2 : g.1 3 2 = eK G n) (r3 : g.1 3 3 = (st : Int)) (r4 : g.1 3 4 = eL G n) (r5 : g.1 3 5 = eY G n) (r6 : g.1 3 6 = eA G n) (hpg : (st : Int) + eL G n ≤ g.1 1 1) (hp6 : g.1 1 1 ≤ 60) (hw : ∀ j : Nat, (j : Int) < eL G n → g.1 2 (st + j) = eW G n j) (hP : ∀ g', RegX (setN G (n + 1)) g' → AdK g g' → P g') : MXv mX8_add [vr 8, vr 1, vr 3, vr 5] g P := by
  obtain ⟨h1, h2, h3, h4, h5, h6, h7, h8, h9⟩ := hR
  have h1 : g.1 8 2 = (n : Int) := h1
  have hsn := h2 n hn
  obtain ⟨⟨l1, l2⟩, l3⟩ := hl n (Nat.le_refl _)
  refine uX8_add g ?_
  rw [h1]
  simp only [Int.toNat_natCast]
  refine ⟨⟨by omega, by omega⟩, fun _ => ⟨by omega, by omega, hsn, ?_⟩, fun z => by omega⟩
  refine X_read (L := (eL G n).toNat) (st := st) (w := eW G n) hsn (by rw [r4]; omega) (by omega) r3 (by omega) hp6 (fun j hj => hw j (by omega)) (fun g1 k1 q4 q5 q6 q7 q3 qn => ?_)
  have e1 : g1.2.1 = g.2.1 := congrArg (fun z => z.1) k1.2
  have hq4 : g1.1 (sE g1 n) 4 = eK G n := by unfold sE; rw [e1, q4, r2]
  have old : ∀ i, i < n → g.2.1 i ≠ g.2.1 n := fun i hi z => by have := h3 i n (by omega) hn z; omega
  have hx := X_add31 (P := P) (g := g1) hS hn hl (by rw [k1.1 _ _ (by omega)]; exact h1) (by rw [e1]; exact h2) (by rw [e1]; exact h3) (fun s hs => by rw [k1.1 _ _ (by omega)]; exact h4 s hs) (fun i hi => ?_) (by rw [hq4]; omega) (fun g2 hA g3 e3 g4 e4 => ?_) n 0 g1 (by omega) ⟨fun _ _ _ => rfl, rfl, by unfold NmX; rw [k1.2]; exact hN, fun j hj => absurd hj (Nat.not_lt_zero _)⟩
  · unfold sE at hx
    rw [e1] at hx
    exact hx
  · unfold sE
    rw [e1]
    by_cases c : i = n
    · rw [c]
      exact ⟨by rw [q3]; omega, fun k hk => qn k (by omega)⟩
    · obtain ⟨a1, -, -, -, a5, -⟩ := h5 i (by show i < n; omega)
      have hsi := h2 i (by omega)
      have ho := old i (by omega)
      exact ⟨by rw [k1.1 _ _ (by omega)]; exact a1, fun k hk => by rw [k1.1 _ _ (by omega)]; exact a5 k hk⟩
  · obtain ⟨a1, a2, a3, a4⟩ := hA
    rw [e1] at a1 a4
    rw [e1] at a2
    have v4 : g2.1 (sE g1 n) 4 = eK G n := by rw [a1 _ _ (by unfold SDn sE; rw [e1]; omega)]; exact hq4
    rw [v4] at e3
    have f4 : ∀ a k, ¬ (a = 8 ∧ k = 2) → a ≠ 10 → ¬ SDn (g.2.1 n) a k → ¬ ((a = 11 + 3 * g.2.1 n ∧ 3 ≤ k ∧ k ≤ 7) ∨ a = 12 + 3 * g.2.1 n) → g4.1 a k = g.1 a k := fun a k n1 n2 n3 n4 => by rw [e4, gI_ne n1, e3, gI_ne (fun z => n2 z.1), a1 a k n3, k1.1 a k n4]
    have fr : ∀ k, (3 ≤ k ∧ k ≤ 7) → g4.1 (11 + 3 * g.2.1 n) k = g1.1 (11 + 3 * g.2.1 n) k := fun k hk => by rw [e4, gI_ne (by omega), e3, gI_ne (by omega), a1 _ _ (by unfold SDn; omega)]
    have p4 : g4.2.1 = g.2.1 := by rw [e4, e3]; exact a2
    refine hP g4 ?_ ⟨fun a k h => f4 a k (by omega) (by omega) (by unfold SDn; omega) (by omega), by rw [e4, e3]; exact a3⟩
    unfold RegX RowX sE
    rw [p4]
    refine ⟨?_, h2, h3, fun s hs => by rw [f4 _ _ (by omega) (by omega) (by unfold SDn; omega) (by omega)]; exact h4 s hs, fun i hi => ?_, fun i j hi hj hij => ?_, ?_, ?_, ?_⟩
    · rw [e4, gI_eq, e3, gI_ne (by omega), a1 _ _ (by unfold SDn; omega), k1.1 _ _ (by omega), h1]; rfl
    · have hi : i < n + 1 := hi
      by_cases c : i = n
      · subst c
        refine ⟨by rw [fr 3 (by omega), q3]; show _ = eL G i; omega, by rw [fr 4 (by omega), q4]; exact r2, by rw [fr 5 (by omega), q5]; exact r5, by rw [fr 6 (by omega), q6]; exact r6, fun k hk => ?_, 0, by rw [fr 7 (by omega), q7]; rfl, by decide, fun j hj => ?_⟩
        · have hk : (k : Int) < eL G i := hk
          rw [e4, gI_ne (by omega), e3, gI_ne (by omega), a1 _ _ (by unfold SDn; omega)]
          exact qn k (by omega)
        · rw [Nat.zero_testBit]
          show false = (decide (j < i + 1) && eP G i j)
          by_cases d : j < i + 1
          · rw [hp1 i j (Nat.le_refl _) (by omega) (Or.inl rfl), Bool.and_false]
          · rw [decide_eq_false d, Bool.false_and]
      · obtain ⟨b1, b2, b3, b4, b5, b, b6, b7, b8⟩ := h5 i (by show i < n; omega)
        have hsi := h2 i (by omega)
        have ho := old i (by omega)
        unfold sE at b1 b2 b3 b4 b6
        refine ⟨by rw [f4 _ _ (by omega) (by omega) (by unfold SDn; omega) (by omega)]; exact b1, by rw [f4 _ _ (by omega) (by omega) (by unfold SDn; omega) (by omega)]; exact b2, by rw [f4 _ _ (by omega) (by omega) (by unfold SDn; omega) (by omega)]; exact b3, by rw [f4 _ _ (by omega) (by omega) (by unfold SDn; omega) (by omega)]; exact b4, fun k hk => by rw [f4 _ _ (by omega) (by omega) (by unfold SDn; omega) (by omega)]; exact b5 k hk, b, by rw [f4 _ _ (by omega) (by omega) (by unfold SDn; omega) (by omega)]; exact b6, b7, fun j hj => ?_⟩
        rw [b8 j hj]
        show (decide (j < n) && eP G i j) = (decide (j < n + 1) && eP G i j)
        by_cases d : j = n
        · rw [d, hp1 i n (by omega) (Nat.le_refl _) (Or.inr rfl), Bool.and_false, Bool.and_false]
        · by_cases d2 : j < n
          · rw [decide_eq_true d2, decide_eq_true (show j < n + 1 by omega)]
          · rw [decide_eq_false d2, decide_eq_false (show ¬ j < n + 1 by omega)]
    · have hi : i < n + 1 := hi
      have hj : j < n + 1 := hj
      have hsi := h2 i (by omega)
      have hsj := h2 j (by omega)
      show g4.1 (13 + 3 * g.2.1 i) (g.2.1 j) = sDi G i j
      by_cases c : i = n
      · subst c
        rw [e4, gI_ne (by omega), e3, gI_ne (by omega)]
        exact (a4 j (by omega)).1
      · by_cases d : j = n
        · subst d
          rw [e4, gI_ne (by omega), e3, gI_ne (by omega)]
          exact (a4 i (by omega)).2
        · have hi2 := old i (by omega)
          have hj2 := old j (by omega)
          rw [f4 _ _ (by omega) (by omega) (by unfold SDn; omega) (by omega)]
          exact h6 i j (by show i < n; omega) (by show j < n; omega) hij
    · obtain ⟨kk, ek⟩ : ∃ kk : Nat, eK G n = (kk : Int) := ⟨(eK G n).toNat, by omega⟩
      have hc : cK (setN G (n + 1)) 0 (n + 1) = (if eK G n = 0 then cK (setN G n) 0 n + 1 else cK (setN G n) 0 n) := by rw [cK, cK_set (n := n + 1) (m := n)]; rfl
      show _ = ((cK (setN G (n + 1)) 0 (n + 1) : Nat) : Int)
      rw [hc, e4, gI_ne (by omega), e3, ek, Int.toNat_natCast]
      have h7 : g.1 10 0 = ((cK (setN G n) 0 n : Nat) : Int) := h7
      by_cases z : kk = 0
      · subst z
        rw [gI_eq, if_pos (show ((0 : Nat) : Int) = 0 from rfl), a1 _ _ (by unfold SDn; omega), k1.1 _ _ (by omega), h7]; rfl
      · rw [gI_ne (by omega), if_neg (by omega), a1 _ _ (by unfold SDn; omega), k1.1 _ _ (by omega), h7]
    · obtain ⟨kk, ek⟩ : ∃ kk : Nat, eK G n = (kk : Int) := ⟨(eK G n).toNat, by omega⟩
      have hc : cK (setN G (n + 1)) 1 (n + 1) = (if eK G n = 1 then cK (setN G n) 1 n + 1 else cK (setN G n) 1 n) := by rw [cK, cK_set (n := n + 1) (m := n)]; rfl
      show _ = ((cK (setN G (n + 1)) 1 (n + 1) : Nat) : Int)
      rw [hc, e4, gI_ne (by omega), e3, ek, Int.toNat_natCast]
      have h8 : g.1 10 1 = ((cK (setN G n) 1 n : Nat) : Int) := h8
      by_cases z : kk = 1
      · subst z
        rw [gI_eq, if_pos (show ((1 : Nat) : Int) = 1 from rfl), a1 _ _ (by unfold SDn; omega), k1.1 _ _ (by omega), h8]; rfl
      · rw [gI_ne (by omega), if_neg (by omega), a1 _ _ (by unfold SDn; omega), k1.1 _ _ (by omega), h8]
    · obtain ⟨kk, ek⟩ : ∃ kk : Nat, eK G n = (kk : Int) := ⟨(eK G n).toNat, by omega⟩
      have hc : cK (setN G (n + 1)) 2 (n + 1) = (if eK G n = 2 then cK (setN G n) 2 n + 1 else cK (setN G n) 2 n) := by rw [cK, cK_set (n := n + 1) (m := n)]; rfl
      show _ = ((cK (setN G (n + 1)) 2 (n + 1) : Nat) : Int)
      rw [hc, e4, gI_ne (by omega), e3, ek, Int.toNat_natCast]
      have h9 : g.1 10 2 = ((cK (setN G n) 2 n : Nat) : Int) := h9
      by_cases z : kk = 2
      · subst z
        rw [gI_eq, if_pos (show ((2 : Nat) : Int) = 2 from rfl), a1 _ _ (by unfold SDn; omega), k1.1 _ _ (by omega), h9]; rfl
      · rw [gI_ne (by omega), if_neg (by omega), a1 _ _ (by unfold SDn; omega), k1.1 _ _ (by omega), h9]
end XAB

/-! the class: strike -/
theorem cK_gone {E : EE} {e : Nat} (k : Int) : ∀ n, cK (eStr E e) k n = if n ≤ e then cK E k n else cK E k (n + 1) - (if eK E e = k then 1 else 0) := by
  intro n
  induction n with
  | zero => rw [if_pos (Nat.zero_le _)]; rfl
  | succ n ih =>
    have h1 : ∀ m, cK E k (m + 1) = (if eK E m = k then cK E k m + 1 else cK E k m) := fun _ => rfl
    have h0 : cK (eStr E e) k (n + 1) = (if eK E (sh e n) = k then cK (eStr E e) k n + 1 else cK (eStr E e) k n) := rfl
    rw [h0, ih]
    by_cases c : n < e
    · rw [show sh e n = n by unfold sh; rw [if_pos c], if_pos (show n ≤ e by omega), if_pos (show n + 1 ≤ e by omega), h1]
    · rw [show sh e n = n + 1 by unfold sh; rw [if_neg c]]
      by_cases d : n = e
      · subst d
        rw [if_pos (Nat.le_refl n), if_neg (show ¬ n + 1 ≤ n by omega), h1 (n + 1), h1 n]
        by_cases x : eK E n = k
        · rw [if_pos x, if_pos x]; split <;> omega
        · rw [if_neg x, if_neg x]; split <;> omega
      · rw [if_neg (show ¬ n ≤ e by omega), if_neg (show ¬ n + 1 ≤ e by omega), h1 (n + 1)]
        have hm : cK E k (e + 1) ≤ cK E k (n + 1) := cK_mono E k (by omega)
        have he := h1 e
        by_cases x : eK E e = k
        · rw [if_pos x] at he
          rw [if_pos x]
          split <;> omega
        · rw [if_neg x]
          split <;> omega
theorem cK_gone1 {E : EE} {e : Nat} (k : Int) (he : e < eN E) : (cK (eStr E e) k (eN E - 1) : Int) = (cK E k (eN E) : Int) - (if eK E e = k then 1 else 0) := by
  have hm : cK E k (e + 1) ≤ cK E k (eN E) := cK_mono E k (by omega)
  have h1 : cK E k (e + 1) = (if eK E e = k then cK E k e + 1 else cK E k e) := rfl
  have h := cK_gone (E := E) (e := e) k (eN E - 1)
  by_cases c : eN E - 1 ≤ e
  · rw [if_pos c] at h
    have hN : eN E = e + 1 := by omega
    rw [h, hN, show e + 1 - 1 = e by omega, h1]
    split <;> omega
  · rw [if_neg c, show eN E - 1 + 1 = eN E by omega] at h
    rw [h]
    split
    next x => rw [if_pos x] at h1; omega
    · omega
/-- the rows when e has gone behind all others -/
def psE (N e : Nat) (π : Nat → Nat) (j : Nat) : Nat := if e ≤ j ∧ j + 1 < N then π (j + 1) else if j + 1 = N then π e else π j
theorem psE_lo {N e : Nat} {π : Nat → Nat} {j : Nat} (hj : j < N - 1) : psE N e π j = π (sh e j) := by
  unfold psE sh
  by_cases c : j < e
  · rw [if_neg (by omega), if_neg (by omega), if_pos c]
  · rw [if_pos (by omega), if_neg c]
theorem psE_inj {N e n : Nat} {π : Nat → Nat} (hN : N ≤ n) (he : e < N) (h : ∀ i j, i < n → j < n → π i = π j → i = j) : ∀ i j, i < n → j < n → psE N e π i = psE N e π j → i = j := by
  intro i j hi hj
  unfold psE
  intro z
  by_cases c1 : e ≤ i ∧ i + 1 < N
  · rw [if_pos c1] at z
    by_cases c2 : e ≤ j ∧ j + 1 < N
    · rw [if_pos c2] at z; have := h _ _ (by omega) (by omega) z; omega
    · rw [if_neg c2] at z
      by_cases c3 : j + 1 = N
      · rw [if_pos c3] at z; have := h _ _ (by omega) (by omega) z; omega
      · rw [if_neg c3] at z; have := h _ _ (by omega) (by omega) z; omega
  · rw [if_neg c1] at z
    by_cases d1 : i + 1 = N
    · rw [if_pos d1] at z
      by_cases c2 : e ≤ j ∧ j + 1 < N
      · rw [if_pos c2] at z; have := h _ _ (by omega) (by omega) z; omega
      · rw [if_neg c2] at z
        by_cases c3 : j + 1 = N
        · omega
        · rw [if_neg c3] at z; have := h _ _ (by omega) (by omega) z; omega
    · rw [if_neg d1] at z
      by_cases c2 : e ≤ j ∧ j + 1 < N
      · rw [if_pos c2] at z; have := h _ _ (by omega) (by omega) z; omega
      · rw [if_neg c2] at z
        by_cases c3 : j + 1 = N
        · rw [if_pos c3] at z; have := h _ _ (by omega) (by omega) z; omega
        · rw [if_neg c3] at z; exact h _ _ hi hj z
theorem psE_lt {N e n : Nat} {π : Nat → Nat} (hN : N ≤ n) (he : e < N) (h : ∀ i, i < n → π i < n) : ∀ i, i < n → psE N e π i < n := by
  intro i hi
  unfold psE
  split
  · exact h _ (by omega)
  · split
    · exact h _ (by omega)
    · exact h _ hi
section XW
variable {P : GS → Prop} {E : EE}
/-- the bit of the gone one is cleared in the rows left -/
def ClX (E : EE) (e x : Nat) (g g1 : GS) : Prop := g1.2 = g.2 ∧ (∀ a k, ¬ (11 ≤ a ∧ a < 65 ∧ a % 3 = 2 ∧ k = 7) → g1.1 a k = g.1 a k) ∧ (∀ i, i < eN E - 1 → ∀ b : Nat, g.1 (sE g i) 7 = (b : Int) → b < 2 ^ 18 → g1.1 (sE g i) 7 = ((if i < x then bClr b e else b : Nat) : Int))
theorem X_rem84 {s : Nat} (hs : s < 18) {g : GS} (h2 : g.1 8 2 = ((eN E - 1 : Nat) : Int)) (hN : eN E ≤ 18) (hr : ∀ i, i < 18 → g.2.1 i < 18) (hj : ∀ i j, i < 18 → j < 18 → g.2.1 i = g.2.1 j → i = j) (hsl : g.1 (11 + 3 * s) 0 = (s : Int)) (hb : ∀ i, i < eN E - 1 → ∃ b : Nat, g.1 (sE g i) 7 = (b : Int) ∧ b < 2 ^ 18) (hP : ∀ g', ClX E s (eN E - 1) g g' → P g') : ∀ (t x : Nat) (g1 : GS), x + t = eN E - 1 → ClX E s x g g1 → XXv mX8_remove 84 [some (vr 8), none, some (vr (11 + 3 * s)), some (vi (x : Int))] [] g1 P := by
  intro t
  induction t with
  | zero =>
    intro x g1 hx hC
    have hx : x = eN E - 1 := by omega
    subst hx
    refine uX8_remove_84 g1 s hs _ ?_
    rw [hC.2.1 8 2 (by omega), h2]
    exact ⟨⟨by omega, by omega⟩, ⟨by omega, by omega⟩, fun _ => hP g1 hC, fun z => by omega⟩
  | succ t ih =>
    intro x g1 hx hC
    have hxN : x < eN E - 1 := by omega
    obtain ⟨c1, c2, c3⟩ := hC
    have q : g1.2.1 = g.2.1 := congrArg (fun z => z.1) c1
    obtain ⟨b, b1, b2⟩ := hb x hxN
    have v := c3 x hxN b b1 b2
    rw [if_neg (Nat.lt_irrefl _)] at v
    have hrx := hr x (by omega)
    unfold sE at v
    refine uX8_remove_84 g1 s hs _ ?_
    rw [c2 8 2 (by omega), h2]
    simp only [Int.toNat_natCast]
    rw [q, v, c2 (11 + 3 * s) 0 (by omega), hsl, b_clear b2 hs]
    refine ⟨⟨by omega, by omega⟩, ⟨by omega, by omega⟩, fun z => by omega, fun _ => ⟨by omega, by omega, hrx, fun g2 e2 => ?_⟩⟩
    refine ih (x + 1) g2 (by omega) ⟨by rw [e2]; exact c1, fun a k hak => by rw [e2, gI_ne (by omega)]; exact c2 a k hak, fun i hi b' hb1 hb2 => ?_⟩
    unfold sE at hb1 ⊢
    by_cases z : i = x
    · subst z
      rw [e2, gI_eq, if_pos (by omega)]
      unfold sE at b1
      have : b' = b := by omega
      rw [this]
    · rw [e2, gI_ne (fun y => z (hj i x (by omega) (by omega) (by omega)))]
      have := c3 i hi b' hb1 hb2
      unfold sE at this
      rw [this]
      by_cases y : i < x
      · rw [if_pos y, if_pos (by omega)]
      · rw [if_neg y, if_neg (by omega)]
/-- what strike leaves of the register -/
def RmX (E : EE) (e : Nat) (g g' : GS) : Prop := RegX (eStr E e) g' ∧ g'.1 8 3 = g.1 8 3 + 1 ∧ (∀ a k, (a = 0 ∨ a = 1 ∨ a = 2) → g'.1 a k = g.1 a k) ∧ g'.2.2 = g.2.2
theorem X_remove {e : Nat} {g : GS} (hR : RegX E g) (hW : WF E) (he : e < eN E) (hP : ∀ g', RmX E e g g' → P g') : MXv mX8_remove [vr 8, vi (e : Int)] g P := by
  have h18 := hW.1
  obtain ⟨r1, r2, r3, r4, r5, r6, r7, r8, r9⟩ := hR
  have se := r2 e (by omega)
  obtain ⟨-, kE, -⟩ := r5 e he
  obtain ⟨w1, -⟩ := hW.2.1 e he
  have fin : ∀ g1 : GS, g1.1 = g.1 → g1.2.2 = g.2.2 → (∀ j, g1.2.1 j = if e ≤ j ∧ j + 1 < eN E then g.2.1 (j + 1) else g.2.1 j) → XXv mX8_remove 11 [some (vr 8), none, some (vr (11 + 3 * g.2.1 e)), some (vi (eN E : Int))] [] g1 P := by
    intro g1 q1 q2 q3
    refine uX8_remove_11 g1 _ se _ ?_
    rw [q1, r1]
    refine ⟨⟨by omega, by omega⟩, ⟨by omega, by omega⟩, fun _ g2 e2 => ?_, fun z => by omega⟩
    have v2 : g2.1 8 2 = ((eN E - 1 : Nat) : Int) := by rw [e2, gI_eq]; omega
    rw [v2]
    simp only [Int.toNat_natCast]
    refine ⟨by omega, by omega, fun g3 e3 => ?_⟩
    have f3 : ∀ a k, ¬ (a = 8 ∧ k = 2) → g3.1 a k = g.1 a k := fun a k h => by rw [e3]; show g2.1 a k = _; rw [e2, gI_ne h, q1]
    have v3 : g3.1 8 2 = ((eN E - 1 : Nat) : Int) := by rw [e3]; exact v2
    have p3 : ∀ j, g3.2.1 j = psE (eN E) e g.2.1 j := fun j => by
      rw [e3]
      show (if j = eN E - 1 then g.2.1 e else g2.2.1 j) = _
      rw [show g2.2.1 = g1.2.1 by rw [e2]; rfl, q3]
      unfold psE
      by_cases c : j = eN E - 1
      · rw [if_pos c, if_neg (by omega), if_pos (by omega)]
      · rw [if_neg c]
        by_cases d : e ≤ j ∧ j + 1 < eN E
        · rw [if_pos d, if_pos d]
        · rw [if_neg d, if_neg d, if_neg (by omega)]
    have n3 : g3.2.2 = g.2.2 := by rw [e3]; show g2.2.2 = _; rw [e2]; exact q2
    have kE' : g.1 (11 + 3 * g.2.1 e) 4 = eK E e := kE
    rw [f3 (11 + 3 * g.2.1 e) 4 (by omega), kE']
    refine ⟨by omega, by omega, fun g4 e4 g5 e5 => ?_⟩
    obtain ⟨kk, hkk⟩ : ∃ kk : Nat, eK E e = (kk : Int) := ⟨(eK E e).toNat, by omega⟩
    have hkk3 : kk < 3 := by omega
    rw [hkk, Int.toNat_natCast] at e4
    have f5 : ∀ a k, ¬ (a = 8 ∧ (k = 2 ∨ k = 3)) → a ≠ 10 → g5.1 a k = g.1 a k := fun a k h h' => by rw [e5, gI_ne (by omega), e4, gI_ne (by omega)]; exact f3 a k (by omega)
    have v5 : g5.1 8 2 = ((eN E - 1 : Nat) : Int) := by rw [e5, gI_ne (by omega), e4, gI_ne (by omega)]; exact v3
    have s5 : g5.1 8 3 = g.1 8 3 + 1 := by rw [e5, gI_eq, e4, gI_ne (by omega), f3 8 3 (by omega)]
    have p5 : g5.2.1 = psE (eN E) e g.2.1 := by rw [e5, e4]; exact funext p3
    have n5 : g5.2.2 = g.2.2 := by rw [e5, e4]; exact n3
    have k5 : ∀ k : Nat, k < 3 → g5.1 10 k = (cK E (k : Int) (eN E) : Int) - (if eK E e = (k : Int) then 1 else 0) := fun k hk => by
      have o : g.1 10 k = (cK E (k : Int) (eN E) : Int) := by
        have hk : k = 0 ∨ k = 1 ∨ k = 2 := by omega
        rcases hk with rfl | rfl | rfl
        · exact r7
        · exact r8
        · exact r9
      rw [e5, gI_ne (by omega), e4]
      by_cases c : k = kk
      · subst c
        rw [gI_eq, f3 _ _ (by omega), o, if_pos hkk]
      · rw [gI_ne (by omega), f3 _ _ (by omega), o, if_neg (by omega), Int.sub_zero]
    have hlt := psE_lt (π := g.2.1) (e := e) h18 he r2
    have hinj := psE_inj (π := g.2.1) (e := e) h18 he r3
    refine X_rem84 (E := E) (s := g.2.1 e) se v5 h18 (by rw [p5]; exact hlt) (by rw [p5]; exact hinj) (by rw [f5 _ _ (by omega) (by omega)]; exact r4 _ se) (fun i hi => ?_) (fun g6 hC => hP g6 ⟨?_, ?_, fun a k h => ?_, ?_⟩) (eN E - 1) 0 g5 (by omega) ⟨rfl, fun _ _ _ => rfl, fun i hi b hb1 hb2 => by rw [if_neg (Nat.not_lt_zero _)]; exact hb1⟩
    · obtain ⟨-, -, -, -, -, b, b1, b2, -⟩ := r5 (sh e i) (sh_lt hi)
      have hsi := r2 (sh e i) (by have := sh_lt (e := e) hi; omega)
      refine ⟨b, ?_, b2⟩
      unfold sE at b1 ⊢
      rw [p5, psE_lo hi, f5 _ _ (by omega) (by omega)]
      exact b1
    · obtain ⟨c1, c2, c3⟩ := hC
      have p6 : g6.2.1 = psE (eN E) e g.2.1 := by rw [c1]; exact p5
      unfold RegX RowX sE
      rw [p6]
      refine ⟨by rw [c2 8 2 (by omega)]; exact v5, hlt, hinj, fun s hs => by rw [c2 _ _ (by omega), f5 _ _ (by omega) (by omega)]; exact r4 s hs, fun i hi => ?_, fun i j hi hj hn => ?_, ?_, ?_, ?_⟩
      · have hi : i < eN E - 1 := hi
        have hsh := sh_lt (e := e) hi
        obtain ⟨a1, a2, a3, a4, a5, b, a6, a7, a8⟩ := r5 (sh e i) hsh
        have hsi := r2 (sh e i) (by omega)
        have hb6 := c3 i hi b (by unfold sE at a6 ⊢; rw [p5, psE_lo hi, f5 _ _ (by omega) (by omega)]; exact a6) a7
        unfold sE at a1 a2 a3 a4 hb6
        rw [p5, psE_lo hi, if_pos hi] at hb6
        rw [psE_lo hi]
        refine ⟨by rw [c2 _ _ (by omega), f5 _ _ (by omega) (by omega)]; exact a1, by rw [c2 _ _ (by omega), f5 _ _ (by omega) (by omega)]; exact a2, by rw [c2 _ _ (by omega), f5 _ _ (by omega) (by omega)]; exact a3, by rw [c2 _ _ (by omega), f5 _ _ (by omega) (by omega)]; exact a4, fun k hl => by rw [c2 _ _ (by omega), f5 _ _ (by omega) (by omega)]; exact a5 k hl, bClr b (g.2.1 e), hb6, bClr_lt a7 se, fun j hj => ?_⟩
        show (bClr b (g.2.1 e)).testBit _ = (decide (j < eN E - 1) && eP E (sh e i) (sh e j))
        rw [bClr_bit]
        by_cases c : j < eN E - 1
        · have hj2 := sh_lt (e := e) c
          have hne : sh e j ≠ e := by unfold sh; split <;> omega
          rw [psE_lo c, decide_eq_true (show g.2.1 (sh e j) ≠ g.2.1 e from fun z => hne (r3 _ _ (by omega) (by omega) z)), a8 _ (by omega), decide_eq_true hj2, decide_eq_true c]
          simp
        · rw [decide_eq_false c, Bool.false_and]
          unfold psE
          rw [if_neg (by omega)]
          by_cases d : j + 1 = eN E
          · rw [if_pos d]; simp
          · rw [if_neg d, a8 j hj, decide_eq_false (show ¬ j < eN E by omega)]; simp
      · have hi : i < eN E - 1 := hi
        have hj : j < eN E - 1 := hj
        have hi2 := sh_lt (e := e) hi
        have hj2 := sh_lt (e := e) hj
        have hsi := r2 (sh e i) (by omega)
        rw [psE_lo hi, psE_lo hj, c2 _ _ (by omega), f5 _ _ (by omega) (by omega)]
        exact r6 (sh e i) (sh e j) hi2 hj2 (by unfold sh; split <;> split <;> omega)
      · rw [c2 _ _ (by omega), k5 0 (by omega)]; exact (cK_gone1 0 he).symm
      · rw [c2 _ _ (by omega), k5 1 (by omega)]; exact (cK_gone1 1 he).symm
      · rw [c2 _ _ (by omega), k5 2 (by omega)]; exact (cK_gone1 2 he).symm
    · rw [hC.2.1 _ _ (by omega)]; exact s5
    · rw [hC.2.1 _ _ (by omega), f5 _ _ (by omega) (by omega)]
    · rw [show g6.2.2 = g5.2.2 from congrArg (fun z => z.2) hC.1]; exact n5
  have loop : ∀ (t k : Nat) (g1 : GS), k + t = eN E → e < k → g1.1 = g.1 → g1.2.2 = g.2.2 → (∀ j, g1.2.1 j = if e ≤ j ∧ j + 1 < k then g.2.1 (j + 1) else g.2.1 j) → XXv mX8_remove 11 [some (vr 8), none, some (vr (11 + 3 * g.2.1 e)), some (vi (k : Int))] [] g1 P := by
    intro t
    induction t with
    | zero =>
      intro k g1 hk hek q1 q2 q3
      have hk : k = eN E := by omega
      subst hk
      exact fin g1 q1 q2 q3
    | succ t ih =>
      intro k g1 hk hek q1 q2 q3
      have hsk := r2 k (by omega)
      have v : g1.2.1 k = g.2.1 k := by rw [q3, if_neg (by omega)]
      refine uX8_remove_11 g1 _ se _ ?_
      rw [q1, r1, show (k : Int) - 1 = ((k - 1 : Nat) : Int) by omega]
      simp only [Int.toNat_natCast]
      rw [v]
      refine ⟨⟨by omega, by omega⟩, ⟨by omega, by omega⟩, fun z => by omega, fun _ => ⟨by omega, by omega, hsk, by omega, by omega, fun g2 e2 => ?_⟩⟩
      refine ih (k + 1) g2 (by omega) (by omega) (by rw [e2]; exact q1) (by rw [e2]; exact q2) (fun j => ?_)
      rw [e2]
      show (if j = k - 1 then g.2.1 k else g1.2.1 j) = _
      rw [q3]
      by_cases c : j = k - 1
      · rw [if_pos c, if_pos (by omega), show j + 1 = k by omega]
      · rw [if_neg c]
        by_cases d : e ≤ j ∧ j + 1 < k
        · rw [if_pos d, if_pos (by omega)]
        · rw [if_neg d, if_neg (by omega)]
  refine uX8_remove g _ ?_
  simp only [Int.toNat_natCast]
  exact ⟨by omega, by omega, se, loop (eN E - (e + 1)) (e + 1) g (by omega) (by omega) rfl rfl (fun j => by rw [if_neg (by omega)])⟩
end XW
section XW2
variable {P : Int → GS → Prop} {A : AA} {g : GS}
theorem K_strike {e : Int} (hR : RepX A g) (hW : WFA A) (re : rng e) (hP : ∀ g', RepX (nStr A e) g' → P (zStr A e) g') : MXi mX9_strike [vr 0, vi e] g P := by
  unfold nStr zStr at hP
  refine uX9_strike g e ?_
  refine X_has hR.1.2.2.1 hW.2.2.1 re (fun i hi hiE => ⟨⟨by decide, by decide⟩, fun _ => ?_, fun z => absurd z (by decide)⟩) (fun f => ⟨rng_0, fun z => absurd rfl z, fun _ => ?_⟩)
  · subst hi
    rw [if_pos (inE_t hiE), if_pos (inE_t hiE), Int.toNat_natCast] at hP
    refine X_remove hR.1.2.2.1 hW.2.2.1 hiE (fun g1 hm g2 e2 => ?_)
    obtain ⟨m1, m2, m3, m4⟩ := hm
    obtain ⟨r1, r2, r3, ⟨b1, b2, b3⟩, r5, r6, r7⟩ := hR.1
    have k2 : Kx (fun a k => a = 0 ∧ k = 11) g1 g2 := by rw [e2]; exact Kx.st ⟨rfl, rfl⟩
    have hE : RegX (eStr (pE A) i) g2 := m1.kx (eStr_w hW.2.2.1).1 k2 (fun a k c z => by unfold coreX at c; omega)
    rw [show g2.1 8 2 = ((eN (pE A) - 1 : Nat) : Int) from hE.1]
    refine hP g2 ⟨⟨?_, fun k hk => ?_, hE, ⟨?_, ?_, ?_⟩, ?_, ?_, ?_⟩, Or.inl (by rw [e2, gI_eq])⟩
    · rw [k2.1 _ _ (by omega), m3 _ _ (by omega)]; exact r1
    · rw [k2.1 _ _ (by omega), m3 _ _ (by omega)]; exact r2 k hk
    · rw [k2.1 _ _ (by omega), m3 _ _ (by omega)]; exact b1
    · rw [k2.1 _ _ (by omega), m3 _ _ (by omega)]; exact b2
    · rw [k2.1 _ _ (by omega), m3 _ _ (by omega)]; exact b3
    · rw [k2.1 _ _ (by omega), m3 _ _ (by omega)]; exact r5
    · rw [k2.1 _ _ (by omega), m2, r6]; rfl
    · unfold NmX; rw [k2.2, m4]; exact r7
  · rw [if_neg (by rw [f]; decide), if_neg (by rw [f]; decide)] at hP
    exact hP g hR
end XW2

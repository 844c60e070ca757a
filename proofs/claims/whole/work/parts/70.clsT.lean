/-! the class's count, and the end of its digest -/
theorem cnt_all {p : Nat → Bool} : ∀ n : Nat, cnt p n = (n : Int) → ∀ k, k < n → p k = true := by
  intro n
  induction n with
  | zero => intro _ k hk; exact absurd hk (Nat.not_lt_zero _)
  | succ n ih =>
    intro h k hk
    rw [cnt] at h
    have hb := cnt_b p n
    by_cases c : p n = true
    · rw [if_pos c] at h
      by_cases d : k = n
      · rw [d]; exact c
      · exact ih (by omega) k (by omega)
    · rw [if_neg c] at h
      omega
/-- a sum over all places is the sum over them in another order -/
theorem smF_perm {N : Nat} {π : Nat → Nat} {w : Nat → Int} (h1 : ∀ q, q < N → π q < N) (h2 : ∀ q r, q < N → r < N → π q = π r → q = r) : smF w (fun q => (π q : Int)) N = smP (fun _ => true) w N := by
  have m1 : ∀ q, q < N → ∃ k : Nat, ((π q : Nat) : Int) = (k : Int) ∧ k < N ∧ ((List.range N).any (fun q => π q == k)) = true := fun q hq => ⟨π q, rfl, h1 q hq, List.any_eq_true.2 ⟨q, List.mem_range.2 hq, by simp⟩⟩
  have m2 : ∀ q r, q < N → r < N → ((π q : Nat) : Int) = ((π r : Nat) : Int) → q = r := fun q r hq hr e => h2 q r hq hr (by omega)
  have m3 : ∀ k, k < N → ((List.range N).any (fun q => π q == k)) = true → ∃ q, q < N ∧ ((π q : Nat) : Int) = (k : Int) := fun k _ hp => by
    obtain ⟨q, hq, e⟩ := List.any_eq_true.1 hp
    exact ⟨q, List.mem_range.1 hq, by have : π q = k := by simpa using e
                                      omega⟩
  rw [← smP_list (N := N) (f := fun q => (π q : Int)) N (fun k => (List.range N).any (fun q => π q == k)) m1 m2 m3]
  have hc := cnt_list (N := N) (m := N) (f := fun q => (π q : Int)) (p := fun k => (List.range N).any (fun q => π q == k)) m1 m2 m3
  exact smP_cg N (fun k hk => cnt_all N hc k hk)
theorem pcT_smP {b : Nat} : ∀ n, (pcT b n : Int) = smP (fun _ => true) (fun s => if b.testBit s = true then 1 else 0) n := by
  intro n
  induction n with
  | zero => rfl
  | succ n ih => rw [pcT, smP, if_pos rfl, ← ih]; split <;> omega
theorem cPt_smF {E : EE} {i b : Nat} {π : Nat → Nat} (hb : ∀ j, j < 18 → b.testBit (π j) = (decide (j < eN E) && eP E i j)) : ∀ n, n ≤ 18 → smF (fun s => if b.testBit s = true then 1 else 0) (fun q => (π q : Int)) n = (cPt E i (min n (eN E)) : Int) := by
  intro n
  induction n with
  | zero => intro _; rw [Nat.zero_min]; rfl
  | succ n ih =>
    intro hn
    rw [smF, ih (by omega), Int.toNat_natCast, hb n (by omega)]
    by_cases c : n < eN E
    · rw [show min n (eN E) = n by omega, show min (n + 1) (eN E) = n + 1 by omega, cPt, decide_eq_true c, Bool.true_and]
      split <;> omega
    · rw [show min n (eN E) = eN E by omega, show min (n + 1) (eN E) = eN E by omega, decide_eq_false c, Bool.false_and, if_neg (by decide), Int.add_zero]
def sPt (E : EE) (n : Nat) : Nat → Nat
  | 0 => 0
  | m + 1 => sPt E n m + cPt E m n
theorem sPt_s {E : EE} (hs : ∀ i j, eP E i j = eP E j i) (n : Nat) : ∀ m, sPt E (n + 1) m = sPt E n m + cPt E n m := by
  intro m
  induction m with
  | zero => rfl
  | succ m ih =>
    rw [sPt, sPt, ih, show cPt E m (n + 1) = (if eP E m n = true then cPt E m n + 1 else cPt E m n) from rfl, show cPt E n (m + 1) = (if eP E n m = true then cPt E n m + 1 else cPt E n m) from rfl, hs m n]
    split <;> omega
theorem sPt_t {E : EE} (hs : ∀ i j, eP E i j = eP E j i) (h0 : ∀ i, eP E i i = false) : ∀ n, sPt E n n = 2 * tPt E n := by
  intro n
  induction n with
  | zero => rfl
  | succ n ih =>
    rw [sPt, sPt_s hs, ih, show cPt E n (n + 1) = (if eP E n n = true then cPt E n n + 1 else cPt E n n) from rfl, h0 n, if_neg (by decide), tPt]
    omega
theorem sPt_le {E : EE} {n : Nat} : ∀ m, sPt E n m ≤ m * n := by
  intro m
  induction m with
  | zero => exact Nat.zero_le _
  | succ m ih =>
    have := cPt_le E m n
    rw [sPt, Nat.succ_mul]
    omega
section XT
variable {P : Int → GS → Prop} {A : AA} {g : GS}
theorem X_cParted {E : EE} (hR : RegX E g) (hW : WF E) (hP : P (tPt E (eN E) : Int) g) : MXi mX8_countParted [vr 8] g P := by
  have h18 := hW.1
  have loop : ∀ (t n : Nat), n + t = eN E → XXi mX8_countParted 4 [some (vr 8), some (vi (sPt E (eN E) n : Int)), some (vi (n : Int))] [] g P := by
    intro t
    induction t with
    | zero =>
      intro n hn
      have hn : n = eN E := by omega
      subst hn
      have h1 := sPt_le (E := E) (n := eN E) (eN E)
      have h2 : eN E * eN E ≤ 18 * 18 := Nat.mul_le_mul h18 h18
      refine uX8_countParted_4 g _ _ ?_
      rw [hR.1]
      refine ⟨⟨by omega, by omega⟩, ⟨by omega, by omega⟩, fun _ => ⟨⟨by omega, by omega⟩, ?_⟩, fun z => by omega⟩
      rw [sPt_t hW.2.2.1 hW.2.2.2.1, show Int.tdiv ((2 * tPt E (eN E) : Nat) : Int) 2 = (tPt E (eN E) : Int) by rw [Int.natCast_mul]; exact Int.mul_tdiv_cancel_left _ (by decide)]
      exact hP
    | succ t ih =>
      intro n hn
      have hh := ih (n + 1) (by omega)
      obtain ⟨-, -, -, -, -, b, b1, b2, b3⟩ := hR.2.2.2.2.1 n (by omega)
      refine uX8_countParted_4 g _ _ ?_
      rw [hR.1]
      simp only [Int.toNat_natCast]
      rw [b1]
      refine ⟨⟨by omega, by omega⟩, ⟨by omega, by omega⟩, fun z => by omega, fun _ => ⟨by omega, by omega, hR.2.1 n (by omega), ?_⟩⟩
      refine X_bits b2 ?_
      have e1 : (pcT b 18 : Int) = (cPt E n (eN E) : Int) := by
        rw [pcT_smP, ← smF_perm (π := g.2.1) (fun q hq => hR.2.1 q hq) (fun q r hq hr e => hR.2.2.1 q r hq hr e), cPt_smF b3 18 (by omega), show min 18 (eN E) = eN E by omega]
      rw [e1]
      exact hh
  exact uX8_countParted g (loop (eN E) 0 (by omega))
theorem X_count0 {w : Int} (h0 : Rep0 A g) (hW : WFA A) (rw_ : rng w) (hP : P (zCount A w) g) : MXi mX9_count [vr 0, vi w] g P := by
  obtain ⟨a1, a2, a3, a4, a5, a6, a7⟩ := h0
  unfold zCount at hP
  refine uX9_count g w ?_
  refine ⟨rw_, fun c => ?_, fun c => ?_, fun c => ?_, fun c => ?_, fun c => ?_, fun c => ?_, fun c => ?_, fun c => ?_, fun c => ?_⟩
  · rw [if_neg (by omega), if_neg (by omega), if_neg (by omega), if_neg (by omega), if_neg (by omega), if_neg (by omega)] at hP
    exact hP
  · rw [if_pos c] at hP
    rw [a3.1]
    exact hP
  · rw [if_neg (by omega), if_pos (by omega), c] at hP
    rw [show (0 : Int).toNat = 0 from rfl, a3.2.2.2.2.2.2.1]
    exact hP
  · rw [if_neg (by omega), if_pos (by omega), c] at hP
    rw [show (1 : Int).toNat = 1 from rfl, a3.2.2.2.2.2.2.2.1]
    exact hP
  · rw [if_neg (by omega), if_pos (by omega), c] at hP
    rw [show (2 : Int).toNat = 2 from rfl, a3.2.2.2.2.2.2.2.2]
    exact hP
  · rw [if_neg (by omega), if_neg (by omega), if_pos c] at hP
    rw [a1]
    exact hP
  · rw [if_neg (by omega), if_neg (by omega), if_neg (by omega), if_pos c] at hP
    rw [a5]
    exact hP
  · rw [if_neg (by omega), if_neg (by omega), if_neg (by omega), if_neg (by omega), if_pos c] at hP
    rw [a6]
    exact hP
  · rw [if_neg (by omega), if_neg (by omega), if_neg (by omega), if_neg (by omega), if_neg (by omega), if_pos c] at hP
    exact X_cParted a3 hW.2.2.1 hP
theorem X_count1 {w : Int} (hR : RepX A g) (hW : WFA A) (rw_ : rng w) (hP : ∀ g', RepX A g' → P (zCount A w) g') : MXi mX9_count [vr 0, vi w] g P := X_count0 hR.1 hW rw_ (hP g hR)
theorem X_dg60 (h0 : Rep0 A g) (hW : WFA A) (hr : rng (pR A)) (hs : rng (pS A)) {x : Int} (hP : P (dCt A x) g) : ∀ (t w : Nat), w + t = 8 → XXl mX9_digest 60 [some (vr 0), some (vl (mxN (fun w h => 31 * h + zCount A (w : Int)) w x)), none, some (vi (w : Int))] [] g P := by
  intro t
  induction t with
  | zero =>
    intro w hw
    have hw : w = 8 := by omega
    subst hw
    exact uX9_digest_60 g _ _ ⟨⟨by omega, by omega⟩, fun _ => hP, fun z => by omega⟩
  | succ t ih =>
    intro w hw
    have hh := ih (w + 1) (by omega)
    refine uX9_digest_60 g _ _ ⟨⟨by omega, by omega⟩, fun z => by omega, fun _ => ?_⟩
    exact X_count0 h0 hW ⟨by omega, by omega⟩ ⟨zCount_r hW hr hs, X_mixed hh⟩
theorem X_dg26 (h0 : Rep0 A g) (hW : WFA A) (hr : rng (pR A)) (hs : rng (pS A)) {x : Int} (hP : P (dCt A (dPg A x)) g) : ∀ (t k : Nat), k + t = pN A → XXl mX9_digest 26 [some (vr 0), some (vl (mxN (fun k h => 31 * h + pC A k) k x)), none, some (vi (k : Int))] [] g P := by
  have hn := hW.1
  intro t
  induction t with
  | zero =>
    intro k hk
    have hk : k = pN A := by omega
    subst hk
    refine uX9_digest_26 g _ _ ?_
    rw [h0.1]
    exact ⟨⟨by omega, by omega⟩, ⟨by omega, by omega⟩, fun _ => X_dg60 h0 hW hr hs hP 8 0 (by omega), fun z => by omega⟩
  | succ t ih =>
    intro k hk
    have hh := ih (k + 1) (by omega)
    obtain ⟨c1, c2⟩ := hW.2.1 k (by omega)
    refine uX9_digest_26 g _ _ ?_
    rw [h0.1, Int.toNat_natCast, h0.2.1 k (by omega)]
    exact ⟨⟨by omega, by omega⟩, ⟨by omega, by omega⟩, fun z => by omega, fun _ => ⟨by omega, by omega, ⟨by omega, by omega⟩, X_mixed hh⟩⟩
theorem X_digest1 (hR : RepX A g) (hW : WFA A) (hr : rng (pR A)) (hs : rng (pS A)) (hP : ∀ g', RepX A g' → P (zDig A) g') : MXl mX9_digest [vr 0] g P := by
  refine uX9_digest g (X_settle hR hW (fun g' h0 hst hD => ?_))
  refine X_mEntries h0 hD hW ?_
  refine X_mTwos h0 hD hW ?_
  refine X_mLives hD hW ?_
  exact X_dg26 h0 hW hr hs (hP g' ⟨h0, Or.inr ⟨hst, hD⟩⟩) (pN A) 0 (by omega)
end XT

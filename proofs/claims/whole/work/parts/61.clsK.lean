/-! sums over the members of a life -/
def smP (p : Nat → Bool) (w : Nat → Int) : Nat → Int
  | 0 => 0
  | n + 1 => if p n = true then smP p w n + w n else smP p w n
def smF (w : Nat → Int) (f : Nat → Int) : Nat → Int
  | 0 => 0
  | n + 1 => smF w f n + w (f n).toNat
theorem smP_cg {p q : Nat → Bool} {w : Nat → Int} : ∀ n, (∀ k, k < n → p k = q k) → smP p w n = smP q w n := by
  intro n
  induction n with
  | zero => intro _; rfl
  | succ n ih => intro h; rw [smP, smP, ih (fun k hk => h k (by omega)), h n (by omega)]
theorem smP_del {p : Nat → Bool} {w : Nat → Int} {a : Nat} (hp : p a = true) : ∀ n, a < n → smP p w n = smP (fun k => p k && decide (k ≠ a)) w n + w a := by
  intro n
  induction n with
  | zero => intro h; exact absurd h (Nat.not_lt_zero _)
  | succ n ih =>
    intro h
    rw [smP, smP]
    by_cases c : n = a
    · subst c
      rw [if_pos hp, if_neg (by simp)]
      rw [smP_cg (p := p) (q := fun k => p k && decide (k ≠ n)) n (fun k hk => by simp; omega)]
    · rw [ih (by omega)]
      by_cases d : p n = true
      · rw [if_pos d, if_pos (by simp [d, c])]
        omega
      · rw [if_neg d, if_neg (by simp [d])]
theorem smP_none {p : Nat → Bool} {w : Nat → Int} : ∀ n, (∀ k, k < n → p k = false) → smP p w n = 0 := by
  intro n
  induction n with
  | zero => intro _; rfl
  | succ n ih => intro h; rw [smP, if_neg (by rw [h n (by omega)]; decide)]; exact ih (fun k hk => h k (by omega))
/-- the sum over those that p picks is the sum over a list that lists them -/
theorem smP_list {N : Nat} {w : Nat → Int} {f : Nat → Int} : ∀ (m : Nat) (p : Nat → Bool), (∀ q, q < m → ∃ k : Nat, f q = (k : Int) ∧ k < N ∧ p k = true) → (∀ q r, q < m → r < m → f q = f r → q = r) → (∀ k, k < N → p k = true → ∃ q, q < m ∧ f q = (k : Int)) → smP p w N = smF w f m := by
  intro m
  induction m with
  | zero =>
    intro p h1 h2 h3
    refine smP_none N (fun k hk => ?_)
    cases c : p k
    · rfl
    · obtain ⟨q, hq, -⟩ := h3 k hk c
      exact absurd hq (Nat.not_lt_zero _)
  | succ m ih =>
    intro p h1 h2 h3
    obtain ⟨a, e1, e2, e3⟩ := h1 m (by omega)
    rw [smP_del e3 N e2, smF, e1, Int.toNat_natCast]
    rw [ih (fun k => p k && decide (k ≠ a)) (fun q hq => ?_) (fun q r hq hr e => h2 q r (by omega) (by omega) e) (fun k hk hp => ?_)]
    · obtain ⟨k, k1, k2, k3⟩ := h1 q (by omega)
      refine ⟨k, k1, k2, ?_⟩
      have : k ≠ a := fun z => by
        have := h2 q m (by omega) (by omega) (by rw [k1, e1, z])
        omega
      simp [k3, this]
    · rw [Bool.and_eq_true, decide_eq_true_eq] at hp
      obtain ⟨q, hq, e⟩ := h3 k hk hp.1
      refine ⟨q, ?_, e⟩
      by_cases c : q = m
      · rw [c, e1] at e
        exact absurd (show k = a by omega) hp.2
      · omega
theorem vSn_smP {E : EE} {V : VV} {e l : Nat} : ∀ n, vSn E V e l n = smP (vIn E V l) (sWo E e) n := by
  intro n
  induction n with
  | zero => rfl
  | succ n ih => rw [vSn, smP, ih]
theorem cnt_smP {p : Nat → Bool} : ∀ n, cnt p n = smP p (fun _ => 1) n := by
  intro n
  induction n with
  | zero => rfl
  | succ n ih => rw [cnt, smP, ih]; split <;> omega
theorem smF_one {f : Nat → Int} : ∀ m : Nat, smF (fun _ => 1) f m = (m : Int) := by
  intro m
  induction m with
  | zero => rfl
  | succ m ih => rw [smF, ih]; omega
theorem cnt_list {N : Nat} {f : Nat → Int} {m : Nat} {p : Nat → Bool} (h1 : ∀ q, q < m → ∃ k : Nat, f q = (k : Int) ∧ k < N ∧ p k = true) (h2 : ∀ q r, q < m → r < m → f q = f r → q = r) (h3 : ∀ k, k < N → p k = true → ∃ q, q < m ∧ f q = (k : Int)) : cnt p N = (m : Int) := by
  rw [cnt_smP, smP_list m p h1 h2 h3, smF_one]
theorem vG_iff {E : EE} {V : VV} {e l : Nat} : ∀ n, vGn E V e l n = true ↔ vW V l < 3 ∧ ∀ k, k < n → vO V k = (l : Int) → sFt E e k = true := by
  intro n
  induction n with
  | zero =>
    rw [vGn, decide_eq_true_eq]
    exact ⟨fun h => ⟨h, fun k hk => absurd hk (Nat.not_lt_zero _)⟩, fun h => h.1⟩
  | succ n ih =>
    rw [vGn, Bool.and_eq_true, ih, Bool.or_eq_true, decide_eq_true_eq]
    constructor
    · rintro ⟨⟨h1, h2⟩, h3⟩
      refine ⟨h1, fun k hk ho => ?_⟩
      by_cases c : k = n
      · subst c
        exact h3.resolve_left (fun z => z ho)
      · exact h2 k (by omega) ho
    · rintro ⟨h1, h2⟩
      refine ⟨⟨h1, fun k hk => h2 k (by omega)⟩, ?_⟩
      by_cases c : vO V n = (l : Int)
      · exact Or.inr (h2 n (by omega) c)
      · exact Or.inl c
theorem hN_bare {V : VV} {l : Nat} : hN V l = 0 ↔ vBare V l = true := by
  unfold hN vBare
  by_cases c : vB V l = -1 <;> by_cases d : vD V l = -1 <;> simp [c, d]
/-- how many members the worth is taken by -/
def mM (V : VV) (l : Nat) : Nat := if hN V l = 0 then hN V l + vW V l else hN V l
theorem Mem_in {E : EE} {V : VV} {l : Nat} {f : Nat → Int} (h : Mem E (vO V) l (hN V l + vW V l) (hN V l) f) : (∀ q, q < mM V l → ∃ k : Nat, f q = (k : Int) ∧ k < eN E ∧ vIn E V l k = true) ∧ (∀ q r, q < mM V l → r < mM V l → f q = f r → q = r) ∧ (∀ k, k < eN E → vIn E V l k = true → ∃ q, q < mM V l ∧ f q = (k : Int)) := by
  obtain ⟨h1, h2, h3, -⟩ := h
  have hm : mM V l ≤ hN V l + vW V l := by unfold mM; split <;> omega
  refine ⟨fun q hq => ?_, fun q r hq hr e => h2 q r (by omega) (by omega) e, fun k hk hi => ?_⟩
  · obtain ⟨k, a1, a2, a3, a4⟩ := h1 q (by omega)
    refine ⟨k, a1, a2, ?_⟩
    unfold vIn
    rw [decide_eq_true a3, Bool.true_and, Bool.or_eq_true, decide_eq_true_eq]
    by_cases c : hN V l = 0
    · exact Or.inl (hN_bare.1 c)
    · refine Or.inr (a4.1 ?_)
      unfold mM at hq
      rw [if_neg c] at hq
      exact hq
  · unfold vIn at hi
    rw [Bool.and_eq_true, decide_eq_true_eq, Bool.or_eq_true, decide_eq_true_eq] at hi
    obtain ⟨p, hp, e⟩ := h3 k hk hi.1
    refine ⟨p, ?_, e⟩
    unfold mM
    by_cases c : hN V l = 0
    · rw [if_pos c]; exact hp
    · rw [if_neg c]
      obtain ⟨k', a1, a2, a3, a4⟩ := h1 p hp
      have hkk : k' = k := by omega
      subst hkk
      exact a4.2 (hi.2.resolve_left (fun z => c (hN_bare.2 z)))
theorem vA_mem {E : EE} {V : VV} {e l : Nat} {f : Nat → Int} (h : Mem E (vO V) l (hN V l + vW V l) (hN V l) f) : vA E V e l = Int.tdiv (smF (sWo E e) f (mM V l)) (mM V l : Int) := by
  obtain ⟨h1, h2, h3⟩ := Mem_in h
  unfold vA
  rw [vSn_smP, smP_list (mM V l) _ h1 h2 h3, cnt_list h1 h2 h3]
section XK
variable {P : Int → GS → Prop} {E : EE} {g : GS}
theorem X_fitFirst {O : Nat → Int} {l s h e m : Nat} (hW : WF E) (hX : PrX E g) (hl : l < 18) (hM : Mem E O l s h (g.1 (122 + 2 * l))) (hs : s ≤ 5) (he : e < eN E) (ho : O e ≠ (l : Int)) (hm : m ≤ s) (hT : (∀ p, p < m → ∀ k : Nat, g.1 (122 + 2 * l) p = (k : Int) → sFt E e k = true) → P 1 g) (hF : (∃ p, p < m ∧ ∃ k : Nat, g.1 (122 + 2 * l) p = (k : Int) ∧ sFt E e k = false) → P 0 g) : MXi mX6_fitFirst [vr 65, vi (e : Int), vr (122 + 2 * l), vi (m : Int)] g P := by
  have loop : ∀ (t p : Nat), p + t = m → (∀ q, q < p → ∀ k : Nat, g.1 (122 + 2 * l) q = (k : Int) → sFt E e k = true) → XXi mX6_fitFirst 3 [some (vr 65), some (vi (e : Int)), some (vr (122 + 2 * l)), some (vi (m : Int)), some (vi (p : Int))] [] g P := by
    intro t
    induction t with
    | zero =>
      intro p hp hq
      have hp : p = m := by omega
      subst hp
      exact uX6_fitFirst_3 g _ l hl _ _ ⟨⟨by omega, by omega⟩, ⟨by omega, by omega⟩, fun _ => hT hq, fun z => by omega⟩
    | succ t ih =>
      intro p hp hq
      obtain ⟨k, a1, a2, a3, -⟩ := hM.1 p (by omega)
      have hke : e ≠ k := fun z => ho (by rw [z]; exact a3)
      refine uX6_fitFirst_3 g _ l hl _ _ ?_
      simp only [Int.toNat_natCast]
      rw [a1]
      refine ⟨⟨by omega, by omega⟩, ⟨by omega, by omega⟩, fun z => by omega, fun _ => ⟨by omega, by omega, ?_⟩⟩
      refine X_fit hX hW he a2 hke (fun f1 _ => ⟨⟨by decide, by decide⟩, fun _ => ?_, fun z => absurd z (by decide)⟩) (fun f1 _ => ⟨rng_0, fun z => absurd rfl z, fun _ => hF ⟨p, by omega, k, a1, f1⟩⟩)
      refine ih (p + 1) (by omega) (fun q hq2 k' hk' => ?_)
      by_cases c : q = p
      · rw [c] at hk'
        rw [show k' = k by omega]
        exact f1
      · exact hq q (by omega) k' hk'
  exact uX6_fitFirst g _ l hl _ (loop m 0 (by omega) (fun q hq => absurd hq (Nat.not_lt_zero _)))
theorem smF_b {f : Nat → Int} {e : Nat} (hW : WF E) (he : e < eN E) : ∀ m, (∀ q, q < m → ∃ k : Nat, f q = (k : Int) ∧ k < eN E) → -(m : Int) ≤ smF (sWo E e) f m ∧ smF (sWo E e) f m ≤ 1200 * (m : Int) := by
  intro m
  induction m with
  | zero => intro _; unfold smF; omega
  | succ m ih =>
    intro h
    obtain ⟨k, k1, k2⟩ := h m (by omega)
    have h1 := ih (fun q hq => h q (by omega))
    have h2 := sWo_b hW he k2
    rw [smF, k1, Int.toNat_natCast]
    omega
theorem X_mean {O : Nat → Int} {l s h e m : Nat} (hW : WF E) (hX : PrX E g) (hl : l < 18) (hM : Mem E O l s h (g.1 (122 + 2 * l))) (hs : s ≤ 5) (he : e < eN E) (ho : O e ≠ (l : Int)) (hm : m ≤ s) (h0 : 0 < m) (hP : P (Int.tdiv (smF (sWo E e) (g.1 (122 + 2 * l)) m) (m : Int)) g) : MXi mX6_meanWorth [vr 65, vi (e : Int), vr (122 + 2 * l), vi (m : Int)] g P := by
  have h18 := hW.1
  have loop : ∀ (t p : Nat), p + t = m → XXi mX6_meanWorth 12 [some (vr 65), some (vi (e : Int)), some (vr (122 + 2 * l)), some (vi (m : Int)), some (vi (smF (sWo E e) (g.1 (122 + 2 * l)) p)), some (vi (p : Int))] [] g P := by
    intro t
    induction t with
    | zero =>
      intro p hp
      have hp : p = m := by omega
      subst hp
      have hb := smF_b (f := g.1 (122 + 2 * l)) hW he p (fun q hq => by obtain ⟨k, a1, a2, -⟩ := hM.1 q (by omega); exact ⟨k, a1, a2⟩)
      exact uX6_meanWorth_12 g _ l hl _ _ _ ⟨⟨by omega, by omega⟩, ⟨by omega, by omega⟩, fun _ => ⟨⟨by omega, by omega⟩, by omega, hP⟩, fun z => by omega⟩
    | succ t ih =>
      intro p hp
      obtain ⟨k, a1, a2, a3, -⟩ := hM.1 p (by omega)
      have hke : e ≠ k := fun z => ho (by rw [z]; exact a3)
      have hh := ih (p + 1) (by omega)
      rw [smF, a1, Int.toNat_natCast] at hh
      refine uX6_meanWorth_12 g _ l hl _ _ _ ?_
      simp only [Int.toNat_natCast]
      rw [a1]
      simp only [Int.toNat_natCast]
      rw [(hX.2.2 e k he a2 hke).2]
      exact ⟨⟨by omega, by omega⟩, ⟨by omega, by omega⟩, fun z => by omega, fun _ => ⟨by omega, by omega, by omega, by omega, by omega, by omega, hh⟩⟩
  exact uX6_meanWorth g _ l hl _ ⟨⟨by omega, by omega⟩, fun _ => loop m 0 (by omega), fun z => by omega⟩
/-- what a wedding is worth at a life -/
def vVal (E : EE) (V : VV) (e l : Nat) : Int := if vG E V e l = true then vA E V e l else -1
theorem VI_some {V : VV} (hI : VI E V) {l : Nat} (hl : l < vN V) : ∃ k, k < eN E ∧ vO V k = (l : Int) := by
  obtain ⟨i1, i2, i3⟩ := hI.2.1 l hl
  rcases i1 with c | ⟨b, b1, -, -, b4⟩
  · rcases i2 with d | ⟨q, d1, -, -, d4⟩
    · obtain ⟨k, k1, -, k3⟩ := i3 ⟨c, d⟩
      exact ⟨k, k1, k3⟩
    · exact ⟨q, d1, d4⟩
  · exact ⟨b, b1, b4⟩
theorem mM_pos {V : VV} {l : Nat} {f : Nat → Int} (hI : VI E V) (hl : l < vN V) (h : Mem E (vO V) l (hN V l + vW V l) (hN V l) f) : 0 < mM V l := by
  obtain ⟨k, hk, ho⟩ := VI_some hI hl
  obtain ⟨p, hp, -⟩ := h.2.2.1 k hk ho
  unfold mM
  split <;> omega
theorem X_value {V : VV} {l e : Nat} (hW : WF E) (hX : PrX E g) (hI : VI E V) (hl : l < vN V) (hvn : vN V ≤ 18) (hw3 : vW V l ≤ 3) (hL : LifeG E V g l) (he : e < eN E) (ho : vO V e = -1) (hP : P (vVal E V e l) g) : MXi mX2_valueAt [vi (e : Int), vr (121 + 2 * l), vr 65] g P := by
  obtain ⟨a1, a2, a3, a4, a5⟩ := hL
  have hM := a5.1
  have hne : vO V e ≠ (l : Int) := by omega
  have hh2 : hN V l ≤ 2 := by unfold hN; split <;> split <;> omega
  have h0 := mM_pos hI hl hM
  have hiff := vG_iff (E := E) (V := V) (e := e) (l := l) (eN E)
  unfold vVal at hP
  refine uX2_valueAt g _ l (by omega) ?_
  refine uX1_weddings g l (by omega) ?_
  rw [a1, a2, show ((hN V l + vW V l : Nat) : Int) - (hN V l : Int) = (vW V l : Int) by omega]
  refine ⟨⟨by omega, by omega⟩, fun c => ?_, fun c => ?_⟩
  · rw [if_neg (fun z => by have := (hiff.1 z).1; omega)] at hP
    exact hP
  · refine X_fitFirst hW hX (by omega) hM (by omega) he hne (Nat.le_refl _) (fun hT => ⟨⟨by decide, by decide⟩, fun _ => ?_, fun z => absurd z (by decide)⟩) (fun hF => ⟨rng_0, fun z => absurd rfl z, fun _ => ?_⟩)
    · have hg : vG E V e l = true := by
        refine hiff.2 ⟨by omega, fun k hk hk2 => ?_⟩
        obtain ⟨p, hp, ep⟩ := hM.2.2.1 k hk hk2
        exact hT p hp k ep
      rw [if_pos hg, vA_mem hM] at hP
      unfold mM at hP h0
      refine ⟨⟨by omega, by omega⟩, fun d => ?_, fun d => ?_⟩
      · have d : hN V l = 0 := by omega
        rw [if_pos d] at hP h0
        rw [a1]
        exact X_mean hW hX (by omega) hM (by omega) he hne (Nat.le_refl _) h0 hP
      · rw [if_neg (by omega)] at hP h0
        rw [a2]
        exact X_mean hW hX (by omega) hM (by omega) he hne (by omega) h0 hP
    · rw [if_neg (fun z => ?_)] at hP
      · exact hP
      · obtain ⟨p, hp, k, ek, fk⟩ := hF
        obtain ⟨k', b1, b2, b3, -⟩ := hM.1 p hp
        have hkk : k' = k := by omega
        subst hkk
        have := (hiff.1 z).2 k' b2 b3
        rw [fk] at this
        exact absurd this (by decide)
end XK

/-! the reference weighs lives for a wedding, and lays it -/
theorem cnt_pos {p : Nat → Bool} {k : Nat} (hp : p k = true) : ∀ n, k < n → 1 ≤ cnt p n := by
  intro n
  induction n with
  | zero => intro h; exact absurd h (Nat.not_lt_zero _)
  | succ n ih =>
    intro h
    have hb := cnt_b p n
    unfold cnt
    by_cases c : k = n
    · subst c
      rw [if_pos hp]
      omega
    · have := ih (by omega)
      split <;> omega
theorem vSn_b {E : EE} (hW : WF E) {V : VV} {e l : Nat} (he : e < eN E) : ∀ n, n ≤ eN E → -(n : Int) ≤ vSn E V e l n ∧ vSn E V e l n ≤ 1200 * n := by
  intro n
  induction n with
  | zero => intro _; unfold vSn; omega
  | succ n ih =>
    intro hn
    have h := ih (by omega)
    have hw := sWo_b hW he (show n < eN E by omega)
    unfold vSn
    split <;> omega
theorem tdiv_bb {x y : Int} (h1 : -18 ≤ x) (h2 : x ≤ 21600) (hy : 1 ≤ y) : -18 ≤ Int.tdiv x y ∧ Int.tdiv x y ≤ 21600 := by
  by_cases c : 0 ≤ x
  · have := tdiv_b (x := x) (y := y) c (by omega)
    omega
  · have := tdiv_b (x := -x) (y := y) (by omega) (by omega)
    rw [Int.neg_tdiv] at this
    omega
theorem vIn_pos {E : EE} {V : VV} {l : Nat} (hI : VI E V) (hl : l < vN V) : 1 ≤ cnt (vIn E V l) (eN E) := by
  obtain ⟨h1, h2, h3⟩ := hI.2.1 l hl
  by_cases c1 : vB V l = -1
  · by_cases c2 : vD V l = -1
    · obtain ⟨k, a1, a2, a3⟩ := h3 ⟨c1, c2⟩
      exact cnt_pos (k := k) (by simp [vIn, vBare, a3, c1, c2]) _ a1
    · rcases h2 with c | ⟨d, a1, a2, a3, a4⟩
      · exact absurd c c2
      · exact cnt_pos (k := d) (by simp [vIn, a4, a3]) _ a1
  · rcases h1 with c | ⟨d, a1, a2, a3, a4⟩
    · exact absurd c c1
    · exact cnt_pos (k := d) (by simp [vIn, a4, a3]) _ a1
theorem vA_b {E : EE} (hW : WF E) {V : VV} {e l : Nat} (hI : VI E V) (he : e < eN E) (hl : l < vN V) : -18 ≤ vA E V e l ∧ vA E V e l ≤ 21600 := by
  have h1 := vSn_b hW (V := V) (l := l) he (eN E) (Nat.le_refl _)
  have h2 := hW.1
  exact tdiv_bb (by omega) (by omega) (vIn_pos hI hl)
section MK
variable {E : EE} {P : Int → MS → Prop}
theorem M_worthAt35 {V : VV} {e l : Nat} {x3 : Int} (hW : WF E) (hI : VI E V) (hvn : vN V ≤ 18) (he : e < eN E) (hl : l < vN V) (hx : x3 = if vBare V l = true then 1 else 0) : ∀ (t n : Nat) (m : MS), RepM E m → VM E V m → n + t = eN E → (∀ m', RepM E m' → VM E V m' → Kp S14 m m' → P (vA E V e l) m') → YYi mX10_worthAt 35 [some (vr 0), some (vi (e : Int)), some (vi (l : Int)), some (vi x3), some (vi (vSn E V e l n)), some (vi (cnt (vIn E V l) n)), some (vi (n : Int))] [] m P := by
  have h18 := hW.1
  have r3 : rng x3 := by rw [hx]; split <;> exact ⟨by decide, by decide⟩
  intro t
  induction t with
  | zero =>
    intro n m hR hV hn hP
    have hn : n = eN E := by omega
    subst hn
    have h1 := vSn_b hW (V := V) (l := l) he (eN E) (Nat.le_refl _)
    have h2 := vIn_pos hI hl
    have h3 := cnt_b (vIn E V l) (eN E)
    refine uX10_worthAt_35 m _ _ _ _ _ _ ?_
    rw [hR.1]
    exact ⟨⟨by omega, by omega⟩, ⟨by omega, by omega⟩, fun _ => ⟨⟨by omega, by omega⟩, ⟨by omega, by omega⟩, by omega, hP m hR hV Kp.rf⟩, fun z => by omega⟩
  | succ t ih =>
    intro n m hR hV hn hP
    obtain ⟨a1, -⟩ := hR.2.1 n (by omega)
    obtain ⟨w1, -⟩ := hW.2.1 n (by omega)
    refine uX10_worthAt_35 m _ _ _ _ _ _ ?_
    rw [hR.1]
    simp only [Int.toNat_natCast, a1]
    have go : ∀ m1, RepM E m1 → Kp S14 m m1 → vIn E V l n = true → YYi mX10_worthAt 35 [some (vr 0), some (vi (e : Int)), some (vi (l : Int)), some (vi x3), some (vi (vSn E V e l n + sWo E e n)), some (vi (cnt (vIn E V l) n + 1)), some (vi ((n : Int) + 1))] [] m1 P := by
      intro m1 hR1 hk1 hin
      have := ih (n + 1) m1 hR1 (hV.k14 hk1) (by omega) (fun m' a b c => hP m' a b (hk1.tr c))
      rw [vSn, if_pos hin, cnt, if_pos hin] at this
      exact this
    have no : vIn E V l n = false → YYi mX10_worthAt 35 [some (vr 0), some (vi (e : Int)), some (vi (l : Int)), some (vi x3), some (vi (vSn E V e l n)), some (vi (cnt (vIn E V l) n)), some (vi ((n : Int) + 1))] [] m P := by
      intro hin
      have := ih (n + 1) m hR hV (by omega) hP
      rw [vSn, if_neg (by rw [hin]; decide), cnt, if_neg (by rw [hin]; decide), Int.add_zero] at this
      exact this
    refine ⟨⟨by omega, by omega⟩, ⟨by omega, by omega⟩, fun z => by omega, fun _ => ?_⟩
    refine M_isOf hW hV hI hvn (by omega) (by omega) (fun c => ⟨⟨by decide, by decide⟩, fun z => absurd z (by decide), fun _ => ⟨r3, fun c3 => ?_, fun c3 => ⟨by omega, by omega, ?_⟩⟩⟩) (fun c => ⟨rng_0, fun _ => no ?_, fun z => absurd rfl z⟩)
    · have hb : vBare V l = true := by
        cases hq : vBare V l
        · rw [hq] at hx; exact absurd hx c3
        · rfl
      exact M_worth hR hW he (by omega) (fun m1 hR1 hk1 => go m1 hR1 hk1 (by simp [vIn, hb, c]))
    · have hb : vBare V l = false := by
        cases hq : vBare V l
        · rfl
        · rw [hq] at hx; rw [c3] at hx; exact absurd hx (by decide)
      refine ⟨⟨by omega, by omega⟩, fun q => no (by rw [a1] at q; simp [vIn, hb, q]), fun q => ?_⟩
      rw [a1] at q
      exact M_worth hR hW he (by omega) (fun m1 hR1 hk1 => go m1 hR1 hk1 (by simp [vIn, q, c]))
    · simp [vIn, c]
theorem M_worthAt {V : VV} {m : MS} {e l : Nat} (hR : RepM E m) (hW : WF E) (hV : VM E V m) (hI : VI E V) (hvn : vN V ≤ 18) (he : e < eN E) (hl : l < vN V) (hP : ∀ m', RepM E m' → VM E V m' → Kp S14 m m' → P (vA E V e l) m') : MMi mX10_worthAt [vr 0, vi (e : Int), vi (l : Int)] m P := by
  have h18 := hW.1
  obtain ⟨h1, h2, -⟩ := hI.2.1 l hl
  obtain ⟨q1, q2, q3⟩ := hV.1.2 l hl
  have r1 : -1 ≤ vB V l ∧ vB V l < 18 := by rcases h1 with c | ⟨b, x, c, -⟩ <;> omega
  have r2 : -1 ≤ vD V l ∧ vD V l < 18 := by rcases h2 with c | ⟨b, x, c, -⟩ <;> omega
  refine uX10_worthAt m e l ?_
  simp only [Int.toNat_natCast]
  rw [q1, q2]
  refine ⟨by omega, by omega, ⟨by omega, by omega⟩, fun c => ?_, fun c => ⟨⟨by omega, by omega⟩, fun d => ?_, fun d => ?_⟩⟩
  · exact M_worthAt35 hW hI hvn he hl (by simp [vBare, c]) (eN E) 0 m hR hV (by omega) hP
  · exact M_worthAt35 hW hI hvn he hl (by simp [vBare, d]) (eN E) 0 m hR hV (by omega) hP
  · exact M_worthAt35 hW hI hvn he hl (by simp [vBare, c, d]) (eN E) 0 m hR hV (by omega) hP
theorem M_bestLife4 {V : VV} {e : Nat} (hW : WF E) (hI : VI E V) (hvn : vN V ≤ 18) (hw : ∀ l, vW V l ≤ 3) (he : e < eN E) : ∀ (t n : Nat) (m : MS), RepM E m → VM E V m → n + t = vN V → (∀ m', RepM E m' → VM E V m' → Kp S14 m m' → P (vbn E V e (vN V)) m') → YYi mX10_bestLife 4 [some (vr 0), some (vi (e : Int)), some (vi (vbn E V e n)), some (vi (n : Int)), none] [] m P := by
  intro t
  induction t with
  | zero =>
    intro n m hR hV hn hP
    have hn : n = vN V := by omega
    subst hn
    refine uX10_bestLife_4 m _ _ _ ?_
    rw [hV.1.1]
    exact ⟨⟨by omega, by omega⟩, ⟨by omega, by omega⟩, fun _ => hP m hR hV Kp.rf, fun z => by omega⟩
  | succ t ih =>
    intro n m hR hV hn hP
    obtain ⟨b1, b2, -⟩ := vbn_b E V e n
    refine uX10_bestLife_4 m _ _ _ ?_
    rw [hV.1.1]
    refine ⟨⟨by omega, by omega⟩, ⟨by omega, by omega⟩, fun z => by omega, fun _ => ?_⟩
    have go : ∀ m1, RepM E m1 → VM E V m1 → Kp S14 m m1 → vG E V e n = true → (vbn E V e n = -1 ∨ vA E V e (vbn E V e n).toNat < vA E V e n) → YYi mX10_bestLife 4 [some (vr 0), some (vi (e : Int)), some (vi (n : Int)), some (vi ((n : Int) + 1)), none] [] m1 P := by
      intro m1 hR1 hV1 hk1 g1 g2
      have := ih (n + 1) m1 hR1 hV1 (by omega) (fun m' a b c => hP m' a b (hk1.tr c))
      rw [vbn, if_pos ⟨g1, g2⟩] at this
      exact this
    have no : ∀ m1, RepM E m1 → VM E V m1 → Kp S14 m m1 → ¬ (vG E V e n = true ∧ (vbn E V e n = -1 ∨ vA E V e (vbn E V e n).toNat < vA E V e n)) → YYi mX10_bestLife 4 [some (vr 0), some (vi (e : Int)), some (vi (vbn E V e n)), some (vi ((n : Int) + 1)), none] [] m1 P := by
      intro m1 hR1 hV1 hk1 g1
      have := ih (n + 1) m1 hR1 hV1 (by omega) (fun m' a b c => hP m' a b (hk1.tr c))
      rw [vbn, if_neg g1] at this
      exact this
    refine M_canGo hR hW hV hI hvn hw he (by omega) (fun m1 hR1 hV1 hk1 => ⟨fun hg => ⟨⟨by decide, by decide⟩, fun z => absurd z (by decide), fun _ => ⟨⟨by omega, by omega⟩, fun c => go m1 hR1 hV1 hk1 hg (Or.inl c), fun c => ?_⟩⟩, fun hg => ⟨rng_0, fun _ => no m1 hR1 hV1 hk1 (fun z => by rw [hg] at z; exact absurd z.1 (by decide)), fun z => absurd rfl z⟩⟩)
    obtain ⟨j, hj⟩ : ∃ j : Nat, vbn E V e n = (j : Int) := ⟨(vbn E V e n).toNat, by omega⟩
    rw [hj, Int.toNat_natCast] at go no
    rw [hj]
    refine M_worthAt hR1 hW hV1 hI hvn he (by omega) (fun m2 hR2 hV2 hk2 => ?_)
    refine M_worthAt hR2 hW hV2 hI hvn he (by omega) (fun m3 hR3 hV3 hk3 => ?_)
    have w1 := vA_b hW hI he (show n < vN V by omega)
    have w2 := vA_b hW hI he (show j < vN V by omega)
    exact ⟨⟨by omega, by omega⟩, ⟨by omega, by omega⟩, fun d => no m3 hR3 hV3 ((hk1.tr hk2).tr hk3) (fun z => by rcases z.2 with y | y <;> omega), fun d => go m3 hR3 hV3 ((hk1.tr hk2).tr hk3) hg (Or.inr d)⟩
theorem M_bestLife {V : VV} {m : MS} {e : Nat} (hR : RepM E m) (hW : WF E) (hV : VM E V m) (hI : VI E V) (hvn : vN V ≤ 18) (hw : ∀ l, vW V l ≤ 3) (he : e < eN E) (hP : ∀ m', RepM E m' → VM E V m' → Kp S14 m m' → P (vbn E V e (vN V)) m') : MMi mX10_bestLife [vr 0, vi (e : Int)] m P :=
  uX10_bestLife m e (M_bestLife4 hW hI hvn hw he (vN V) 0 m hR hV (by omega) hP)
def bi : Bool → Int
  | true => 1
  | false => 0
theorem rng_bi (b : Bool) : rng (bi b) := by cases b <;> exact ⟨by decide, by decide⟩
theorem bi_01 (b : Bool) : bi b = 0 ∨ bi b = 1 := by cases b <;> simp [bi]
theorem M_doubt5 {V : VV} {e L : Nat} (hW : WF E) (hI : VI E V) (hvn : vN V ≤ 18) (hw : ∀ l, vW V l ≤ 3) (he : e < eN E) (hL : L < vN V) : ∀ (t n : Nat) (m : MS), RepM E m → VM E V m → n + t = vN V → (∀ m', RepM E m' → VM E V m' → Kp S14 m m' → P (bi (vRn E V e L (vN V))) m') → YYi mX10_isInDoubt 5 [some (vr 0), some (vi (e : Int)), some (vi (L : Int)), some (vi (bi (vRn E V e L n))), some (vi (n : Int))] [] m P := by
  intro t
  induction t with
  | zero =>
    intro n m hR hV hn hP
    have hn : n = vN V := by omega
    subst hn
    refine uX10_isInDoubt_5 m _ _ _ _ ?_
    rw [hV.1.1]
    exact ⟨⟨by omega, by omega⟩, ⟨by omega, by omega⟩, fun _ => ⟨bi_01 _, hP m hR hV Kp.rf⟩, fun z => by omega⟩
  | succ t ih =>
    intro n m hR hV hn hP
    refine uX10_isInDoubt_5 m _ _ _ _ ?_
    rw [hV.1.1]
    have go : ∀ (b : Bool) m1, RepM E m1 → VM E V m1 → Kp S14 m m1 → (vRn E V e L n || (decide (n ≠ L) && vG E V e n && decide (vA E V e L - vA E V e n ≤ eB E 2))) = b → YYi mX10_isInDoubt 5 [some (vr 0), some (vi (e : Int)), some (vi (L : Int)), some (vi (bi b)), some (vi ((n : Int) + 1))] [] m1 P := by
      intro b m1 hR1 hV1 hk1 hb
      have := ih (n + 1) m1 hR1 hV1 (by omega) (fun m' a b c => hP m' a b (hk1.tr c))
      rw [vRn, hb] at this
      exact this
    refine ⟨⟨by omega, by omega⟩, ⟨by omega, by omega⟩, fun z => by omega, fun _ => ⟨rng_bi _, fun c => ?_, fun c => ?_⟩⟩
    · refine go true m hR hV Kp.rf ?_
      cases hq : vRn E V e L n
      · rw [hq] at c; exact absurd rfl c
      · rfl
    · have hq : vRn E V e L n = false := by
        cases hq : vRn E V e L n
        · rfl
        · rw [hq] at c; exact absurd c (by decide)
      rw [hq] at go
      refine ⟨⟨by omega, by omega⟩, fun d => go false m hR hV Kp.rf (by simp; omega), fun d => ?_⟩
      have d : n ≠ L := fun z => d (by omega)
      refine M_canGo hR hW hV hI hvn hw he (by omega) (fun m1 hR1 hV1 hk1 => ⟨fun hg => ⟨⟨by decide, by decide⟩, fun z => absurd z (by decide), fun _ => ?_⟩, fun hg => ⟨rng_0, fun _ => go false m1 hR1 hV1 hk1 (by simp [hg]), fun z => absurd rfl z⟩⟩)
      refine M_worthAt hR1 hW hV1 hI hvn he hL (fun m2 hR2 hV2 hk2 => ?_)
      refine M_worthAt hR2 hW hV2 hI hvn he (by omega) (fun m3 hR3 hV3 hk3 => ?_)
      have w1 := vA_b hW hI he (show n < vN V by omega)
      have w2 := vA_b hW hI he hL
      have wb := hW.2.2.2.2.2.2
      have h8 : m3 8 (2 : Int).toNat = eB E 2 := hR3.2.2.2.2
      rw [h8]
      exact ⟨⟨by omega, by omega⟩, ⟨by omega, by omega⟩, fun y => go false m3 hR3 hV3 ((hk1.tr hk2).tr hk3) (by simp [hg, d]; omega), fun y => go true m3 hR3 hV3 ((hk1.tr hk2).tr hk3) (by simp [hg, d]; omega)⟩
theorem M_doubt {V : VV} {m : MS} {e L : Nat} (hR : RepM E m) (hW : WF E) (hV : VM E V m) (hI : VI E V) (hvn : vN V ≤ 18) (hw : ∀ l, vW V l ≤ 3) (he : e < eN E) (hL : L < vN V) (hP : ∀ m', RepM E m' → VM E V m' → Kp S14 m m' → P (bi (vRn E V e L (vN V))) m') : MMi mX10_isInDoubt [vr 0, vi (e : Int), vi (L : Int)] m P :=
  uX10_isInDoubt m e L (M_doubt5 hW hI hvn hw he hL (vN V) 0 m hR hV (by omega) hP)
end MK

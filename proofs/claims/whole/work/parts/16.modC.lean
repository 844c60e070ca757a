/-! the reference: WHY, WORTH, what is told of two -/
def cnt (p : Nat → Bool) (n : Nat) : Int := match n with
  | 0 => 0
  | n + 1 => cnt p n + (if p n = true then 1 else 0)
theorem cnt_b (p : Nat → Bool) : ∀ n : Nat, 0 ≤ cnt p n ∧ cnt p n ≤ n := by
  intro n
  induction n with
  | zero => exact ⟨Int.le_refl _, Int.le_refl _⟩
  | succ n ih => unfold cnt; split <;> omega
def sNr (E : EE) (e : Nat) (n : Nat) : Int := match n with
  | 0 => -1
  | n + 1 => if n ≠ e ∧ sFt E e n = true ∧ (sNr E e n = -1 ∨ sWo E e (sNr E e n).toNat < sWo E e n) then (n : Int) else sNr E e n
theorem sNr_b (E : EE) (e : Nat) : ∀ n : Nat, -1 ≤ sNr E e n ∧ sNr E e n < n := by
  intro n
  induction n with
  | zero => unfold sNr; omega
  | succ n ih => unfold sNr; split <;> omega
section MC
variable {E : EE} {P : Int → MS → Prop}
theorem M_whyB {m : MS} {a b : Nat} (hR : RepM E m) (hW : WF E) (ha : a < eN E) (hb : b < eN E) (hk1 : ¬ (eK E a = 0 ∧ eK E b = 0)) (hk2 : ¬ (eK E a = 2 ∧ eK E b = 2)) (k : ∀ m', RepM E m' → Kp S14 m m' → P (sWh E a b) m') :
    MMi mX10_isParted [vr 0, vi (a : Int), vi (b : Int)] m (fun y8 m7 => rng y8 ∧ (y8 = 0 → (MMi mX10_isOutOfOrder [vr 0, vi (a : Int), vi (b : Int)] m7 (fun y11 m10 => rng y11 ∧ (¬ y11 = 0 → (P 4 m10)) ∧ (y11 = 0 → (MMi mX10_isOutOfOrder [vr 0, vi (b : Int), vi (a : Int)] m10 (fun y14 m13 => rng y14 ∧ (y14 = 0 → (MMi mX10_yearsOf [vr 0, vi (a : Int), vi (b : Int)] m13 (fun y17 m16 => rng y17 ∧ (¬ y17 = 0 → (MMi mX10_likeness [vr 0, vi (a : Int), vi (b : Int)] m16 (fun y20 m19 => rng y20 ∧ rng (m19 8 (0 : Int).toNat) ∧ (m19 8 (0 : Int).toNat ≤ y20 → (P 0 m19)) ∧ (y20 < m19 8 (0 : Int).toNat → (P 6 m19))))) ∧ (y17 = 0 → (P 5 m16))))) ∧ (¬ y14 = 0 → (P 4 m13)))))))) ∧ (¬ y8 = 0 → (P 3 m7))) := by
  have r0 : rng 0 := rng_0
  have r1 : rng 1 := ⟨by decide, by decide⟩
  have hwb := hW.2.2.2.2.1
  have hlk := sLk_b hW ha hb
  unfold sWh at k
  rw [if_neg hk1, if_neg hk2] at k
  refine M_parted hR hW ha hb (fun hp => ⟨r1, fun z => absurd z (by decide), fun _ => ?_⟩) (fun hp => ⟨r0, fun _ => ?_, fun z => absurd rfl z⟩)
  · have := k m hR Kp.rf
    rw [if_pos hp] at this
    exact this
  · rw [if_neg (by rw [hp]; decide)] at k
    refine M_order hR hW ha hb (fun ho => ⟨r1, fun _ => ?_, fun z => absurd z (by decide)⟩) (fun ho => ⟨r0, fun z => absurd rfl z, fun _ => ?_⟩)
    · have := k m hR Kp.rf
      rw [if_pos (Or.inl ho)] at this
      exact this
    · refine M_order hR hW hb ha (fun hq => ⟨r1, fun z => absurd z (by decide), fun _ => ?_⟩) (fun hq => ⟨r0, fun _ => ?_, fun z => absurd rfl z⟩)
      · have := k m hR Kp.rf
        rw [if_pos (Or.inr hq)] at this
        exact this
      · rw [if_neg (by rw [ho, hq]; decide)] at k
        have hyb := sYr_b hW ha hb
        refine M_years hR hW ha hb ⟨⟨by omega, by omega⟩, fun hy => ?_, fun hy => ?_⟩
        · rw [if_neg hy] at k
          refine M_like hR hW ha hb (fun m' hR' hk' => ?_)
          have h8 : m' 8 (0 : Int).toNat = eB E 0 := hR'.2.2.1
          rw [h8]
          refine ⟨⟨by omega, by omega⟩, ⟨by omega, by omega⟩, fun c => ?_, fun c => ?_⟩
          · have := k m' hR' hk'
            rw [if_neg (by omega)] at this
            exact this
          · have := k m' hR' hk'
            rw [if_pos c] at this
            exact this
        · have := k m hR Kp.rf
          rw [if_pos hy] at this
          exact this
theorem M_why {m : MS} {a b : Nat} (hR : RepM E m) (hW : WF E) (ha : a < eN E) (hb : b < eN E) (k : ∀ m', RepM E m' → Kp S14 m m' → P (sWh E a b) m') : MMi mX10_why [vr 0, vi (a : Int), vi (b : Int)] m P := by
  have hn := hW.1
  obtain ⟨a1, -⟩ := hR.2.1 a ha
  obtain ⟨b1, -⟩ := hR.2.1 b hb
  obtain ⟨wa, -⟩ := hW.2.1 a ha
  obtain ⟨wb, -⟩ := hW.2.1 b hb
  refine uX10_why m a b ?_
  simp only [Int.toNat_natCast, a1, b1]
  refine ⟨by omega, by omega, by omega, by omega, ⟨by omega, by omega⟩, ⟨by omega, by omega⟩, fun c => ?_, fun c => ⟨fun d => ?_, fun d => ⟨fun e => ?_, fun e => ?_⟩⟩⟩
  · exact M_whyB hR hW ha hb (by omega) (by omega) k
  · exact M_whyB hR hW ha hb (by omega) (by omega) k
  · have := k m hR Kp.rf
    unfold sWh at this
    rw [if_neg (by omega), if_pos (by omega)] at this
    exact this
  · have := k m hR Kp.rf
    unfold sWh at this
    rw [if_pos (by omega)] at this
    exact this
theorem sWh_b {i j : Nat} : 0 ≤ sWh E i j ∧ sWh E i j ≤ 6 := by
  unfold sWh
  repeat (split; · omega)
  omega
theorem sFt_iff {i j : Nat} : sFt E i j = true ↔ sWh E i j = 0 := by simp [sFt]
theorem M_fit {m : MS} {a b : Nat} (hR : RepM E m) (hW : WF E) (ha : a < eN E) (hb : b < eN E) (k : ∀ m', RepM E m' → Kp S14 m m' → (sFt E a b = true → P 1 m') ∧ (sFt E a b = false → P 0 m')) : MMi mX10_isFit [vr 0, vi (a : Int), vi (b : Int)] m P := by
  refine uX10_isFit m a b ?_
  refine M_why hR hW ha hb (fun m' hR' hk => ?_)
  have h := sWh_b (E := E) (i := a) (j := b)
  obtain ⟨k1, k2⟩ := k m' hR' hk
  refine ⟨⟨by omega, by omega⟩, fun c => k2 ?_, fun c => k1 (sFt_iff.mpr c)⟩
  cases hf : sFt E a b
  · rfl
  · exact absurd (sFt_iff.mp hf) c
theorem sWo_b {i j : Nat} (hW : WF E) (hi : i < eN E) (hj : j < eN E) : -1 ≤ sWo E i j ∧ sWo E i j ≤ 1200 := by
  have h1 := sLk_b hW hi hj
  have h2 := hW.2.2.2.2.1
  unfold sWo
  split
  next h =>
    have h3 := sYr_b hW hi hj
    unfold sWh at h
    split at h; · omega
    split at h; · omega
    split at h; · omega
    split at h; · omega
    split at h; · omega
    split at h; · omega
    have := tdiv_b (x := 200) (y := sYr E i j) (by omega) (by omega)
    omega
  · omega
theorem sWo_fit {i j : Nat} (hW : WF E) (hi : i < eN E) (hj : j < eN E) (hf : sFt E i j = true) : 0 ≤ sWo E i j ∧ sYr E i j ≠ 0 := by
  have h0 := sFt_iff.mp hf
  have h1 := sLk_b hW hi hj
  have h2 := hW.2.2.2.2.1
  have h3 := sYr_b hW hi hj
  unfold sWo
  rw [if_pos h0]
  unfold sWh at h0
  split at h0; · omega
  split at h0; · omega
  split at h0; · omega
  split at h0; · omega
  split at h0; · omega
  split at h0; · omega
  have := tdiv_b (x := 200) (y := sYr E i j) (by omega) (by omega)
  exact ⟨by omega, by omega⟩
theorem sWo_no {i j : Nat} (hf : sFt E i j = false) : sWo E i j = -1 := by
  unfold sWo
  rw [if_neg (fun z => by rw [sFt_iff.mpr z] at hf; cases hf)]
theorem M_worth {m : MS} {a b : Nat} (hR : RepM E m) (hW : WF E) (ha : a < eN E) (hb : b < eN E) (k : ∀ m', RepM E m' → Kp S14 m m' → P (sWo E a b) m') : MMi mX10_worthOf [vr 0, vi (a : Int), vi (b : Int)] m P := by
  have hyb := sYr_b hW ha hb
  refine uX10_worthOf m a b ?_
  refine M_fit hR hW ha hb (fun m1 hR1 hk1 => ⟨fun hf => ⟨⟨by decide, by decide⟩, fun z => absurd z (by decide), fun _ => ?_⟩, fun hf => ⟨rng_0, fun _ => ?_, fun z => absurd rfl z⟩⟩)
  · refine M_like hR1 hW ha hb (fun m2 hR2 hk2 => ?_)
    refine M_years hR2 hW ha hb ⟨⟨by omega, by omega⟩, (sWo_fit hW ha hb hf).2, ?_⟩
    have := k m2 hR2 (hk1.tr hk2)
    unfold sWo at this
    rw [if_pos (sFt_iff.mp hf)] at this
    exact this
  · have := k m1 hR1 hk1
    rw [sWo_no hf] at this
    exact this
theorem M_isEntry {m : MS} {x : Int} (hR : RepM E m) (hW : WF E) (rx : rng x) (hT : ∀ i : Nat, x = (i : Int) → i < eN E → P 1 m) (hF : ¬ (0 ≤ x ∧ x < eN E) → P 0 m) : MMi mX10_isEntry [vr 0, vi x] m P := by
  have hn := hW.1
  refine uX10_isEntry m x ?_
  rw [hR.1]
  refine M_within rx rng_0 ⟨by omega, by omega⟩ (fun c => ⟨Or.inr rfl, ?_⟩) (fun c => ⟨Or.inl rfl, hF (by omega)⟩)
  exact hT x.toNat (by omega) (by omega)
theorem M_fitsN4 {e : Nat} (hW : WF E) (he : e < eN E) : ∀ (t i : Nat) (m : MS), RepM E m → i + t = eN E → (∀ m', RepM E m' → Kp S14 m m' → P (cnt (fun k => decide (k ≠ e) && sFt E e k) (eN E)) m') →
    YYi mX10_fitsNow 4 [some (vr 0), some (vi (e : Int)), some (vi (cnt (fun k => decide (k ≠ e) && sFt E e k) i)), some (vi (i : Int))] [] m P := by
  have hn := hW.1
  intro t
  induction t with
  | zero =>
    intro i m hR hi k
    have hi : i = eN E := by omega
    subst hi
    refine uX10_fitsNow_4 m e _ _ ?_
    rw [hR.1]
    exact ⟨⟨by omega, by omega⟩, ⟨by omega, by omega⟩, fun _ => k m hR Kp.rf, fun z => by omega⟩
  | succ t ih =>
    intro i m hR hi k
    refine uX10_fitsNow_4 m e _ _ ?_
    rw [hR.1]
    refine ⟨⟨by omega, by omega⟩, ⟨by omega, by omega⟩, fun z => by omega, fun _ => ⟨⟨by omega, by omega⟩, fun c => ?_, fun c => ?_⟩⟩
    · have := ih (i + 1) m hR (by omega) k
      rw [show cnt (fun k => decide (k ≠ e) && sFt E e k) (i + 1) = cnt (fun k => decide (k ≠ e) && sFt E e k) i + 0 by rw [cnt, if_neg (by simp; intro h; omega)]] at this
      exact this
    · have hie : i ≠ e := by omega
      refine M_fit hR hW he (by omega) (fun m1 hR1 hk1 => ⟨fun hf => ⟨⟨by decide, by decide⟩, fun z => absurd z (by decide), fun _ => ?_⟩, fun hf => ⟨rng_0, fun _ => ?_, fun z => absurd rfl z⟩⟩)
      · have := ih (i + 1) m1 hR1 (by omega) (fun m2 h2 k2 => k m2 h2 (hk1.tr k2))
        rw [show cnt (fun k => decide (k ≠ e) && sFt E e k) (i + 1) = cnt (fun k => decide (k ≠ e) && sFt E e k) i + 1 by rw [cnt, if_pos (by simp [hie, hf])]] at this
        exact this
      · have := ih (i + 1) m1 hR1 (by omega) (fun m2 h2 k2 => k m2 h2 (hk1.tr k2))
        rw [show cnt (fun k => decide (k ≠ e) && sFt E e k) (i + 1) = cnt (fun k => decide (k ≠ e) && sFt E e k) i + 0 by rw [cnt, if_neg (by simp [hf])]] at this
        exact this
/-- fits -/
def sFs (E : EE) (e : Nat) : Int := cnt (fun k => decide (k ≠ e) && sFt E e k) (eN E)
theorem M_fitsN {m : MS} {e : Nat} (hR : RepM E m) (hW : WF E) (he : e < eN E) (k : ∀ m', RepM E m' → Kp S14 m m' → P (sFs E e) m') : MMi mX10_fitsNow [vr 0, vi (e : Int)] m P :=
  uX10_fitsNow m e (M_fitsN4 hW he (eN E) 0 m hR (by omega) k)
theorem M_nearN4 {e : Nat} (hW : WF E) (he : e < eN E) : ∀ (t i : Nat) (m : MS), RepM E m → i + t = eN E → (∀ m', RepM E m' → Kp S14 m m' → P (sNr E e (eN E)) m') →
    YYi mX10_nearestNow 4 [some (vr 0), some (vi (e : Int)), some (vi (sNr E e i)), some (vi (i : Int)), none] [] m P := by
  have hn := hW.1
  intro t
  induction t with
  | zero =>
    intro i m hR hi k
    have hi : i = eN E := by omega
    subst hi
    refine uX10_nearestNow_4 m e _ _ ?_
    rw [hR.1]
    exact ⟨⟨by omega, by omega⟩, ⟨by omega, by omega⟩, fun _ => k m hR Kp.rf, fun z => by omega⟩
  | succ t ih =>
    intro i m hR hi k
    have hb := sNr_b E e i
    refine uX10_nearestNow_4 m e _ _ ?_
    rw [hR.1]
    refine ⟨⟨by omega, by omega⟩, ⟨by omega, by omega⟩, fun z => by omega, fun _ => ⟨⟨by omega, by omega⟩, fun c => ?_, fun c => ?_⟩⟩
    · have := ih (i + 1) m hR (by omega) k
      rw [sNr, if_neg (by intro h; omega)] at this
      exact this
    · have hie : i ≠ e := by omega
      refine M_fit hR hW he (by omega) (fun m1 hR1 hk1 => ⟨fun hf => ⟨⟨by decide, by decide⟩, fun z => absurd z (by decide), fun _ => ⟨⟨by omega, by omega⟩, fun d => ?_, fun d => ?_⟩⟩, fun hf => ⟨rng_0, fun _ => ?_, fun z => absurd rfl z⟩⟩)
      · have := ih (i + 1) m1 hR1 (by omega) (fun m2 h2 k2 => k m2 h2 (hk1.tr k2))
        rw [sNr, if_pos ⟨hie, hf, Or.inl d⟩] at this
        exact this
      · obtain ⟨j, hj⟩ : ∃ j : Nat, sNr E e i = (j : Int) := ⟨(sNr E e i).toNat, by omega⟩
        have w1 := sWo_b hW he (show i < eN E by omega)
        have w2 := sWo_b hW he (show j < eN E by omega)
        rw [hj]
        refine M_worth hR1 hW he (by omega) (fun m2 hR2 hk2 => ?_)
        refine M_worth hR2 hW he (by omega) (fun m3 hR3 hk3 => ⟨⟨by omega, by omega⟩, ⟨by omega, by omega⟩, fun c2 => ?_, fun c2 => ?_⟩)
        · have := ih (i + 1) m3 hR3 (by omega) (fun m4 h4 k4 => k m4 h4 (((hk1.tr hk2).tr hk3).tr k4))
          rw [sNr, if_neg (by rw [hj, Int.toNat_natCast]; intro h; omega), hj] at this
          exact this
        · have := ih (i + 1) m3 hR3 (by omega) (fun m4 h4 k4 => k m4 h4 (((hk1.tr hk2).tr hk3).tr k4))
          rw [sNr, if_pos ⟨hie, hf, Or.inr (by rw [hj, Int.toNat_natCast]; exact c2)⟩] at this
          exact this
      · have := ih (i + 1) m1 hR1 (by omega) (fun m2 h2 k2 => k m2 h2 (hk1.tr k2))
        rw [sNr, if_neg (by rw [hf]; intro h; exact absurd h.2.1 (by decide))] at this
        exact this
theorem M_nearN {m : MS} {e : Nat} (hR : RepM E m) (hW : WF E) (he : e < eN E) (k : ∀ m', RepM E m' → Kp S14 m m' → P (sNr E e (eN E)) m') : MMi mX10_nearestNow [vr 0, vi (e : Int)] m P :=
  uX10_nearestNow m e (M_nearN4 hW he (eN E) 0 m hR (by omega) k)
/-- two() of two entries -/
def sTw (E : EE) (a b : Nat) (w : Int) : Int := if w = 0 then sDi E a b else if w = 1 then sLk E a b else if w = 2 then sWh E a b else if w = 3 then sWo E a b else sYr E a b
theorem M_twoN {m : MS} {a b : Nat} {w : Int} (hR : RepM E m) (hW : WF E) (ha : a < eN E) (hb : b < eN E) (rw_ : rng w) (k : ∀ m', RepM E m' → Kp S14 m m' → P (sTw E a b w) m') : MMi mX10_twoNow [vr 0, vi (a : Int), vi (b : Int), vi w] m P := by
  unfold sTw at k
  refine uX10_twoNow m a b w ⟨rw_, fun c => ?_, fun c => ?_, fun c => ?_, fun c => ?_, fun c => ?_⟩
  · rw [if_neg (by omega), if_neg (by omega), if_neg (by omega), if_neg (by omega)] at k
    exact M_years hR hW ha hb (k m hR Kp.rf)
  · subst c; exact M_dist hR hW ha hb k
  · subst c; exact M_like hR hW ha hb k
  · subst c; exact M_why hR hW ha hb k
  · subst c; exact M_worth hR hW ha hb k
end MC

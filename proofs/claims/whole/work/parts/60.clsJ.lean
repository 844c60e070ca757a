/-! the class's lives: shaky or not -/
theorem sFt_sym {E : EE} {i j : Nat} (hp : eP E i j = eP E j i) : sFt E i j = sFt E j i := by unfold sFt; rw [sWh_sym hp]
theorem vHn_up {E : EE} {b d n : Nat} (h : vHn E b d n = true) : ∀ t, vHn E b d (n + t) = true := by
  intro t
  induction t with
  | zero => exact h
  | succ t ih => rw [← Nat.add_assoc, vHn, ih]; rfl
theorem PrX.k117 {E : EE} {g g' : GS} (h : PrX E g) (hW : WF E) (hk : Kx Sx117 g g') : PrX E g' := by
  have h18 := hW.1
  obtain ⟨h1, h2, h3⟩ := h
  refine ⟨by rw [hk.1 _ _ (by unfold Sx117; omega)]; exact h1, fun i hi => by rw [hk.1 _ _ (by unfold Sx117; omega)]; exact h2 i hi, fun i j hi hj hn => ?_⟩
  unfold PairX
  rw [hk.1 _ _ (by unfold Sx117; omega), hk.1 _ _ (by unfold Sx117; omega)]
  exact h3 i j hi hj hn
section XJ
variable {P : Int → GS → Prop} {E : EE} {g : GS}
theorem X_sh37 (hW : WF E) (hR : RegX E g) (hX : PrX E g) {l b d : Nat} (hl : l < 18) (h3 : g.1 (121 + 2 * l) 3 = (b : Int)) (h4 : g.1 (121 + 2 * l) 4 = (d : Int)) (hb : b < eN E) (hd : d < eN E) (kb : eK E b = 0) (kd : eK E d = 2) (hT : vHn E b d (eN E) = true → P 1 g) (hF : vHn E b d (eN E) = false → P 0 g) : ∀ (t n : Nat), n + t = eN E → vHn E b d n = false → XXi mX2_isShaky 37 [some (vr (121 + 2 * l)), some (vr 8), some (vr 65), some (vi (eB E 2)), some (vi (sWo E b d)), some (vi (n : Int)), none, none, none] [] g P := by
  have h18 := hW.1
  have w2 := hW.2.2.2.2.2.2
  intro t
  induction t with
  | zero =>
    intro n hn hf
    have hn : n = eN E := by omega
    subst hn
    refine uX2_isShaky_37 g l hl _ _ _ ?_
    rw [hR.1]
    exact ⟨⟨by omega, by omega⟩, ⟨by omega, by omega⟩, fun _ => hF hf, fun z => by omega⟩
  | succ t ih =>
    intro n hn hf
    have hnE : n < eN E := by omega
    obtain ⟨-, a2, -⟩ := hR.2.2.2.2.1 n hnE
    obtain ⟨w1, -⟩ := hW.2.1 n hnE
    have hwb := sWo_b hW hb hd
    have next : vH1 E b d n = false → vH2 E b d n = false → XXi mX2_isShaky 37 [some (vr (121 + 2 * l)), some (vr 8), some (vr 65), some (vi (eB E 2)), some (vi (sWo E b d)), some (vi ((n : Int) + 1)), none, none, none] [] g P := by
      intro e1 e2
      refine ih (n + 1) (by omega) ?_
      rw [vHn, hf, e1, e2]; rfl
    have stop : vH1 E b d n = true ∨ vH2 E b d n = true → P 1 g := by
      intro h
      refine hT ?_
      have := vHn_up (E := E) (b := b) (d := d) (n := n + 1) (by rw [vHn]; rcases h with h | h <;> simp [h]) t
      rw [show n + 1 + t = eN E by omega] at this
      exact this
    refine uX2_isShaky_37 g l hl _ _ _ ?_
    rw [hR.1]
    simp only [Int.toNat_natCast]
    rw [a2, h3, h4]
    refine ⟨⟨by omega, by omega⟩, ⟨by omega, by omega⟩, fun z => by omega, fun _ => ⟨by omega, by omega, hR.2.1 n (by omega), ⟨by omega, by omega⟩, fun c => ⟨fun c2 => ?_, fun c2 => ?_⟩, fun c => ?_⟩⟩
    · refine uX2_isShaky_84 g l hl _ _ _ _ ⟨⟨by decide, by decide⟩, fun _ => next ?_ ?_, fun z => absurd rfl z⟩
      · simp [vH1, c]
      · simp [vH2, c2]
    · refine uX2_isShaky_84 g l hl _ _ _ _ ?_
      rw [h3, h4]
      have e1 : vH1 E b d n = false := by simp [vH1, c]
      refine ⟨⟨by omega, by omega⟩, fun z => by omega, fun _ => ⟨⟨by omega, by omega⟩, ⟨by omega, by omega⟩, fun z => next e1 ?_, fun z => ⟨⟨by omega, by omega⟩, fun z2 => ?_, fun z2 => ?_⟩⟩⟩
      · have z : n = b := by omega
        simp [vH2, z]
      · exfalso
        have z2 : n = d := by omega
        rw [z2] at c2; omega
      · have hwn := sWo_b hW hd hnE
        refine X_fit hX hW hd hnE (by omega) (fun f1 f2 => ⟨⟨by decide, by decide⟩, fun z => absurd z (by decide), fun _ => ?_⟩) (fun f1 f2 => ⟨rng_0, fun _ => next e1 ?_, fun z => absurd rfl z⟩)
        · simp only [Int.toNat_natCast]
          rw [(hX.2.2 d n hd hnE (by omega)).2, sWo_sym (hW.2.2.1 d n)] at *
          refine ⟨by omega, by omega, by omega, by omega, ⟨by omega, by omega⟩, ⟨by omega, by omega⟩, fun q => next e1 ?_, fun q => stop (Or.inr ?_)⟩
          · have : ¬ (sWo E b d - eB E 2 ≤ sWo E n d) := by omega
            simp [vH2, this]
          · have : sWo E b d - eB E 2 ≤ sWo E n d := by omega
            have hnb : n ≠ b := by omega
            rw [sFt_sym (hW.2.2.1 d n)] at f1
            simp [vH2, this, c2, hnb, f1]
        · rw [sFt_sym (hW.2.2.1 d n)] at f1
          simp [vH2, f1]
    · refine uX2_isShaky_84 g l hl _ _ _ _ ?_
      rw [h3, h4]
      have e2 : vH2 E b d n = false := by simp [vH2, c]
      refine ⟨⟨by omega, by omega⟩, fun z => by omega, fun _ => ⟨⟨by omega, by omega⟩, ⟨by omega, by omega⟩, fun z => ?_, fun z => ⟨⟨by omega, by omega⟩, fun z2 => next ?_ e2, fun z2 => ?_⟩⟩⟩
      · exfalso
        have z : n = b := by omega
        rw [z] at c; omega
      · have z2 : n = d := by omega
        simp [vH1, z2]
      · have hwn := sWo_b hW hb hnE
        refine X_fit hX hW hb hnE (by omega) (fun f1 f2 => ⟨⟨by decide, by decide⟩, fun z => absurd z (by decide), fun _ => ?_⟩) (fun f1 f2 => ⟨rng_0, fun _ => next ?_ e2, fun z => absurd rfl z⟩)
        · simp only [Int.toNat_natCast]
          rw [(hX.2.2 b n hb hnE (by omega)).2]
          refine ⟨by omega, by omega, by omega, by omega, ⟨by omega, by omega⟩, ⟨by omega, by omega⟩, fun q => next ?_ e2, fun q => stop (Or.inl ?_)⟩
          · have : ¬ (sWo E b d - eB E 2 ≤ sWo E b n) := by omega
            simp [vH1, this]
          · have : sWo E b d - eB E 2 ≤ sWo E b n := by omega
            have hnd : n ≠ d := by omega
            simp [vH1, this, c, hnd, f1]
        · simp [vH1, f1]
theorem X_shaky {V : VV} {l : Nat} (hW : WF E) (hR : RegX E g) (hX : PrX E g) (hI : VI E V) (hl : l < vN V) (hvn : vN V ≤ 18) (hL : LifeG E V g l) (hP : P (bi (vH E V l)) g) : MXi mX2_isShaky [vr (121 + 2 * l), vr 8, vr 65, vi (eB E 2)] g P := by
  have h18 := hW.1
  obtain ⟨-, -, h3, h4, -⟩ := hL
  obtain ⟨i1, i2, -⟩ := hI.2.1 l hl
  have hb' : -1 ≤ vB V l ∧ vB V l < 18 := by rcases i1 with c | ⟨b, hb, c, -⟩ <;> omega
  have hd' : -1 ≤ vD V l ∧ vD V l < 18 := by rcases i2 with c | ⟨b, hb, c, -⟩ <;> omega
  refine uX2_isShaky g l (by omega) _ ?_
  rw [h3, h4]
  refine ⟨⟨by omega, by omega⟩, fun c => ?_, fun c => ⟨⟨by omega, by omega⟩, fun d => ⟨by omega, by omega, by omega, by omega, ?_⟩, fun d => ?_⟩⟩
  · rw [show vH E V l = false by simp [vH, c]] at hP; exact hP
  · obtain ⟨b, b1, b2, b3, b4⟩ := i1.resolve_left c
    obtain ⟨q, d1, d2, d3, d4⟩ := i2.resolve_left d
    rw [b2, d2]
    simp only [Int.toNat_natCast]
    have hbd : b ≠ q := fun z => by rw [z] at b3; omega
    rw [(hX.2.2 b q b1 d1 hbd).2]
    have hv : vH E V l = vHn E b q (eN E) := by
      unfold vH
      rw [b2, d2, Int.toNat_natCast, Int.toNat_natCast, decide_eq_true (show (b : Int) ≠ -1 by omega), decide_eq_true (show (q : Int) ≠ -1 by omega)]
      rfl
    rw [hv] at hP
    refine X_sh37 hW hR hX (by omega) (by rw [h3, b2]) (by rw [h4, d2]) b1 d1 b3 d3 (fun e => ?_) (fun e => ?_) (eN E) 0 (by omega) rfl
    · rw [e] at hP; exact hP
    · rw [e] at hP; exact hP
  · rw [show vH E V l = false by simp [vH, d]] at hP; exact hP
end XJ
section XJ2
variable {P : GS → Prop} {E : EE}
/-- the lives of the match stand, the first n are known to be shaky or not -/
def OS (E : EE) (n : Nat) (g0 g : GS) : Prop := Kx Sx117 g0 g ∧ LvX E (sVf E) g ∧ (∀ l, l < vN (sVf E) → g.1 (121 + 2 * l) 8 = if l < n then bi (vH E (sVf E) l) else 0) ∧ g.1 117 4 = 0 ∧ g.1 117 3 = (vN (sVf E) : Int) ∧ (∀ e, e < eN E → vO (sVf E) e ≠ -1 → g.1 119 e = vO (sVf E) e)
theorem X_set27 (hW : WF E) (h7 : W7 E) {g0 : GS} (hR0 : RegX E g0) (hX0 : PrX E g0) (hP : ∀ g', OS E (vN (sVf E)) g0 g' → XXv mX2_settle 69 [some (vr 117), some (vr 8), some (vr 65), none, some (vi (eB E 2)), some (vi 0)] [] g' P) : ∀ (t n : Nat) (g : GS), n + t = vN (sVf E) → OS E n g0 g → XXv mX2_settle 27 [some (vr 117), some (vr 8), some (vr 65), none, some (vi (eB E 2)), some (vi (n : Int))] [] g P := by
  obtain ⟨hI, -, hvn, -⟩ := Vf_ok hW
  have h1 : nB E ≤ 7 := h7.1
  have h2 : nD E ≤ 7 := h7.2.2
  intro t
  induction t with
  | zero =>
    intro n g hn hS
    have hn : n = vN (sVf E) := by omega
    subst hn
    refine uX2_settle_27 g _ _ ?_
    rw [hS.2.2.2.2.1]
    exact ⟨⟨by omega, by omega⟩, ⟨by omega, by omega⟩, fun _ => hP g hS, fun z => by omega⟩
  | succ t ih =>
    intro n g hn hS
    obtain ⟨s1, s2, s3, s4, s5, s6⟩ := hS
    refine uX2_settle_27 g _ _ ?_
    rw [s5]
    simp only [Int.toNat_natCast]
    refine ⟨⟨by omega, by omega⟩, ⟨by omega, by omega⟩, fun z => by omega, fun _ => ⟨by omega, by omega, ?_⟩⟩
    refine X_shaky hW (hR0.k117 hW s1) (hX0.k117 hW s1) hI (by omega) (by omega) (s2.2 n (by omega)) ⟨bi_01 _, fun g1 e1 => ?_⟩
    refine ih (n + 1) g1 (by omega) ⟨?_, ⟨?_, fun l hl => ?_⟩, fun l hl => ?_, ?_, ?_, fun e he hne => ?_⟩
    · rw [e1]; exact s1.tr (Kx.st (by unfold Sx117; omega))
    · rw [e1, gI_ne (by omega)]; exact s2.1
    · exact (s2.2 l hl).kx (fun j hj => by rw [e1, gI_ne (by omega)]) (fun j => by rw [e1, gI_ne (by omega)]) rfl rfl rfl (fun k _ => Iff.rfl)
    · by_cases c : l = n
      · rw [c, e1, gI_eq, if_pos (by omega)]
      · rw [e1, gI_ne (by omega), s3 l hl]
        by_cases d : l < n
        · rw [if_pos d, if_pos (by omega)]
        · rw [if_neg d, if_neg (by omega)]
    · rw [e1, gI_ne (by omega)]; exact s4
    · rw [e1, gI_ne (by omega)]; exact s5
    · rw [e1, gI_ne (by omega)]; exact s6 e he hne
end XJ2

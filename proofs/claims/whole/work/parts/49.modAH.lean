/-! the reference: digest -/
def DG (A : AA) (h : Int) (m : MS) : Prop := RepA A m ∧ VM (pE A) (sVz (pE A)) m ∧ m 0 33 = h
section MAH
variable {P : MS → Prop} {A : AA}
theorem M_mix {h v : Int} {m : MS} (hD : DG A h m) (hP : ∀ m', DG A (31 * h + v) m' → P m') : MMv mX10_mix [vr 0, vl v] m P := by
  obtain ⟨hR, hV, hh⟩ := hD
  refine uX10_mix m v (fun m' e => hP m' ⟨?_, ?_, ?_⟩)
  · exact hR.kp (m' := m') (by rw [e]; exact Kp.st (Or.inr ⟨rfl, by omega⟩))
  · obtain ⟨⟨v1, v2⟩, v3⟩ := hV
    rw [e]
    exact ⟨⟨by rw [mI_ne (by omega)]; exact v1, fun l hl => by rw [mI_ne (by omega), mI_ne (by omega), mI_ne (by omega)]; exact v2 l hl⟩, fun x hx => by rw [mI_ne (by omega)]; exact v3 x hx⟩
  · rw [e, mI_eq, hh]
theorem DG.k14 {h : Int} {m m' : MS} (hD : DG A h m) (hk : Kp S14 m m') : DG A h m' := ⟨hD.1.kp hk.a14, hD.2.1.k14 hk, by rw [hk 0 33 (fun z => by unfold S14 at z; omega)]; exact hD.2.2⟩
theorem M_me16 (hW : WFA A) {e : Nat} (he : e < eN (pE A)) {h0 : Int} (hP : ∀ m, DG A (mxN (fun w h => 31 * h + vEt (pE A) (sVz (pE A)) e (w : Int)) 8 h0) m → YYv mX10_mixEntries 41 [some (vr 0), some (vi (e : Int)), some (vi 0), none] [] m P) : ∀ (t w : Nat) (m : MS), w + t = 8 → DG A (mxN (fun w h => 31 * h + vEt (pE A) (sVz (pE A)) e (w : Int)) w h0) m → YYv mX10_mixEntries 16 [some (vr 0), some (vi (e : Int)), some (vi (w : Int)), none] [] m P := by
  obtain ⟨hI, hvn, -⟩ := Vz_ok hW.2.2.1
  intro t
  induction t with
  | zero =>
    intro w m hw hD
    have hw : w = 8 := by omega
    subst hw
    exact uX10_mixEntries_16 m _ _ ⟨⟨by omega, by omega⟩, fun _ => hP m hD, fun z => by omega⟩
  | succ t ih =>
    intro w m hw hD
    refine uX10_mixEntries_16 m _ _ ⟨⟨by omega, by omega⟩, fun z => by omega, fun _ => ?_⟩
    refine M_entryNow hD.1.2.2.1 hW.2.2.1 hD.2.1 hI hvn he ⟨by omega, by omega⟩ ⟨vEt_r hW.2.2.1 hI hvn he, ?_⟩
    exact M_mix hD (fun m' hD' => ih (w + 1) m' (by omega) hD')
theorem M_me41 (hW : WFA A) {e : Nat} (he : e < eN (pE A)) {h0 : Int} (hP : ∀ m, DG A (31 * (31 * (mxN (fun i h => 31 * h + eW (pE A) e i) (eL (pE A) e).toNat h0) + sFs (pE A) e) + sNr (pE A) e (eN (pE A))) m → YYv mX10_mixEntries 6 [some (vr 0), some (vi ((e : Int) + 1)), none, none] [] m P) : ∀ (t i : Nat) (m : MS), i + t = (eL (pE A) e).toNat → DG A (mxN (fun i h => 31 * h + eW (pE A) e i) i h0) m → YYv mX10_mixEntries 41 [some (vr 0), some (vi (e : Int)), some (vi (i : Int)), none] [] m P := by
  have hn := hW.2.2.1.1
  obtain ⟨w1, w2, w3, w4, w5⟩ := hW.2.2.1.2.1 e he
  intro t
  induction t with
  | zero =>
    intro i m hi hD
    have hi : i = (eL (pE A) e).toNat := by omega
    subst hi
    obtain ⟨-, -, -, a4, -⟩ := hD.1.2.2.1.2.1 e he
    refine uX10_mixEntries_41 m _ _ ?_
    rw [Int.toNat_natCast, a4]
    refine ⟨by omega, by omega, ⟨by omega, by omega⟩, ⟨by omega, by omega⟩, fun _ => ?_, fun z => by omega⟩
    refine M_fitsN hD.1.2.2.1 hW.2.2.1 he (fun m1 hR1 k1 => ⟨?_, ?_⟩)
    · have := cnt_b (fun k => decide (k ≠ e) && sFt (pE A) e k) (eN (pE A))
      unfold sFs
      exact ⟨by omega, by omega⟩
    refine M_mix (hD.k14 k1) (fun m2 hD2 => ?_)
    refine M_nearN hD2.1.2.2.1 hW.2.2.1 he (fun m3 hR3 k3 => ⟨?_, ?_⟩)
    · have := sNr_b (pE A) e (eN (pE A))
      exact ⟨by omega, by omega⟩
    exact M_mix (hD2.k14 k3) (fun m4 hD4 => hP m4 hD4)
  | succ t ih =>
    intro i m hi hD
    obtain ⟨-, -, -, a4, a5, -⟩ := hD.1.2.2.1.2.1 e he
    have hc := w5 i (by omega)
    refine uX10_mixEntries_41 m _ _ ?_
    rw [show 8 * (e : Int) + (i : Int) = ((8 * e + i : Nat) : Int) by omega, Int.toNat_natCast, Int.toNat_natCast, a4, a5 i (by omega)]
    refine ⟨by omega, by omega, ⟨by omega, by omega⟩, ⟨by omega, by omega⟩, fun z => by omega, fun _ => ⟨by omega, by omega, ⟨by omega, by omega⟩, ?_⟩⟩
    exact M_mix hD (fun m' hD' => ih (i + 1) m' (by omega) hD')
theorem M_me123 (hW : WFA A) {i j : Nat} (hi : i < eN (pE A)) (hj : j < eN (pE A)) {h0 : Int} (hP : ∀ m, DG A (dT2 (pE A) i j h0) m → YYv mX10_mixEntries 113 [some (vr 0), some (vi (i : Int)), some (vi ((j : Int) + 1)), none] [] m P) : ∀ (t w : Nat) (m : MS), w + t = 5 → DG A (mxN (fun w h => 31 * h + sTw (pE A) i j (w : Int)) w h0) m → YYv mX10_mixEntries 123 [some (vr 0), some (vi (i : Int)), some (vi (j : Int)), some (vi (w : Int))] [] m P := by
  intro t
  induction t with
  | zero =>
    intro w m hw hD
    have hw : w = 5 := by omega
    subst hw
    exact uX10_mixEntries_123 m _ _ _ ⟨⟨by omega, by omega⟩, fun _ => hP m hD, fun z => by omega⟩
  | succ t ih =>
    intro w m hw hD
    refine uX10_mixEntries_123 m _ _ _ ⟨⟨by omega, by omega⟩, fun z => by omega, fun _ => ?_⟩
    refine M_twoN hD.1.2.2.1 hW.2.2.1 hi hj ⟨by omega, by omega⟩ (fun m1 hR1 k1 => ⟨sTw_r hW.2.2.1 hi hj, ?_⟩)
    exact M_mix (hD.k14 k1) (fun m' hD' => ih (w + 1) m' (by omega) hD')
theorem M_me113 (hW : WFA A) {i : Nat} (hi : i < eN (pE A)) {h0 : Int} (hP : ∀ m, DG A (dT1 (pE A) i h0) m → YYv mX10_mixEntries 101 [some (vr 0), some (vi ((i : Int) + 1)), none, none] [] m P) : ∀ (t d : Nat) (m : MS), d + t = eN (pE A) - (i + 1) → DG A (mxN (fun d h => dT2 (pE A) i (i + 1 + d) h) d h0) m → YYv mX10_mixEntries 113 [some (vr 0), some (vi (i : Int)), some (vi (((i + 1 + d : Nat)) : Int)), none] [] m P := by
  have hn := hW.2.2.1.1
  intro t
  induction t with
  | zero =>
    intro d m hd hD
    have hd : d = eN (pE A) - (i + 1) := by omega
    subst hd
    refine uX10_mixEntries_113 m _ _ ?_
    rw [hD.1.2.2.1.1]
    exact ⟨⟨by omega, by omega⟩, ⟨by omega, by omega⟩, fun _ => hP m hD, fun z => by omega⟩
  | succ t ih =>
    intro d m hd hD
    refine uX10_mixEntries_113 m _ _ ?_
    rw [hD.1.2.2.1.1]
    refine ⟨⟨by omega, by omega⟩, ⟨by omega, by omega⟩, fun z => by omega, fun _ => ?_⟩
    exact M_me123 hW hi (show i + 1 + d < eN (pE A) by omega) (fun m' hD' => ih (d + 1) m' (by omega) hD') 5 0 m (by omega) hD
theorem M_me101 (hW : WFA A) {h0 : Int} (hP : ∀ m, DG A (dT (pE A) h0) m → P m) : ∀ (t i : Nat) (m : MS), i + t = eN (pE A) → DG A (mxN (dT1 (pE A)) i h0) m → YYv mX10_mixEntries 101 [some (vr 0), some (vi (i : Int)), none, none] [] m P := by
  have hn := hW.2.2.1.1
  intro t
  induction t with
  | zero =>
    intro i m hi hD
    have hi : i = eN (pE A) := by omega
    subst hi
    refine uX10_mixEntries_101 m _ ?_
    rw [hD.1.2.2.1.1]
    exact ⟨⟨by omega, by omega⟩, ⟨by omega, by omega⟩, fun _ => hP m hD, fun z => by omega⟩
  | succ t ih =>
    intro i m hi hD
    refine uX10_mixEntries_101 m _ ?_
    rw [hD.1.2.2.1.1]
    refine ⟨⟨by omega, by omega⟩, ⟨by omega, by omega⟩, fun z => by omega, fun _ => ?_⟩
    exact M_me113 hW (by omega) (fun m' hD' => ih (i + 1) m' (by omega) hD') (eN (pE A) - (i + 1)) 0 m (by omega) hD
theorem M_me6 (hW : WFA A) {h0 : Int} (hP : ∀ m, DG A (dT (pE A) (dE (pE A) h0)) m → P m) : ∀ (t e : Nat) (m : MS), e + t = eN (pE A) → DG A (mxN (dE1 (pE A)) e h0) m → YYv mX10_mixEntries 6 [some (vr 0), some (vi (e : Int)), none, none] [] m P := by
  have hn := hW.2.2.1.1
  intro t
  induction t with
  | zero =>
    intro e m he hD
    have he : e = eN (pE A) := by omega
    subst he
    refine uX10_mixEntries_6 m _ ?_
    rw [hD.1.2.2.1.1]
    exact ⟨⟨by omega, by omega⟩, ⟨by omega, by omega⟩, fun _ => M_me101 hW hP (eN (pE A)) 0 m (by omega) hD, fun z => by omega⟩
  | succ t ih =>
    intro e m he hD
    refine uX10_mixEntries_6 m _ ?_
    rw [hD.1.2.2.1.1]
    refine ⟨⟨by omega, by omega⟩, ⟨by omega, by omega⟩, fun z => by omega, fun _ => ?_⟩
    refine M_me16 hW (by omega) (fun m1 hD1 => ?_) 8 0 m (by omega) hD
    exact M_me41 hW (by omega) (fun m2 hD2 => ih (e + 1) m2 (by omega) hD2) (eL (pE A) e).toNat 0 m1 (by omega) hD1
end MAH

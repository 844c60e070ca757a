/-! the class's digest -/
section XR
variable {P : Int → GS → Prop} {A : AA} {g : GS}
theorem X_mixed {h v : Int} (hP : P (31 * h + v) g) : MXl mX9_mixed [vl h, vl v] g P := uX9_mixed g h v hP
theorem X_me62 (h0 : Rep0 A g) (hD : DrX (pE A) g) (hW : WFA A) {e : Nat} (he : e < eN (pE A)) {x : Int} (hP : XXl mX9_mixEntries 5 [some (vr 0), none, none, some (vl (31 * (31 * (mxN (fun i h => 31 * h + eW (pE A) e i) (eL (pE A) e).toNat x) + sFs (pE A) e) + sNr (pE A) e (eN (pE A)))), none, some (vi ((e : Int) + 1)), none, none] [] g P) : ∀ (t i : Nat), i + t = (eL (pE A) e).toNat → XXl mX9_mixEntries 62 [some (vr 0), none, none, some (vl (mxN (fun i h => 31 * h + eW (pE A) e i) i x)), none, some (vi (e : Int)), some (vr (sE g e)), some (vi (i : Int))] [] g P := by
  have h18 := hW.2.2.1.1
  obtain ⟨a1, a2, a3, a4, a5, -⟩ := h0.2.2.1.2.2.2.2.1 e he
  obtain ⟨-, -, -, w4, w5⟩ := hW.2.2.1.2.1 e he
  have hs := h0.2.2.1.2.1 e (by omega)
  intro t
  induction t with
  | zero =>
    intro i hi
    have hi : i = (eL (pE A) e).toNat := by omega
    subst hi
    refine uX9_mixEntries_62 g _ _ _ hs _ ?_
    rw [a1]
    refine ⟨⟨by omega, by omega⟩, ⟨by omega, by omega⟩, fun _ => ?_, fun z => by omega⟩
    have c1 := cnt_b (fun k => decide (k ≠ e) && sFt (pE A) e k) (eN (pE A))
    have c2 := sNr_b (pE A) e (eN (pE A))
    refine X_countFit hD.2.1 hW.2.2.1 he ⟨?_, ?_⟩
    · unfold sFs; exact ⟨by omega, by omega⟩
    refine X_mixed ?_
    refine X_bestFor hD.2.1 hW.2.2.1 he ⟨⟨by omega, by omega⟩, ?_⟩
    exact X_mixed hP
  | succ t ih =>
    intro i hi
    have hc := w5 i (by omega)
    refine uX9_mixEntries_62 g _ _ _ hs _ ?_
    rw [a1]
    simp only [Int.toNat_natCast]
    rw [a5 i (by omega)]
    refine ⟨⟨by omega, by omega⟩, ⟨by omega, by omega⟩, fun z => by omega, fun _ => ⟨by omega, by omega, ⟨by omega, by omega⟩, ?_⟩⟩
    exact X_mixed (ih (i + 1) (by omega))
theorem X_me20 (h0 : Rep0 A g) (hD : DrX (pE A) g) (hW : WFA A) {e : Nat} (he : e < eN (pE A)) {x : Int} (hP : XXl mX9_mixEntries 5 [some (vr 0), none, none, some (vl (dE1 (pE A) e x)), none, some (vi ((e : Int) + 1)), none, none] [] g P) : ∀ (t w : Nat), w + t = 8 → XXl mX9_mixEntries 20 [some (vr 0), none, none, some (vl (mxN (fun w h => 31 * h + vEt (pE A) (sVz (pE A)) e (w : Int)) w x)), none, some (vi (e : Int)), some (vi (w : Int)), none] [] g P := by
  have h18 := hW.2.2.1.1
  obtain ⟨hI, hvn, -⟩ := Vz_ok hW.2.2.1
  intro t
  induction t with
  | zero =>
    intro w hw
    have hw : w = 8 := by omega
    subst hw
    refine uX9_mixEntries_20 g _ _ _ ⟨⟨by omega, by omega⟩, fun _ => ⟨by omega, by omega, ?_, ?_⟩, fun z => by omega⟩
    · rw [Int.toNat_natCast]; exact h0.2.2.1.2.1 e (by omega)
    · rw [Int.toNat_natCast]
      exact X_me62 h0 hD hW he hP (eL (pE A) e).toNat 0 (by omega)
  | succ t ih =>
    intro w hw
    have hh := ih (w + 1) (by omega)
    refine uX9_mixEntries_20 g _ _ _ ⟨⟨by omega, by omega⟩, fun z => by omega, fun _ => ?_⟩
    refine X_tellEntry h0.2.2.1 hD hW.2.2.1 he ⟨by omega, by omega⟩ ?_
    rw [if_pos ⟨by omega, by omega⟩]
    exact ⟨vEt_r hW.2.2.1 hI hvn he, X_mixed hh⟩
theorem X_mEntries (h0 : Rep0 A g) (hD : DrX (pE A) g) (hW : WFA A) {x : Int} (hP : P (dE (pE A) x) g) : MXl mX9_mixEntries [vr 0, vl x] g P := by
  have h18 := hW.2.2.1.1
  have loop : ∀ (t e : Nat), e + t = eN (pE A) → XXl mX9_mixEntries 5 [some (vr 0), none, none, some (vl (mxN (dE1 (pE A)) e x)), none, some (vi (e : Int)), none, none] [] g P := by
    intro t
    induction t with
    | zero =>
      intro e he
      have he : e = eN (pE A) := by omega
      subst he
      refine uX9_mixEntries_5 g _ _ ?_
      rw [h0.2.2.1.1]
      exact ⟨⟨by omega, by omega⟩, ⟨by omega, by omega⟩, fun _ => hP, fun z => by omega⟩
    | succ t ih =>
      intro e he
      refine uX9_mixEntries_5 g _ _ ?_
      rw [h0.2.2.1.1]
      exact ⟨⟨by omega, by omega⟩, ⟨by omega, by omega⟩, fun z => by omega, fun _ => X_me20 h0 hD hW (by omega) (ih (e + 1) (by omega)) 8 0 (by omega)⟩
  exact uX9_mixEntries g _ (loop (eN (pE A)) 0 (by omega))
theorem X_mt38 (h0 : Rep0 A g) (hD : DrX (pE A) g) (hW : WFA A) {i j : Nat} (hi : i < eN (pE A)) (hj : j < eN (pE A)) (hn : i ≠ j) {x : Int} (hP : XXl mX9_mixTwos 23 [some (vr 0), none, none, some (vl (dT2 (pE A) i j x)), none, some (vi (i : Int)), some (vi ((j : Int) + 1)), none] [] g P) : ∀ (t w : Nat), w + t = 5 → XXl mX9_mixTwos 38 [some (vr 0), none, none, some (vl (mxN (fun w h => 31 * h + sTw (pE A) i j (w : Int)) w x)), none, some (vi (i : Int)), some (vi (j : Int)), some (vi (w : Int))] [] g P := by
  intro t
  induction t with
  | zero =>
    intro w hw
    have hw : w = 5 := by omega
    subst hw
    exact uX9_mixTwos_38 g _ _ _ _ ⟨⟨by omega, by omega⟩, fun _ => hP, fun z => by omega⟩
  | succ t ih =>
    intro w hw
    have hh := ih (w + 1) (by omega)
    refine uX9_mixTwos_38 g _ _ _ _ ⟨⟨by omega, by omega⟩, fun z => by omega, fun _ => ?_⟩
    refine X_tellTwo h0.2.2.1 hD hW.2.2.1 hi hj hn ⟨by omega, by omega⟩ ?_
    rw [if_pos ⟨by omega, by omega⟩]
    exact ⟨sTw_r hW.2.2.1 hi hj, X_mixed hh⟩
theorem X_mt23 (h0 : Rep0 A g) (hD : DrX (pE A) g) (hW : WFA A) {i : Nat} (hi : i < eN (pE A)) {x : Int} (hP : XXl mX9_mixTwos 5 [some (vr 0), none, none, some (vl (dT1 (pE A) i x)), none, some (vi ((i : Int) + 1)), none, none] [] g P) : ∀ (t d : Nat), d + t = eN (pE A) - (i + 1) → XXl mX9_mixTwos 23 [some (vr 0), none, none, some (vl (mxN (fun d h => dT2 (pE A) i (i + 1 + d) h) d x)), none, some (vi (i : Int)), some (vi ((i + 1 + d : Nat) : Int)), none] [] g P := by
  have h18 := hW.2.2.1.1
  intro t
  induction t with
  | zero =>
    intro d hd
    have hd : d = eN (pE A) - (i + 1) := by omega
    subst hd
    refine uX9_mixTwos_23 g _ _ _ ?_
    rw [h0.2.2.1.1]
    exact ⟨⟨by omega, by omega⟩, ⟨by omega, by omega⟩, fun _ => hP, fun z => by omega⟩
  | succ t ih =>
    intro d hd
    refine uX9_mixTwos_23 g _ _ _ ?_
    rw [h0.2.2.1.1]
    refine ⟨⟨by omega, by omega⟩, ⟨by omega, by omega⟩, fun z => by omega, fun _ => ?_⟩
    exact X_mt38 h0 hD hW hi (show i + 1 + d < eN (pE A) by omega) (by omega) (ih (d + 1) (by omega)) 5 0 (by omega)
theorem X_mTwos (h0 : Rep0 A g) (hD : DrX (pE A) g) (hW : WFA A) {x : Int} (hP : P (dT (pE A) x) g) : MXl mX9_mixTwos [vr 0, vl x] g P := by
  have h18 := hW.2.2.1.1
  have loop : ∀ (t i : Nat), i + t = eN (pE A) → XXl mX9_mixTwos 5 [some (vr 0), none, none, some (vl (mxN (dT1 (pE A)) i x)), none, some (vi (i : Int)), none, none] [] g P := by
    intro t
    induction t with
    | zero =>
      intro i hi
      have hi : i = eN (pE A) := by omega
      subst hi
      refine uX9_mixTwos_5 g _ _ ?_
      rw [h0.2.2.1.1]
      exact ⟨⟨by omega, by omega⟩, ⟨by omega, by omega⟩, fun _ => hP, fun z => by omega⟩
    | succ t ih =>
      intro i hi
      refine uX9_mixTwos_5 g _ _ ?_
      rw [h0.2.2.1.1]
      exact ⟨⟨by omega, by omega⟩, ⟨by omega, by omega⟩, fun z => by omega, fun _ => X_mt23 h0 hD hW (by omega) (ih (i + 1) (by omega)) (eN (pE A) - (i + 1)) 0 (by omega)⟩
  exact uX9_mixTwos g _ (loop (eN (pE A)) 0 (by omega))
theorem X_ml92 (hD : DrX (pE A) g) (hW : WFA A) {l : Nat} (hl : l < vN (sVz (pE A))) {x : Int} (hP : XXl mX9_mixLives 32 [some (vr 0), none, none, some (vl (mxN (fun p h => 31 * h + vP (pE A) (sVz (pE A)) l (p : Int)) (vW (sVz (pE A)) l) x)), none, some (vi ((l : Int) + 1)), none, none] [] g P) : ∀ (t p : Nat), p + t = vW (sVz (pE A)) l → XXl mX9_mixLives 92 [some (vr 0), none, none, some (vl (mxN (fun p h => 31 * h + vP (pE A) (sVz (pE A)) l (p : Int)) p x)), none, some (vi (l : Int)), some (vr (121 + 2 * l)), some (vi ((hN (sVz (pE A)) l + p : Nat) : Int))] [] g P := by
  obtain ⟨hI, hvn, hw3⟩ := Vz_ok hW.2.2.1
  obtain ⟨a1, a2, a3, a4, a5⟩ := hD.2.2.2.1.2 l hl
  have hw := hw3 l
  have hh2 : hN (sVz (pE A)) l ≤ 2 := by unfold hN; split <;> split <;> omega
  intro t
  induction t with
  | zero =>
    intro p hp
    have hp : p = vW (sVz (pE A)) l := by omega
    subst hp
    refine uX9_mixLives_92 g _ _ l (by omega) _ ?_
    rw [a1]
    exact ⟨⟨by omega, by omega⟩, ⟨by omega, by omega⟩, fun _ => hP, fun z => by omega⟩
  | succ t ih =>
    intro p hp
    have hh := ih (p + 1) (by omega)
    have hv := vP_of a5.1 (by omega) p
    rw [if_pos (by omega)] at hv
    refine uX9_mixLives_92 g _ _ l (by omega) _ ?_
    rw [a1, Int.toNat_natCast, ← hv]
    refine ⟨⟨by omega, by omega⟩, ⟨by omega, by omega⟩, fun z => by omega, fun _ => ⟨by omega, by omega, vP_r hW.2.2.1, ?_⟩⟩
    exact X_mixed hh
theorem X_ml59 (hD : DrX (pE A) g) (hW : WFA A) {l : Nat} (hl : l < vN (sVz (pE A))) {x : Int} (hP : XXl mX9_mixLives 32 [some (vr 0), none, none, some (vl (dL1 (pE A) l x)), none, some (vi ((l : Int) + 1)), none, none] [] g P) : ∀ (t w : Nat), w + t = 8 → XXl mX9_mixLives 59 [some (vr 0), none, none, some (vl (mxN (fun w h => 31 * h + vLn (pE A) (sVz (pE A)) l (w : Int)) w x)), none, some (vi (l : Int)), some (vr (121 + 2 * l)), some (vi (w : Int))] [] g P := by
  obtain ⟨hI, hvn, hw3⟩ := Vz_ok hW.2.2.1
  obtain ⟨hb, hd⟩ := vB_b hW hl
  obtain ⟨a1, a2, a3, a4, a5⟩ := hD.2.2.2.1.2 l hl
  intro t
  induction t with
  | zero =>
    intro w hw
    have hw : w = 8 := by omega
    subst hw
    refine uX9_mixLives_59 g _ _ l (by omega) _ ⟨⟨by omega, by omega⟩, fun _ => ?_, fun z => by omega⟩
    rw [a2]
    exact X_ml92 hD hW hl hP (vW (sVz (pE A)) l) 0 (by omega)
  | succ t ih =>
    intro w hw
    have hh := ih (w + 1) (by omega)
    refine uX9_mixLives_59 g _ _ l (by omega) _ ⟨⟨by omega, by omega⟩, fun z => by omega, fun _ => ?_⟩
    refine X_tellLife hD hW.2.2.1 hl ⟨by omega, by omega⟩ ?_
    rw [if_pos ⟨by omega, by omega⟩]
    exact ⟨vLn_r hW.2.2.1 hb hd (hw3 l), X_mixed hh⟩
theorem X_mLives (hD : DrX (pE A) g) (hW : WFA A) {x : Int} (hP : P (dLv (pE A) (dS (pE A) x)) g) : MXl mX9_mixLives [vr 0, vl x] g P := by
  obtain ⟨hI, hvn, hw3⟩ := Vz_ok hW.2.2.1
  have l32 : ∀ (t l : Nat), l + t = vN (sVz (pE A)) → XXl mX9_mixLives 32 [some (vr 0), none, none, some (vl (mxN (dL1 (pE A)) l (dS (pE A) x))), none, some (vi (l : Int)), none, none] [] g P := by
    intro t
    induction t with
    | zero =>
      intro l hl
      have hl : l = vN (sVz (pE A)) := by omega
      subst hl
      refine uX9_mixLives_32 g _ _ ?_
      rw [hD.2.2.2.1.1]
      exact ⟨⟨by omega, by omega⟩, ⟨by omega, by omega⟩, fun _ => hP, fun z => by omega⟩
    | succ t ih =>
      intro l hl
      refine uX9_mixLives_32 g _ _ ?_
      rw [hD.2.2.2.1.1]
      simp only [Int.toNat_natCast]
      exact ⟨⟨by omega, by omega⟩, ⟨by omega, by omega⟩, fun z => by omega, fun _ => ⟨by omega, by omega, X_ml59 hD hW (by omega) (ih (l + 1) (by omega)) 8 0 (by omega)⟩⟩
  have l5 : ∀ (t w : Nat), w + t = 6 → XXl mX9_mixLives 5 [some (vr 0), none, none, some (vl (mxN (fun w h => 31 * h + sLs (pE A) (w : Int)) w x)), none, some (vi (w : Int)), none, none] [] g P := by
    intro t
    induction t with
    | zero =>
      intro w hw
      have hw : w = 6 := by omega
      subst hw
      exact uX9_mixLives_5 g _ _ ⟨⟨by omega, by omega⟩, fun _ => l32 (vN (sVz (pE A))) 0 (by omega), fun z => by omega⟩
    | succ t ih =>
      intro w hw
      have hh := ih (w + 1) (by omega)
      refine uX9_mixLives_5 g _ _ ⟨⟨by omega, by omega⟩, fun z => by omega, fun _ => ?_⟩
      refine X_tellLives hD hW.2.2.1 ⟨by omega, by omega⟩ ?_
      rw [if_pos ⟨by omega, by omega⟩]
      exact ⟨sLs_r hW.2.2.1 hW.2.2.2, X_mixed hh⟩
  exact uX9_mixLives g _ (l5 6 0 (by omega))
end XR

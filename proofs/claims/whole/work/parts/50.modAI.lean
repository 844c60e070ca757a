/-! the reference: digest, of lives and all -/
section MAI
variable {P : MS → Prop} {A : AA}
theorem M_ml61 (hW : WFA A) {l : Nat} (hl : l < vN (sVz (pE A))) {h0 : Int} (hP : ∀ m, DG A (mxN (fun p h => 31 * h + vP (pE A) (sVz (pE A)) l (p : Int)) (vW (sVz (pE A)) l) h0) m → YYv mX10_mixLives 26 [some (vr 0), some (vi ((l : Int) + 1)), none] [] m P) : ∀ (t p : Nat) (m : MS), p + t = vW (sVz (pE A)) l → DG A (mxN (fun p h => 31 * h + vP (pE A) (sVz (pE A)) l (p : Int)) p h0) m → YYv mX10_mixLives 61 [some (vr 0), some (vi (l : Int)), some (vi (p : Int))] [] m P := by
  obtain ⟨hI, hvn, hw3⟩ := Vz_ok hW.2.2.1
  have h3 := hw3 l
  intro t
  induction t with
  | zero =>
    intro p m hp hD
    have hp : p = vW (sVz (pE A)) l := by omega
    subst hp
    refine uX10_mixLives_61 m _ _ ?_
    rw [Int.toNat_natCast, (hD.2.1.1.2 l hl).2.2]
    exact ⟨by omega, by omega, ⟨by omega, by omega⟩, ⟨by omega, by omega⟩, fun _ => hP m hD, fun z => by omega⟩
  | succ t ih =>
    intro p m hp hD
    refine uX10_mixLives_61 m _ _ ?_
    rw [Int.toNat_natCast, (hD.2.1.1.2 l hl).2.2]
    refine ⟨by omega, by omega, ⟨by omega, by omega⟩, ⟨by omega, by omega⟩, fun z => by omega, fun _ => ?_⟩
    refine M_weddingAt hD.1.2.2.1 hW.2.2.1 hD.2.1 hI hvn (by omega) ⟨by omega, by omega⟩ ⟨vP_r hW.2.2.1, ?_⟩
    exact M_mix hD (fun m' hD' => ih (p + 1) m' (by omega) hD')
theorem vB_b (hW : WFA A) {l : Nat} (hl : l < vN (sVz (pE A))) : (-1 ≤ vB (sVz (pE A)) l ∧ vB (sVz (pE A)) l < 18) ∧ (-1 ≤ vD (sVz (pE A)) l ∧ vD (sVz (pE A)) l < 18) := by
  have hn := hW.2.2.1.1
  obtain ⟨hI, -, -⟩ := Vz_ok hW.2.2.1
  obtain ⟨h1, h2, -⟩ := hI.2.1 l hl
  refine ⟨?_, ?_⟩
  · rcases h1 with h | ⟨b, hb, h, -⟩ <;> omega
  · rcases h2 with h | ⟨b, hb, h, -⟩ <;> omega
theorem M_ml36 (hW : WFA A) {l : Nat} (hl : l < vN (sVz (pE A))) {h0 : Int} (hP : ∀ m, DG A (mxN (fun w h => 31 * h + vLn (pE A) (sVz (pE A)) l (w : Int)) 8 h0) m → YYv mX10_mixLives 61 [some (vr 0), some (vi (l : Int)), some (vi 0)] [] m P) : ∀ (t w : Nat) (m : MS), w + t = 8 → DG A (mxN (fun w h => 31 * h + vLn (pE A) (sVz (pE A)) l (w : Int)) w h0) m → YYv mX10_mixLives 36 [some (vr 0), some (vi (l : Int)), some (vi (w : Int))] [] m P := by
  obtain ⟨hI, hvn, hw3⟩ := Vz_ok hW.2.2.1
  obtain ⟨hb, hd⟩ := vB_b hW hl
  intro t
  induction t with
  | zero =>
    intro w m hw hD
    have hw : w = 8 := by omega
    subst hw
    exact uX10_mixLives_36 m _ _ ⟨⟨by omega, by omega⟩, fun _ => hP m hD, fun z => by omega⟩
  | succ t ih =>
    intro w m hw hD
    refine uX10_mixLives_36 m _ _ ⟨⟨by omega, by omega⟩, fun z => by omega, fun _ => ?_⟩
    refine M_lifeNow hD.1.2.2.1 hW.2.2.1 hD.2.1 hI hvn hl ⟨by omega, by omega⟩ (fun m1 _ k1 => ⟨vLn_r hW.2.2.1 hb hd (hw3 l), ?_⟩)
    exact M_mix (hD.k14 k1) (fun m' hD' => ih (w + 1) m' (by omega) hD')
theorem M_ml26 (hW : WFA A) {h0 : Int} (hP : ∀ m, DG A (dLv (pE A) h0) m → P m) : ∀ (t l : Nat) (m : MS), l + t = vN (sVz (pE A)) → DG A (mxN (dL1 (pE A)) l h0) m → YYv mX10_mixLives 26 [some (vr 0), some (vi (l : Int)), none] [] m P := by
  obtain ⟨hI, hvn, hw3⟩ := Vz_ok hW.2.2.1
  intro t
  induction t with
  | zero =>
    intro l m hl hD
    have hl : l = vN (sVz (pE A)) := by omega
    subst hl
    refine uX10_mixLives_26 m _ ?_
    rw [hD.2.1.1.1]
    exact ⟨⟨by omega, by omega⟩, ⟨by omega, by omega⟩, fun _ => hP m hD, fun z => by omega⟩
  | succ t ih =>
    intro l m hl hD
    refine uX10_mixLives_26 m _ ?_
    rw [hD.2.1.1.1]
    refine ⟨⟨by omega, by omega⟩, ⟨by omega, by omega⟩, fun z => by omega, fun _ => ?_⟩
    refine M_ml36 hW (by omega) (fun m1 hD1 => ?_) 8 0 m (by omega) hD
    exact M_ml61 hW (by omega) (fun m2 hD2 => ih (l + 1) m2 (by omega) hD2) (vW (sVz (pE A)) l) 0 m1 (by omega) hD1
theorem M_ml2 (hW : WFA A) {h0 : Int} (hP : ∀ m, DG A (dLv (pE A) (dS (pE A) h0)) m → P m) : ∀ (t w : Nat) (m : MS), w + t = 6 → DG A (mxN (fun w h => 31 * h + sLs (pE A) (w : Int)) w h0) m → YYv mX10_mixLives 2 [some (vr 0), some (vi (w : Int)), none] [] m P := by
  intro t
  induction t with
  | zero =>
    intro w m hw hD
    have hw : w = 6 := by omega
    subst hw
    exact uX10_mixLives_2 m _ ⟨⟨by omega, by omega⟩, fun _ => M_ml26 hW hP (vN (sVz (pE A))) 0 m (by omega) hD, fun z => by omega⟩
  | succ t ih =>
    intro w m hw hD
    refine uX10_mixLives_2 m _ ⟨⟨by omega, by omega⟩, fun z => by omega, fun _ => ?_⟩
    refine M_livesNow hD.1.2.2.1 hW.2.2.1 hW.2.2.2 ⟨by omega, by omega⟩ (fun m1 hR1 hM1 hV1 k1 => ⟨sLs_r hW.2.2.1 hW.2.2.2, ?_⟩)
    refine M_mix (A := A) (h := mxN (fun w h => 31 * h + sLs (pE A) (w : Int)) w h0) ⟨hD.1.kp k1.pa, hV1, ?_⟩ (fun m' hD' => ih (w + 1) m' (by omega) hD')
    rw [k1 0 33 (fun z => by unfold SP at z; omega)]
    exact hD.2.2
end MAI
section MAI2
variable {P : Int → MS → Prop} {A : AA}
theorem M_dg44 (hW : WFA A) (hr : rng (pR A)) (hs : rng (pS A)) {h0 : Int} (hP : ∀ m, RepA A m → P (dCt A h0) m) : ∀ (t w : Nat) (m : MS), w + t = 8 → DG A (mxN (fun w h => 31 * h + zCount A (w : Int)) w h0) m → YYl mX10_digest 44 [some (vr 0), some (vi (w : Int))] [] m P := by
  intro t
  induction t with
  | zero =>
    intro w m hw hD
    have hw : w = 8 := by omega
    subst hw
    refine uX10_digest_44 m _ ⟨⟨by omega, by omega⟩, fun _ => ?_, fun z => by omega⟩
    rw [hD.2.2]
    exact hP m hD.1
  | succ t ih =>
    intro w m hw hD
    refine uX10_digest_44 m _ ⟨⟨by omega, by omega⟩, fun z => by omega, fun _ => ?_⟩
    refine M_howMany hD.1 hW ⟨by omega, by omega⟩ ⟨zCount_r hW hr hs, ?_⟩
    exact M_mix hD (fun m' hD' => ih (w + 1) m' (by omega) hD')
theorem M_dg17 (hW : WFA A) (hr : rng (pR A)) (hs : rng (pS A)) {h0 : Int} (hP : ∀ m, RepA A m → P (dCt A (dPg A h0)) m) : ∀ (t k : Nat) (m : MS), k + t = pN A → DG A (mxN (fun k h => 31 * h + pC A k) k h0) m → YYl mX10_digest 17 [some (vr 0), some (vi (k : Int))] [] m P := by
  have hn := hW.1
  intro t
  induction t with
  | zero =>
    intro k m hk hD
    have hk : k = pN A := by omega
    subst hk
    refine uX10_digest_17 m _ ?_
    rw [hD.1.1]
    exact ⟨⟨by omega, by omega⟩, ⟨by omega, by omega⟩, fun _ => M_dg44 hW hr hs hP 8 0 m (by omega) hD, fun z => by omega⟩
  | succ t ih =>
    intro k m hk hD
    obtain ⟨c1, c2⟩ := hW.2.1 k (by omega)
    refine uX10_digest_17 m _ ?_
    rw [hD.1.1, Int.toNat_natCast, hD.1.2.1 k (by omega)]
    refine ⟨⟨by omega, by omega⟩, ⟨by omega, by omega⟩, fun z => by omega, fun _ => ⟨by omega, by omega, ⟨by omega, by omega⟩, ?_⟩⟩
    exact M_mix hD (fun m' hD' => ih (k + 1) m' (by omega) hD')
theorem M_digest {m : MS} (hR : RepA A m) (hW : WFA A) (hr : rng (pR A)) (hs : rng (pS A)) (hP : ∀ m, RepA A m → P (zDig A) m) : MMl mX10_digest [vr 0] m P := by
  refine uX10_digest m (fun m1 e1 => ?_)
  have hR1 : RepA A m1 := hR.kp (by rw [e1]; exact Kp.st (Or.inr ⟨rfl, by omega⟩))
  refine uX10_mixEntries m1 ?_
  refine M_lives hR1.2.2.1 hW.2.2.1 hW.2.2.2 (fun m2 hR2 hM2 hV2 k2 => ?_)
  have hD2 : DG A 1567 m2 := ⟨hR1.kp k2.pa, hV2, by rw [k2 0 33 (fun z => by unfold SP at z; omega), e1, mI_eq]⟩
  refine M_me6 hW (fun m3 hD3 => ?_) (eN (pE A)) 0 m2 (by omega) hD2
  refine uX10_mixLives m3 ?_
  refine M_ml2 hW (fun m4 hD4 => ?_) 6 0 m3 (by omega) hD3
  exact M_dg17 hW hr hs hP (pN A) 0 m4 (by omega) hD4
end MAI2

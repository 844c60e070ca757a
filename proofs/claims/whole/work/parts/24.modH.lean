/-! the reference lays lives -/
section MI
variable {E : EE} {P : MS → Prop}
theorem sMt_b {E : EE} (hW : WF E) (e : Nat) : -1 ≤ sMt E e ∧ sMt E e < eN E := by
  rcases sMt_ok hW e with c | ⟨j, k, hj, hk, ⟨-, c, -⟩ | ⟨-, c, -⟩, -⟩
  · omega
  · have := (aD_ok hk).1
    omega
  · have := (aB_ok hj).1
    omega
theorem M_first90 (hW : WF E) : ∀ (t e : Nat) (m : MS), RepM E m → MtM E m → VMp E (sVf E) m → (∀ x, x < e → m 22 x = vO (sVf E) x) → e + t = eN E → ∀ m0, Kp SP m0 m → (∀ m', RepM E m' → MtM E m' → VM E (sVf E) m' → Kp SP m0 m' → P m') → YYv mX10_layFirstLives 90 [some (vr 0), some (vi (e : Int))] [] m P := by
  have hn := hW.1
  intro t
  induction t with
  | zero =>
    intro e m hR hM hV hx he m0 hk hQ
    have he : e = eN E := by omega
    subst he
    refine uX10_layFirstLives_90 m _ ?_
    rw [hR.1]
    exact ⟨⟨by omega, by omega⟩, ⟨by omega, by omega⟩, fun _ => hQ m hR hM ⟨hV.1, hx⟩ hk, fun z => by omega⟩
  | succ t ih =>
    intro e m hR hM hV hx he m0 hk hQ
    obtain ⟨a1, -⟩ := hR.2.1 e (by omega)
    obtain ⟨w1, -⟩ := hW.2.1 e (by omega)
    have g5 := (Vf_ok hW).2.2.2.2 e (by omega)
    refine uX10_layFirstLives_90 m _ ?_
    rw [hR.1]
    simp only [Int.toNat_natCast, a1]
    have key : ∀ x, x = vO (sVf E) e → YYv mX10_layFirstLives 90 [some (vr 0), some (vi ((e : Int) + 1))] [] (mI m 22 e x) P := by
      intro x hxe
      have hk1 : Kp SV m (mI m 22 e x) := Kp.st (Or.inr (Or.inl (by omega)))
      refine ih (e + 1) _ (hR.kSV hk1) (hM.kSV hk1) ⟨⟨?_, fun l hl => ?_⟩, fun y hy hn => ?_⟩ (fun y hy => ?_) (by omega) m0 (hk.tr hk1.vp) hQ
      · rw [mI_ne (by omega)]; exact hV.1.1
      · rw [mI_ne (by omega), mI_ne (by omega), mI_ne (by omega)]; exact hV.1.2 l hl
      · by_cases c : y = e
        · rw [c, mI_eq]; exact hxe
        · rw [mI_ne (by omega)]; exact hV.2 y hy hn
      · by_cases c : y = e
        · rw [c, mI_eq]; exact hxe
        · rw [mI_ne (by omega)]; exact hx y (by omega)
    refine ⟨⟨by omega, by omega⟩, ⟨by omega, by omega⟩, fun z => by omega, fun _ => ⟨by omega, by omega, ⟨by omega, by omega⟩, fun c m1 e1 => ?_, fun c m1 e1 => ?_⟩⟩
    · rw [e1]
      exact key _ (hV.2 e (by omega) (g5.mpr c))
    · rw [e1]
      refine key _ ?_
      by_cases q : vO (sVf E) e = -1
      · exact q.symm
      · exact absurd c (g5.mp q)
theorem M_first48 (hW : WF E) (h7 : W7 E) : ∀ (t k : Nat) (m : MS), RepM E m → MtM E m → VMp E (sV2 E k) m → k + t = nD E → ∀ m0, Kp SP m0 m → (∀ m', RepM E m' → MtM E m' → VM E (sVf E) m' → Kp SP m0 m' → P m') → YYv mX10_layFirstLives 48 [some (vr 0), some (vi (k : Int))] [] m P := by
  have hn := hW.1
  have hi7 : nB E ≤ 7 := h7.1
  have hk7 : nD E ≤ 7 := h7.2.2
  intro t
  induction t with
  | zero =>
    intro k m hR hM hV hkt m0 hk hQ
    have hkt : k = nD E := by omega
    subst hkt
    refine uX10_layFirstLives_48 m _ ?_
    rw [show m 0 21 = ((nD E : Nat) : Int) from hM.1.2.1]
    exact ⟨⟨by omega, by omega⟩, ⟨by omega, by omega⟩, fun _ => M_first90 hW (eN E) 0 m hR hM hV (fun x hx => absurd hx (Nat.not_lt_zero _)) (by omega) m0 hk hQ, fun z => by omega⟩
  | succ t ih =>
    intro k m hR hM hV hkt m0 hk hQ
    have hkD : k < nD E := by omega
    obtain ⟨d1, d2⟩ := aD_ok hkD
    have l4 : m 16 k = (aD E k : Int) := hM.1.2.2.2 k hkD
    have l5 : m 18 (aD E k) = sMt E (aD E k) := hM.2.1 _ d1
    have hb := sMt_b hW (aD E k)
    refine uX10_layFirstLives_48 m _ ?_
    rw [show m 0 21 = ((nD E : Nat) : Int) from hM.1.2.1]
    simp only [Int.toNat_natCast]
    rw [l4]
    simp only [Int.toNat_natCast]
    rw [l5]
    refine ⟨⟨by omega, by omega⟩, ⟨by omega, by omega⟩, fun z => by omega, fun _ => ⟨by omega, by omega, by omega, by omega, ⟨by omega, by omega⟩, fun c => ?_, fun c => ?_⟩⟩
    · exact ih (k + 1) m hR hM (by rw [sV2, if_neg c]; exact hV) (by omega) m0 hk hQ
    · have hv := (V2_ok hW k (by omega)).2.2.1
      refine M_begin hV (by omega) (by omega) (by omega) (fun m1 hV1 hk1 => ?_)
      exact ih (k + 1) m1 (hR.kSV hk1) (hM.kSV hk1) (by rw [sV2, if_pos c]; exact hV1) (by omega) m0 (hk.tr hk1.vp) hQ
theorem M_first11 (hW : WF E) (h7 : W7 E) : ∀ (t i : Nat) (m : MS), RepM E m → MtM E m → VMp E (sV1 E i) m → i + t = nB E → ∀ m0, Kp SP m0 m → (∀ m', RepM E m' → MtM E m' → VM E (sVf E) m' → Kp SP m0 m' → P m') → YYv mX10_layFirstLives 11 [some (vr 0), some (vi (i : Int))] [] m P := by
  have hn := hW.1
  have hi7 : nB E ≤ 7 := h7.1
  intro t
  induction t with
  | zero =>
    intro i m hR hM hV hit m0 hk hQ
    have hit : i = nB E := by omega
    subst hit
    refine uX10_layFirstLives_11 m _ ?_
    rw [show m 0 20 = ((nB E : Nat) : Int) from hM.1.1]
    exact ⟨⟨by omega, by omega⟩, ⟨by omega, by omega⟩, fun _ => M_first48 hW h7 (nD E) 0 m hR hM hV (by omega) m0 hk hQ, fun z => by omega⟩
  | succ t ih =>
    intro i m hR hM hV hit m0 hk hQ
    have hiB : i < nB E := by omega
    obtain ⟨d1, d2⟩ := aB_ok hiB
    have l4 : m 15 i = (aB E i : Int) := hM.1.2.2.1 i hiB
    have l5 : m 18 (aB E i) = sMt E (aB E i) := hM.2.1 _ d1
    have hb := sMt_b hW (aB E i)
    refine uX10_layFirstLives_11 m _ ?_
    rw [show m 0 20 = ((nB E : Nat) : Int) from hM.1.1]
    simp only [Int.toNat_natCast]
    rw [l4]
    simp only [Int.toNat_natCast]
    rw [l5]
    refine ⟨⟨by omega, by omega⟩, ⟨by omega, by omega⟩, fun z => by omega, fun _ => ⟨by omega, by omega, by omega, by omega, ?_⟩⟩
    have hv := (V1_ok hW i (by omega)).2.1
    refine M_begin hV (by omega) (by omega) (by omega) (fun m1 hV1 hk1 => ?_)
    exact ih (i + 1) m1 (hR.kSV hk1) (hM.kSV hk1) (by rw [sV1]; exact hV1) (by omega) m0 (hk.tr hk1.vp) hQ
theorem M_flives {m : MS} (hR : RepM E m) (hW : WF E) (h7 : W7 E) (hQ : ∀ m', RepM E m' → MtM E m' → VM E (sVf E) m' → Kp SP m m' → P m') : MMv mX10_layFirstLives [vr 0] m P := by
  refine uX10_layFirstLives m ?_
  refine M_pairs hR hW h7 (fun m1 hR1 hM1 hk1 m2 e2 => ?_)
  have hk : Kp SV m1 m2 := by rw [e2]; exact Kp.st (Or.inr (Or.inr ⟨rfl, rfl⟩))
  refine M_first11 hW h7 (nB E) 0 m2 (hR1.kSV hk) (hM1.kSV hk) ⟨⟨by rw [e2, mI_eq]; rfl, fun l hl => absurd hl (Nat.not_lt_zero _)⟩, fun e he hn => absurd rfl hn⟩ (by omega) m (hk1.tr hk.vp) hQ
end MI
section MJ
variable {E : EE} {P : Int → MS → Prop}
theorem M_isOf {V : VV} {m : MS} {e l : Nat} (hW : WF E) (hV : VM E V m) (hI : VI E V) (hn : vN V ≤ 18) (he : e < eN E) (hl : l < 100) (hT : vO V e = (l : Int) → P 1 m) (hF : vO V e ≠ (l : Int) → P 0 m) : MMi mX10_isOf [vr 0, vi (e : Int), vi (l : Int)] m P := by
  have h18 := hW.1
  have ho := hI.1 e
  refine uX10_isOf m e l ?_
  simp only [Int.toNat_natCast]
  rw [hV.2 e he]
  have hb : -1 ≤ vO V e ∧ vO V e < 18 := by
    rcases ho with c | ⟨-, x, hx, c⟩ <;> omega
  exact ⟨by omega, by omega, ⟨by omega, by omega⟩, ⟨by omega, by omega⟩, hF, hT⟩
theorem M_canGo19f {e l : Nat} (hW : WF E) : ∀ (t n : Nat) (m : MS), RepM E m → n + t = eN E → P 0 m → YYi mX10_canGo 19 [some (vr 0), some (vi (e : Int)), some (vi (l : Int)), some (vi 0), some (vi (n : Int))] [] m P := by
  have h18 := hW.1
  intro t
  induction t with
  | zero =>
    intro n m hR hn hP
    refine uX10_canGo_19 m e l 0 n ?_
    rw [hR.1]
    exact ⟨⟨by omega, by omega⟩, ⟨by omega, by omega⟩, fun _ => ⟨Or.inl rfl, hP⟩, fun z => by omega⟩
  | succ t ih =>
    intro n m hR hn hP
    refine uX10_canGo_19 m e l 0 n ?_
    rw [hR.1]
    exact ⟨⟨by omega, by omega⟩, ⟨by omega, by omega⟩, fun z => by omega, fun _ => ⟨rng_0, fun _ => ih (n + 1) m hR (by omega) hP, fun z => absurd rfl z⟩⟩
theorem vGn_up {V : VV} {e l n : Nat} (h : vGn E V e l n = false) : ∀ t, vGn E V e l (n + t) = false := by
  intro t
  induction t with
  | zero => exact h
  | succ t ih => rw [← Nat.add_assoc, vGn, ih]; rfl
theorem M_canGo19 {V : VV} {e l : Nat} (hW : WF E) (hI : VI E V) (hvn : vN V ≤ 18) (he : e < eN E) (hl : l < 100) : ∀ (t n : Nat) (m : MS), RepM E m → VM E V m → n + t = eN E → vGn E V e l n = true → (∀ m', RepM E m' → VM E V m' → Kp S14 m m' → (vG E V e l = true → P 1 m') ∧ (vG E V e l = false → P 0 m')) → YYi mX10_canGo 19 [some (vr 0), some (vi (e : Int)), some (vi (l : Int)), some (vi 1), some (vi (n : Int))] [] m P := by
  have h18 := hW.1
  intro t
  induction t with
  | zero =>
    intro n m hR hV hn hg hP
    have hn : n = eN E := by omega
    subst hn
    refine uX10_canGo_19 m e l 1 _ ?_
    rw [hR.1]
    exact ⟨⟨by omega, by omega⟩, ⟨by omega, by omega⟩, fun _ => ⟨Or.inr rfl, (hP m hR hV Kp.rf).1 hg⟩, fun z => by omega⟩
  | succ t ih =>
    intro n m hR hV hn hg hP
    refine uX10_canGo_19 m e l 1 n ?_
    rw [hR.1]
    refine ⟨⟨by omega, by omega⟩, ⟨by omega, by omega⟩, fun z => by omega, fun _ => ⟨⟨by decide, by decide⟩, fun z => absurd z (by decide), fun _ => ?_⟩⟩
    refine M_isOf hW hV hI hvn (by omega) hl (fun c => ⟨⟨by decide, by decide⟩, fun z => absurd z (by decide), fun _ => ?_⟩) (fun c => ⟨rng_0, fun _ => ?_, fun z => absurd rfl z⟩)
    · refine M_fit hR hW he (by omega) (fun m1 hR1 hk1 => ⟨fun hf => ⟨⟨by decide, by decide⟩, fun z => absurd z (by decide), fun _ => ?_⟩, fun hf => ⟨rng_0, fun _ => ?_, fun z => absurd rfl z⟩⟩)
      · exact ih (n + 1) m1 hR1 (hV.k14 hk1) (by omega) (by rw [vGn, hg, hf]; simp) (fun m' a b d => hP m' a b (hk1.tr d))
      · refine M_canGo19f hW t (n + 1) m1 hR1 (by omega) ((hP m1 hR1 (hV.k14 hk1) hk1).2 ?_)
        have := vGn_up (E := E) (V := V) (e := e) (l := l) (n := n + 1) (by rw [vGn, hf, c]; simp) t
        rw [show n + 1 + t = eN E by omega] at this
        exact this
    · exact ih (n + 1) m hR hV (by omega) (by rw [vGn, hg]; simp [c]) hP
theorem M_canGo {V : VV} {m : MS} {e l : Nat} (hR : RepM E m) (hW : WF E) (hV : VM E V m) (hI : VI E V) (hvn : vN V ≤ 18) (hw : ∀ l, vW V l ≤ 3) (he : e < eN E) (hl : l < vN V) (hP : ∀ m', RepM E m' → VM E V m' → Kp S14 m m' → (vG E V e l = true → P 1 m') ∧ (vG E V e l = false → P 0 m')) : MMi mX10_canGo [vr 0, vi (e : Int), vi (l : Int)] m P := by
  have h18 := hW.1
  have hwl := hw l
  refine uX10_canGo m e l ?_
  simp only [Int.toNat_natCast]
  rw [(hV.1.2 l hl).2.2]
  refine ⟨by omega, by omega, ⟨by omega, by omega⟩, fun c => ?_, fun c => ?_⟩
  · refine M_canGo19f hW (eN E) 0 m hR (by omega) ((hP m hR hV Kp.rf).2 ?_)
    have := vGn_up (E := E) (V := V) (e := e) (l := l) (n := 0) (by rw [vGn]; simp; omega) (eN E)
    rw [Nat.zero_add] at this
    exact this
  · exact M_canGo19 hW hI hvn he (by omega) (eN E) 0 m hR hV (by omega) (by rw [vGn]; simp; omega) hP
end MJ

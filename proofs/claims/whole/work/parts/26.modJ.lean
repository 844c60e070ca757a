/-! the reference lays weddings -/
section ML
variable {E : EE} {P : MS → Prop}
theorem SV_of {a k : Nat} (h : a = 14 ∨ (19 ≤ a ∧ a ≤ 22) ∨ (a = 0 ∧ k = 28)) : SV a k := h
theorem M_wedding {V : VV} {m : MS} {e : Nat} (hR : RepM E m) (hW : WF E) (hV : VM E V m) (hI : VI E V) (hvn : vN V < 18) (hw : ∀ l, vW V l ≤ 3) (he : e < eN E) (h0 : vO V e = -1) (hP : ∀ m', RepM E m' → VM E (vL E V e) m' → Kp SV m m' → P m') : MMv mX10_layWedding [vr 0, vi (e : Int)] m P := by
  have h18 := hW.1
  refine uX10_layWedding m e ?_
  refine M_bestLife hR hW hV hI (by omega) hw he (fun m1 hR1 hV1 hk1 => ?_)
  obtain ⟨b1, b2, b3⟩ := vbn_b E V e (vN V)
  simp only [Int.toNat_natCast]
  refine ⟨⟨by omega, by omega⟩, fun c => ?_, fun c => ⟨by omega, by omega, fun m2 e2 => ?_⟩⟩
  · obtain ⟨L, hL⟩ : ∃ L : Nat, vbn E V e (vN V) = (L : Int) := ⟨(vbn E V e (vN V)).toNat, by omega⟩
    have hLn : L < vN V := by omega
    rw [hL]
    refine M_doubt hR1 hW hV1 hI (by omega) hw he hLn (fun m2 hR2 hV2 hk2 => ⟨rng_bi _, fun d => ?_, fun d => ⟨by omega, by omega, fun m3 e3 => ⟨by omega, by omega, fun m4 e4 => ?_⟩⟩⟩)
    · have hd : vRn E V e L (vN V) = true := by
        cases hq : vRn E V e L (vN V)
        · rw [hq] at d; exact absurd rfl d
        · rfl
      refine hP m2 hR2 ?_ (hk1.tr hk2).sv
      unfold vL
      rw [if_neg c, hL, Int.toNat_natCast, if_pos hd]
      exact hV2
    · have hd : vRn E V e L (vN V) = false := by
        cases hq : vRn E V e L (vN V)
        · rfl
        · rw [hq] at d; exact absurd d (by decide)
      have hk : Kp SV m2 m4 := by
        rw [e4]
        refine Kp.tr ?_ (Kp.st (SV_of (by omega)))
        rw [e3]
        exact Kp.st (SV_of (by omega))
      rw [Int.toNat_natCast] at e4
      refine hP m4 (hR2.kSV hk) ?_ ((hk1.tr hk2).sv.tr hk)
      unfold vL
      rw [if_neg c, hL, Int.toNat_natCast, if_neg (by rw [hd]; decide)]
      obtain ⟨⟨v1, v2⟩, v3⟩ := hV2
      refine ⟨⟨?_, fun l hl => ?_⟩, fun x hx => ?_⟩
      · rw [e4, mI_ne (by omega), e3, mI_ne (by omega)]; exact v1
      · obtain ⟨y1, y2, y3⟩ := v2 l hl
        refine ⟨?_, ?_, ?_⟩
        · rw [e4, mI_ne (by omega), e3, mI_ne (by omega)]; exact y1
        · rw [e4, mI_ne (by omega), e3, mI_ne (by omega)]; exact y2
        · show m4 21 l = ((fU (vW V) L (vW V L + 1) l : Nat) : Int)
          rw [e4]
          by_cases q : l = L
          · subst q
            rw [mI_eq, fU_eq, e3, mI_ne (by omega), y3]
            omega
          · rw [mI_ne (by omega), fU_ne q, e3, mI_ne (by omega)]
            exact y3
      · show m4 22 x = fU (vO V) e (L : Int) x
        rw [e4, mI_ne (by omega), e3]
        by_cases q : x = e
        · subst q
          rw [mI_eq, fU_eq]
        · rw [mI_ne (by omega), fU_ne q]
          exact v3 x hx
  · have hk : Kp SV m1 m2 := by rw [e2]; exact Kp.st (SV_of (by omega))
    obtain ⟨⟨v1, v2⟩, v3⟩ := hV1
    have hc : VMc V m2 := ⟨by rw [e2, mI_ne (by omega)]; exact v1, fun l hl => by rw [e2, mI_ne (by omega), mI_ne (by omega), mI_ne (by omega)]; exact v2 l hl⟩
    refine M_begin0 hc hvn (by omega) (by omega) (fun m3 y0 y19 y20 y21 y22 hk3 => ?_)
    have n3 : m3 0 28 = ((vN V + 1 : Nat) : Int) := by rw [y0, hc.1]; omega
    rw [n3, show ((vN V + 1 : Nat) : Int) - 1 = ((vN V : Nat) : Int) by omega, Int.toNat_natCast]
    refine ⟨by omega, by omega, fun m4 e4 => ?_⟩
    have hk4 : Kp SV m3 m4 := by rw [e4]; exact Kp.st (SV_of (by omega))
    have hkk := (hk1.sv.tr hk).tr (hk3.tr hk4)
    refine hP m4 (hR.kSV hkk) ?_ hkk
    unfold vL
    rw [if_pos c]
    refine ⟨⟨?_, fun l hl => ?_⟩, fun x hx => ?_⟩
    · rw [e4, mI_ne (by omega)]; exact n3
    · show m4 19 l = fU (vB V) (vN V) (-1) l ∧ m4 20 l = fU (vD V) (vN V) (-1) l ∧ m4 21 l = ((fU (vW V) (vN V) 1 l : Nat) : Int)
      rw [e4, mI_ne (by omega), mI_ne (by omega), y19, y20]
      by_cases q : l = vN V
      · subst q
        rw [mI_eq, fU_eq, fU_eq, fU_eq, if_pos rfl, if_pos rfl]
        exact ⟨rfl, rfl, rfl⟩
      · have hl : l < vN V + 1 := hl
        rw [mI_ne (by omega), fU_ne q, fU_ne q, fU_ne q, if_neg q, if_neg q, y21, if_neg q]
        exact hc.2 l (by omega)
    · show m4 22 x = fU (vO V) e (vN V : Int) x
      rw [e4, mI_ne (by omega), y22, if_neg (by omega), if_neg (by omega), e2]
      by_cases q : x = e
      · subst q
        rw [mI_eq, fU_eq]; exact v1
      · rw [mI_ne (by omega), fU_ne q]
        exact v3 x hx
theorem M_lives6 (hW : WF E) : ∀ (t e : Nat) (m : MS), RepM E m → MtM E m → VM E (sVl E e) m → e + t = eN E → ∀ m0, Kp SP m0 m → (∀ m', RepM E m' → MtM E m' → VM E (sVz E) m' → Kp SP m0 m' → P m') → YYv mX10_layLives 6 [some (vr 0), some (vi (e : Int))] [] m P := by
  have hn := hW.1
  intro t
  induction t with
  | zero =>
    intro e m hR hM hV he m0 hk hQ
    have he : e = eN E := by omega
    subst he
    refine uX10_layLives_6 m _ ?_
    rw [hR.1]
    exact ⟨⟨by omega, by omega⟩, ⟨by omega, by omega⟩, fun _ => hQ m hR hM hV hk, fun z => by omega⟩
  | succ t ih =>
    intro e m hR hM hV he m0 hk hQ
    obtain ⟨a1, -⟩ := hR.2.1 e (by omega)
    obtain ⟨w1, -⟩ := hW.2.1 e (by omega)
    obtain ⟨g1, g2, g3, g4, g5⟩ := Vl_ok hW e (by omega)
    refine uX10_layLives_6 m _ ?_
    rw [hR.1]
    simp only [Int.toNat_natCast, a1]
    refine ⟨⟨by omega, by omega⟩, ⟨by omega, by omega⟩, fun z => by omega, fun _ => ⟨by omega, by omega, ⟨by omega, by omega⟩, fun c => ?_, fun c => ?_⟩⟩
    · exact ih (e + 1) m hR hM (by rw [sVl, if_neg c]; exact hV) (by omega) m0 hk hQ
    · have hv : vN (sVl E e) < 18 := by
        have h2 := cK_sum hW (eN E) (Nat.le_refl _)
        have h3 := cK_mono E 1 (show e + 1 ≤ eN E by omega)
        rw [cK, if_pos c] at h3
        have e0 : nB E = cK E 0 (eN E) := rfl
        have e2 : nD E = cK E 2 (eN E) := rfl
        omega
      refine M_wedding hR hW hV g1 hv g3 (by omega) (g5 e (by omega) (Nat.le_refl _) c) (fun m1 hR1 hV1 hk1 => ?_)
      exact ih (e + 1) m1 hR1 (hM.kSV hk1) (by rw [sVl, if_pos c]; exact hV1) (by omega) m0 (hk.tr hk1.vp) hQ
theorem M_lives {m : MS} (hR : RepM E m) (hW : WF E) (h7 : W7 E) (hQ : ∀ m', RepM E m' → MtM E m' → VM E (sVz E) m' → Kp SP m m' → P m') : MMv mX10_layLives [vr 0] m P := by
  refine uX10_layLives m ?_
  refine M_flives hR hW h7 (fun m1 hR1 hM1 hV1 hk1 => ?_)
  exact M_lives6 hW (eN E) 0 m1 hR1 hM1 hV1 (by omega) m hk1 hQ
end ML

/-! the reference's lives -/
def SV (a k : Nat) : Prop := a = 14 ∨ (19 ≤ a ∧ a ≤ 22) ∨ (a = 0 ∧ k = 28)
theorem Kp.vp {m m' : MS} (h : Kp SV m m') : Kp SP m m' := h.mo (fun a k z => by unfold SV at z; unfold SP; omega)
theorem Kp.sv {m m' : MS} (h : Kp S14 m m') : Kp SV m m' := h.mo (fun a k z => by unfold S14 at z; unfold SV; omega)
theorem RepM.kSV {E : EE} {m m' : MS} (h : RepM E m) (hk : Kp SV m m') : RepM E m' := h.kSP hk.vp
theorem MtM.kSV {E : EE} {m m' : MS} (h : MtM E m) (hk : Kp SV m m') : MtM E m' := by
  obtain ⟨⟨l1, l2, l3, l4⟩, h3, h4, h5⟩ := h
  have n0 : ∀ a k, ¬ (a = 14 ∨ (19 ≤ a ∧ a ≤ 22) ∨ (a = 0 ∧ k = 28)) → ¬ SV a k := fun a k h z => h z
  refine ⟨⟨?_, ?_, fun i hi => ?_, fun i hi => ?_⟩, fun e he => ?_, ?_, ?_⟩
  · rw [hk 0 20 (n0 _ _ (by omega))]; exact l1
  · rw [hk 0 21 (n0 _ _ (by omega))]; exact l2
  · rw [hk 15 i (n0 _ _ (by omega))]; exact l3 i hi
  · rw [hk 16 i (n0 _ _ (by omega))]; exact l4 i hi
  · rw [hk 18 e (n0 _ _ (by omega))]; exact h3 e he
  · rw [hk 0 26 (n0 _ _ (by omega))]; exact h4
  · rw [hk 0 27 (n0 _ _ (by omega))]; exact h5
def VMc (V : VV) (m : MS) : Prop := m 0 28 = (vN V : Int) ∧ (∀ l, l < vN V → m 19 l = vB V l ∧ m 20 l = vD V l ∧ m 21 l = (vW V l : Int))
def VMp (E : EE) (V : VV) (m : MS) : Prop := VMc V m ∧ (∀ e, e < eN E → vO V e ≠ -1 → m 22 e = vO V e)
def VM (E : EE) (V : VV) (m : MS) : Prop := VMc V m ∧ (∀ e, e < eN E → m 22 e = vO V e)
theorem VMc.k14 {V : VV} {m m' : MS} (h : VMc V m) (hk : Kp S14 m m') : VMc V m' := by
  obtain ⟨h1, h2⟩ := h
  have n0 : ∀ a k, a ≠ 14 → ¬ S14 a k := fun a k h z => h z
  exact ⟨by rw [hk 0 28 (n0 _ _ (by omega))]; exact h1, fun l hl => by rw [hk 19 l (n0 _ _ (by omega)), hk 20 l (n0 _ _ (by omega)), hk 21 l (n0 _ _ (by omega))]; exact h2 l hl⟩
theorem VM.k14 {E : EE} {V : VV} {m m' : MS} (h : VM E V m) (hk : Kp S14 m m') : VM E V m' := ⟨h.1.k14 hk, fun e he => by rw [hk 22 e (fun z => by unfold S14 at z; omega)]; exact h.2 e he⟩
theorem VMp_open {E : EE} {V : VV} {m m' : MS} {b d : Int} (h : VMp E V m) (h0 : m' 0 28 = m 0 28 + 1) (h1 : ∀ l, m' 19 l = if l = vN V then b else m 19 l) (h2 : ∀ l, m' 20 l = if l = vN V then d else m 20 l) (h3 : ∀ l, m' 21 l = if l = vN V then 0 else m 21 l) (h4 : ∀ e : Nat, m' 22 e = if (e : Int) = d then (vN V : Int) else if (e : Int) = b then (vN V : Int) else m 22 e) : VMp E (vOpen V b d) m' := by
  obtain ⟨⟨a1, a2⟩, a3⟩ := h
  refine ⟨⟨?_, fun l hl => ?_⟩, fun e he hn => ?_⟩
  · show m' 0 28 = ((vN V + 1 : Nat) : Int)
    rw [h0, a1]
    omega
  · have hl : l < vN V + 1 := hl
    show m' 19 l = fU (vB V) (vN V) b l ∧ m' 20 l = fU (vD V) (vN V) d l ∧ m' 21 l = ((fU (vW V) (vN V) 0 l : Nat) : Int)
    rw [h1, h2, h3]
    unfold fU
    by_cases c : l = vN V
    · simp [c]
    · simp only [if_neg c]
      exact a2 l (by omega)
  · show m' 22 e = (if (e : Int) = d then (vN V : Int) else if (e : Int) = b then (vN V : Int) else vO V e)
    have hn : (if (e : Int) = d then (vN V : Int) else if (e : Int) = b then (vN V : Int) else vO V e) ≠ -1 := hn
    rw [h4]
    by_cases c1 : (e : Int) = d
    · rw [if_pos c1, if_pos c1]
    · rw [if_neg c1] at hn
      rw [if_neg c1, if_neg c1]
      by_cases c2 : (e : Int) = b
      · rw [if_pos c2, if_pos c2]
      · rw [if_neg c2] at hn
        rw [if_neg c2, if_neg c2]
        exact a3 e he hn
section MH
variable {E : EE} {P : MS → Prop}
theorem M_begin0 {V : VV} {m : MS} {b d : Int} (hV : VMc V m) (hn : vN V < 18) (hb : -1 ≤ b ∧ b < 18) (hd : -1 ≤ d ∧ d < 18) (kk : ∀ m', (m' 0 28 = m 0 28 + 1) → (∀ l, m' 19 l = if l = vN V then b else m 19 l) → (∀ l, m' 20 l = if l = vN V then d else m 20 l) → (∀ l, m' 21 l = if l = vN V then 0 else m 21 l) → (∀ e : Nat, m' 22 e = if (e : Int) = d then (vN V : Int) else if (e : Int) = b then (vN V : Int) else m 22 e) → Kp SV m m' → P m') : MMv mX10_beginLife [vr 0, vi b, vi d] m P := by
  have h28 := hV.1
  have s19 : ∀ k, SV 19 k := fun k => Or.inr (Or.inl (by omega))
  have s20 : ∀ k, SV 20 k := fun k => Or.inr (Or.inl (by omega))
  have s21 : ∀ k, SV 21 k := fun k => Or.inr (Or.inl (by omega))
  have s22 : ∀ k, SV 22 k := fun k => Or.inr (Or.inl (by omega))
  have s28 : SV 0 28 := Or.inr (Or.inr ⟨rfl, rfl⟩)
  refine uX10_beginLife m b d ?_
  refine ⟨by omega, by omega, fun m1 e1 => ?_⟩
  have q1 : m1 0 28 = (vN V : Int) := by rw [e1, mI_ne (by omega)]; exact h28
  refine ⟨by omega, by omega, fun m2 e2 => ?_⟩
  have q2 : m2 0 28 = (vN V : Int) := by rw [e2, mI_ne (by omega)]; exact q1
  refine ⟨by omega, by omega, fun m3 e3 => ?_⟩
  have q3 : m3 0 28 = (vN V : Int) := by rw [e3, mI_ne (by omega)]; exact q2
  rw [h28, Int.toNat_natCast] at e1
  rw [q1, Int.toNat_natCast] at e2
  rw [q2, Int.toNat_natCast] at e3
  have hk3 : Kp SV m m3 := by
    rw [e3]
    refine Kp.tr ?_ (Kp.st (s21 _))
    rw [e2]
    refine Kp.tr ?_ (Kp.st (s20 _))
    rw [e1]
    exact Kp.st (s19 _)
  have f19 : ∀ l, m3 19 l = if l = vN V then b else m 19 l := by
    intro l; rw [e3, mI_ne (by omega), e2, mI_ne (by omega), e1]; unfold mI; simp
  have f20 : ∀ l, m3 20 l = if l = vN V then d else m 20 l := by
    intro l; rw [e3, mI_ne (by omega), e2, e1]; unfold mI; simp
  have f21 : ∀ l, m3 21 l = if l = vN V then 0 else m 21 l := by
    intro l; rw [e3, e2, e1]; unfold mI; simp
  have f22 : ∀ l, m3 22 l = m 22 l := by
    intro l; rw [e3, mI_ne (by omega), e2, mI_ne (by omega), e1, mI_ne (by omega)]
  refine ⟨⟨by omega, by omega⟩, fun cb => ⟨⟨by omega, by omega⟩, fun cd m4 e4 => ?_, fun cd => ⟨by omega, by omega, fun m4 e4 m5 e5 => ?_⟩⟩, fun cb => ⟨by omega, by omega, fun m4 e4 => ⟨⟨by omega, by omega⟩, fun cd m5 e5 => ?_, fun cd => ⟨by omega, by omega, fun m5 e5 m6 e6 => ?_⟩⟩⟩⟩
  · refine kk m4 ?_ (fun l => ?_) (fun l => ?_) (fun l => ?_) (fun e => ?_) (hk3.tr ?_)
    · rw [e4, mI_eq, q3, h28]
    · rw [e4, mI_ne (by omega)]; exact f19 l
    · rw [e4, mI_ne (by omega)]; exact f20 l
    · rw [e4, mI_ne (by omega)]; exact f21 l
    · rw [e4, mI_ne (by omega), f22, if_neg (by omega), if_neg (by omega)]
    · rw [e4]; exact Kp.st s28
  · have q4 : m4 0 28 = (vN V : Int) := by rw [e4, mI_ne (by omega)]; exact q3
    refine kk m5 ?_ (fun l => ?_) (fun l => ?_) (fun l => ?_) (fun e => ?_) (hk3.tr ?_)
    · rw [e5, mI_eq, q4, h28]
    · rw [e5, mI_ne (by omega), e4, mI_ne (by omega)]; exact f19 l
    · rw [e5, mI_ne (by omega), e4, mI_ne (by omega)]; exact f20 l
    · rw [e5, mI_ne (by omega), e4, mI_ne (by omega)]; exact f21 l
    · rw [e5, mI_ne (by omega), e4]
      by_cases c : (e : Int) = d
      · rw [if_pos c, show d.toNat = e by omega, mI_eq]; exact q3
      · rw [if_neg c, mI_ne (by omega), f22, if_neg (by omega)]
    · rw [e5]; refine Kp.tr ?_ (Kp.st s28); rw [e4]; exact Kp.st (s22 _)
  · have q4 : m4 0 28 = (vN V : Int) := by rw [e4, mI_ne (by omega)]; exact q3
    refine kk m5 ?_ (fun l => ?_) (fun l => ?_) (fun l => ?_) (fun e => ?_) (hk3.tr ?_)
    · rw [e5, mI_eq, q4, h28]
    · rw [e5, mI_ne (by omega), e4, mI_ne (by omega)]; exact f19 l
    · rw [e5, mI_ne (by omega), e4, mI_ne (by omega)]; exact f20 l
    · rw [e5, mI_ne (by omega), e4, mI_ne (by omega)]; exact f21 l
    · rw [e5, mI_ne (by omega), e4, if_neg (by omega)]
      by_cases c : (e : Int) = b
      · rw [if_pos c, show b.toNat = e by omega, mI_eq]; exact q3
      · rw [if_neg c, mI_ne (by omega), f22]
    · rw [e5]; refine Kp.tr ?_ (Kp.st s28); rw [e4]; exact Kp.st (s22 _)
  · have q4 : m4 0 28 = (vN V : Int) := by rw [e4, mI_ne (by omega)]; exact q3
    have q5 : m5 0 28 = (vN V : Int) := by rw [e5, mI_ne (by omega)]; exact q4
    refine kk m6 ?_ (fun l => ?_) (fun l => ?_) (fun l => ?_) (fun e => ?_) (hk3.tr ?_)
    · rw [e6, mI_eq, q5, h28]
    · rw [e6, mI_ne (by omega), e5, mI_ne (by omega), e4, mI_ne (by omega)]; exact f19 l
    · rw [e6, mI_ne (by omega), e5, mI_ne (by omega), e4, mI_ne (by omega)]; exact f20 l
    · rw [e6, mI_ne (by omega), e5, mI_ne (by omega), e4, mI_ne (by omega)]; exact f21 l
    · rw [e6, mI_ne (by omega), e5]
      by_cases c : (e : Int) = d
      · rw [if_pos c, show d.toNat = e by omega, mI_eq]; exact q4
      · rw [if_neg c, mI_ne (by omega), e4]
        by_cases c2 : (e : Int) = b
        · rw [if_pos c2, show b.toNat = e by omega, mI_eq]; exact q3
        · rw [if_neg c2, mI_ne (by omega), f22]
    · rw [e6]; refine Kp.tr ?_ (Kp.st s28); rw [e5]; refine Kp.tr ?_ (Kp.st (s22 _)); rw [e4]; exact Kp.st (s22 _)
theorem M_begin {V : VV} {m : MS} {b d : Int} (hV : VMp E V m) (hn : vN V < 18) (hb : -1 ≤ b ∧ b < 18) (hd : -1 ≤ d ∧ d < 18) (kk : ∀ m', VMp E (vOpen V b d) m' → Kp SV m m' → P m') : MMv mX10_beginLife [vr 0, vi b, vi d] m P :=
  M_begin0 hV.1 hn hb hd (fun m' a0 a1 a2 a3 a4 k => kk m' (VMp_open hV a0 a1 a2 a3 a4) k)
end MH

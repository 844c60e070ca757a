/-! the class's lives: one life's object -/
def LAdd (E : EE) (g g' : GS) (l k s h : Nat) : Prop := Kx (fun a _ => a = 121 + 2 * l ∨ a = 122 + 2 * l) g g' ∧ (∀ p, g'.1 (122 + 2 * l) p = fU (g.1 (122 + 2 * l)) s (k : Int) p) ∧ g'.1 (121 + 2 * l) 1 = ((s + 1 : Nat) : Int) ∧ g'.1 (121 + 2 * l) 2 = ((if eK E k = 1 then h else h + 1 : Nat) : Int) ∧ g'.1 (121 + 2 * l) 3 = (if eK E k = 0 then (k : Int) else g.1 (121 + 2 * l) 3) ∧ g'.1 (121 + 2 * l) 4 = (if eK E k = 2 then (k : Int) else g.1 (121 + 2 * l) 4) ∧ g'.1 (121 + 2 * l) 5 = (if s = 0 then sF E k else max (g.1 (121 + 2 * l) 5) (sF E k)) ∧ g'.1 (121 + 2 * l) 6 = (if s = 0 then sL E k else min (g.1 (121 + 2 * l) 6) (sL E k)) ∧ g'.1 (121 + 2 * l) 7 = (if s = 0 then eY E k else max (g.1 (121 + 2 * l) 7) (eY E k)) ∧ g'.1 (121 + 2 * l) 8 = g.1 (121 + 2 * l) 8
def Sx117 (a _ : Nat) : Prop := 117 ≤ a
section XG
variable {P : GS → Prop} {E : EE} {g : GS}
theorem RegX.k117 {g g' : GS} (h : RegX E g) (hW : WF E) (hk : Kx Sx117 g g') : RegX E g' := h.kx hW.1 hk (fun a k c z => by unfold coreX at c; unfold Sx117 at z; omega)
theorem BornX.k117 {g g' : GS} (h : BornX E g) (hR : RegX E g) (hW : WF E) (hk : Kx Sx117 g g') : BornX E g' := h.kx hR hW.1 hk (fun a k c z => by unfold Sx117 at z; omega)
/-- the end of adding: members, size, heads, birth, burial -/
theorem X_la_end {l k s h : Nat} (hR : RegX E g) (hW : WF E) (hl : l < 18) (hk : k < eN E) (hs : s < 5) (g2 : GS) (h2 : Kx (fun a j => a = 121 + 2 * l ∧ 5 ≤ j ∧ j ≤ 7) g g2) (h1 : g.1 (121 + 2 * l) 1 = (s : Int)) (hh : g.1 (121 + 2 * l) 2 = (h : Int)) (h5 : g2.1 (121 + 2 * l) 5 = (if s = 0 then sF E k else max (g.1 (121 + 2 * l) 5) (sF E k))) (h6 : g2.1 (121 + 2 * l) 6 = (if s = 0 then sL E k else min (g.1 (121 + 2 * l) 6) (sL E k))) (h7 : g2.1 (121 + 2 * l) 7 = (if s = 0 then eY E k else max (g.1 (121 + 2 * l) 7) (eY E k))) (hP : ∀ g', LAdd E g g' l k s h → P g') : 0 ≤ g2.1 (121 + 2 * l) 1 ∧ g2.1 (121 + 2 * l) 1 < 5 ∧ ∀ g13 : GS, g13 = gI g2 (122 + 2 * l) (g2.1 (121 + 2 * l) 1).toNat (k : Int) → (∀ g16 : GS, g16 = gI g13 (121 + 2 * l) 1 ((g13.1 (121 + 2 * l) 1) + 1) → (rng (g16.1 (sE g k) 4) ∧ (¬ g16.1 (sE g k) 4 = 1 → (∀ g20 : GS, g20 = gI g16 (121 + 2 * l) 2 ((g16.1 (121 + 2 * l) 2) + 1) → (rng (g20.1 (sE g k) 4) ∧ (¬ g20.1 (sE g k) 4 = 0 → (∀ g24 : GS, g24 = gI g20 (121 + 2 * l) 4 (k : Int) → (P g24))) ∧ (g20.1 (sE g k) 4 = 0 → (∀ g27 : GS, g27 = gI g20 (121 + 2 * l) 3 (k : Int) → (P g27)))))) ∧ (g16.1 (sE g k) 4 = 1 → (P g16)))) := by
  have h18 := hW.1
  have hsk := hR.2.1 k (by omega)
  obtain ⟨-, a2, -⟩ := hR.2.2.2.2.1 k hk
  obtain ⟨w1, -⟩ := hW.2.1 k hk
  have c1 : g2.1 (121 + 2 * l) 1 = (s : Int) := by rw [h2.1 _ _ (by omega)]; exact h1
  have c2 : g2.1 (121 + 2 * l) 2 = (h : Int) := by rw [h2.1 _ _ (by omega)]; exact hh
  have c3 : g2.1 (121 + 2 * l) 3 = g.1 (121 + 2 * l) 3 := h2.1 _ _ (by omega)
  have c4 : g2.1 (121 + 2 * l) 4 = g.1 (121 + 2 * l) 4 := h2.1 _ _ (by omega)
  have c8 : g2.1 (121 + 2 * l) 8 = g.1 (121 + 2 * l) 8 := h2.1 _ _ (by omega)
  have ck : g2.1 (sE g k) 4 = eK E k := by rw [h2.1 _ _ (by unfold sE; omega)]; exact a2
  have cm : ∀ p, g2.1 (122 + 2 * l) p = g.1 (122 + 2 * l) p := fun p => h2.1 _ _ (by omega)
  have nE : ¬ sE g k = 121 + 2 * l := by unfold sE; omega
  have nM : ¬ sE g k = 122 + 2 * l := by unfold sE; omega
  have hk0 : Kx (fun a _ => a = 121 + 2 * l ∨ a = 122 + 2 * l) g g2 := h2.mo (fun a j z => Or.inl z.1)
  have st : ∀ (q : GS) (j : Nat) (v : Int), Kx (fun a _ => a = 121 + 2 * l ∨ a = 122 + 2 * l) q (gI q (121 + 2 * l) j v) := fun q j v => Kx.st (S := fun a _ => a = 121 + 2 * l ∨ a = 122 + 2 * l) (Or.inl rfl)
  have sm : ∀ (q : GS) (j : Nat) (v : Int), Kx (fun a _ => a = 121 + 2 * l ∨ a = 122 + 2 * l) q (gI q (122 + 2 * l) j v) := fun q j v => Kx.st (S := fun a _ => a = 121 + 2 * l ∨ a = 122 + 2 * l) (Or.inr rfl)
  rw [c1, Int.toNat_natCast]
  refine ⟨by omega, by omega, fun g3 e3 g4 e4 => ?_⟩
  have d1 : g4.1 (121 + 2 * l) 1 = ((s + 1 : Nat) : Int) := by rw [e4, gI_eq, e3, gI_ne (by omega), c1]; omega
  have d2 : g4.1 (121 + 2 * l) 2 = (h : Int) := by rw [e4, gI_ne (by omega), e3, gI_ne (by omega), c2]
  have dj : ∀ j, 3 ≤ j → g4.1 (121 + 2 * l) j = g2.1 (121 + 2 * l) j := fun j hj => by rw [e4, gI_ne (by omega), e3, gI_ne (by omega)]
  have dm : ∀ p, g4.1 (122 + 2 * l) p = fU (g.1 (122 + 2 * l)) s (k : Int) p := fun p => by
    rw [e4, gI_ne (by omega), e3]
    by_cases c : p = s
    · rw [c, gI_eq, fU_eq]
    · rw [gI_ne (by omega), fU_ne c, cm]
  have dk : g4.1 (sE g k) 4 = eK E k := by rw [e4, gI_ne (fun z => nE z.1), e3, gI_ne (fun z => nM z.1)]; exact ck
  have hk4 : Kx (fun a _ => a = 121 + 2 * l ∨ a = 122 + 2 * l) g g4 := by rw [e4, e3]; exact (hk0.tr (sm _ _ _)).tr (st _ _ _)
  rw [dk]
  refine ⟨⟨by omega, by omega⟩, fun c g5 e5 => ?_, fun c => ?_⟩
  · have f1 : g5.1 (sE g k) 4 = eK E k := by rw [e5, gI_ne (fun z => nE z.1)]; exact dk
    have f2 : g5.1 (121 + 2 * l) 2 = ((h + 1 : Nat) : Int) := by rw [e5, gI_eq, d2]; omega
    have fj : ∀ j, j ≠ 2 → g5.1 (121 + 2 * l) j = g4.1 (121 + 2 * l) j := fun j hj => by rw [e5, gI_ne (by omega)]
    have fm : ∀ p, g5.1 (122 + 2 * l) p = g4.1 (122 + 2 * l) p := fun p => by rw [e5, gI_ne (by omega)]
    rw [f1]
    refine ⟨⟨by omega, by omega⟩, fun d g6 e6 => hP g6 ⟨?_, fun p => ?_, ?_, ?_, ?_, ?_, ?_, ?_, ?_, ?_⟩, fun d g6 e6 => hP g6 ⟨?_, fun p => ?_, ?_, ?_, ?_, ?_, ?_, ?_, ?_, ?_⟩⟩
    · rw [e6, e5]; exact (hk4.tr (st _ _ _)).tr (st _ _ _)
    · rw [e6, gI_ne (by omega), fm, dm]
    · rw [e6, gI_ne (by omega), fj 1 (by omega), d1]
    · rw [e6, gI_ne (by omega), f2, if_neg c]
    · rw [e6, gI_ne (by omega), fj 3 (by omega), dj 3 (by omega), c3, if_neg d]
    · rw [e6, gI_eq, if_pos (by omega)]
    · rw [e6, gI_ne (by omega), fj 5 (by omega), dj 5 (by omega), h5]
    · rw [e6, gI_ne (by omega), fj 6 (by omega), dj 6 (by omega), h6]
    · rw [e6, gI_ne (by omega), fj 7 (by omega), dj 7 (by omega), h7]
    · rw [e6, gI_ne (by omega), fj 8 (by omega), dj 8 (by omega), c8]
    · rw [e6, e5]; exact (hk4.tr (st _ _ _)).tr (st _ _ _)
    · rw [e6, gI_ne (by omega), fm, dm]
    · rw [e6, gI_ne (by omega), fj 1 (by omega), d1]
    · rw [e6, gI_ne (by omega), f2, if_neg c]
    · rw [e6, gI_eq, if_pos d]
    · rw [e6, gI_ne (by omega), fj 4 (by omega), dj 4 (by omega), c4, if_neg (by omega)]
    · rw [e6, gI_ne (by omega), fj 5 (by omega), dj 5 (by omega), h5]
    · rw [e6, gI_ne (by omega), fj 6 (by omega), dj 6 (by omega), h6]
    · rw [e6, gI_ne (by omega), fj 7 (by omega), dj 7 (by omega), h7]
    · rw [e6, gI_ne (by omega), fj 8 (by omega), dj 8 (by omega), c8]
  · refine hP g4 ⟨hk4, dm, d1, by rw [d2, if_pos c], by rw [dj 3 (by omega), c3, if_neg (by omega)], by rw [dj 4 (by omega), c4, if_neg (by omega)], by rw [dj 5 (by omega), h5], by rw [dj 6 (by omega), h6], by rw [dj 7 (by omega), h7], by rw [dj 8 (by omega), c8]⟩
theorem X_ladd {l k s h : Nat} (hR : RegX E g) (hB : BornX E g) (hW : WF E) (hl : l < 18) (hk : k < eN E) (hs : s < 5) (h1 : g.1 (121 + 2 * l) 1 = (s : Int)) (hh : g.1 (121 + 2 * l) 2 = (h : Int)) (hr : 0 < s → rng (g.1 (121 + 2 * l) 5) ∧ rng (g.1 (121 + 2 * l) 6) ∧ rng (g.1 (121 + 2 * l) 7)) (hP : ∀ g', LAdd E g g' l k s h → P g') : MXv mX1_add [vr (121 + 2 * l), vi (k : Int), vr (sE g k)] g P := by
  have h18 := hW.1
  have hsk := hR.2.1 k (by omega)
  obtain ⟨-, a2, a3, -⟩ := hR.2.2.2.2.1 k hk
  obtain ⟨b1, b2⟩ := hB k hk
  obtain ⟨w1, w2, -⟩ := hW.2.1 k hk
  have f1 := sF_b hW hk
  have f2 := sL_b hW hk
  have nE : ¬ sE g k = 121 + 2 * l := by unfold sE; omega
  have st : ∀ (q : GS) (j : Nat) (v : Int), (5 ≤ j ∧ j ≤ 7) → Kx (fun a j => a = 121 + 2 * l ∧ 5 ≤ j ∧ j ≤ 7) q (gI q (121 + 2 * l) j v) := fun q j v hj => Kx.st (S := fun a j => a = 121 + 2 * l ∧ 5 ≤ j ∧ j ≤ 7) ⟨rfl, hj.1, hj.2⟩
  have p68 : ∀ (x y : Int) (q : GS), q = gI g (121 + 2 * l) 5 x → x = (if s = 0 then sF E k else max (g.1 (121 + 2 * l) 5) (sF E k)) → y = (if s = 0 then sL E k else min (g.1 (121 + 2 * l) 6) (sL E k)) → XXv mX1_add 68 [some (vr (121 + 2 * l)), some (vi (k : Int)), some (vr (sE g k))] [vi y, vr (121 + 2 * l)] q P := by
    intro x y q eq hx hy
    refine uX1_add_68 q l hl k _ hsk l hl y (fun r er => ?_)
    have r1 : r.1 (121 + 2 * l) 1 = (s : Int) := by rw [er, gI_ne (by omega), eq, gI_ne (by omega)]; exact h1
    have r5 : r.1 (121 + 2 * l) 5 = (if s = 0 then sF E k else max (g.1 (121 + 2 * l) 5) (sF E k)) := by rw [er, gI_ne (by omega), eq, gI_eq, hx]
    have r6 : r.1 (121 + 2 * l) 6 = (if s = 0 then sL E k else min (g.1 (121 + 2 * l) 6) (sL E k)) := by rw [er, gI_eq, hy]
    have r7 : r.1 (121 + 2 * l) 7 = g.1 (121 + 2 * l) 7 := by rw [er, gI_ne (by omega), eq, gI_ne (by omega)]
    have rY : r.1 (sE g k) 5 = eY E k := by rw [er, gI_ne (fun z => nE z.1), eq, gI_ne (fun z => nE z.1)]; exact a3
    have kr : Kx (fun a j => a = 121 + 2 * l ∧ 5 ≤ j ∧ j ≤ 7) g r := by rw [er, eq]; exact (st _ _ _ (by omega)).tr (st _ _ _ (by omega))
    rw [r1, r7]
    refine ⟨⟨by omega, by omega⟩, fun c => ⟨(hr (by omega)).2.2, ?_, fun r2 e2 => ?_⟩, fun c r2 e2 => ?_⟩
    · rw [rY]; exact ⟨by omega, by omega⟩
    · rw [rY] at e2
      refine X_la_end hR hW hl hk hs r2 ?_ h1 hh ?_ ?_ ?_ hP
      · rw [e2]; exact kr.tr (st _ _ _ (by omega))
      · rw [e2, gI_ne (by omega)]; exact r5
      · rw [e2, gI_ne (by omega)]; exact r6
      · rw [e2, gI_eq, if_neg (by omega)]
    · rw [rY] at e2
      refine X_la_end hR hW hl hk hs r2 ?_ h1 hh ?_ ?_ ?_ hP
      · rw [e2]; exact kr.tr (st _ _ _ (by omega))
      · rw [e2, gI_ne (by omega)]; exact r5
      · rw [e2, gI_ne (by omega)]; exact r6
      · rw [e2, gI_eq, if_pos (by omega)]
  have p39 : ∀ (x : Int), x = (if s = 0 then sF E k else max (g.1 (121 + 2 * l) 5) (sF E k)) → XXv mX1_add 39 [some (vr (121 + 2 * l)), some (vi (k : Int)), some (vr (sE g k))] [vi x, vr (121 + 2 * l)] g P := by
    intro x hx
    refine uX1_add_39 g l hl k _ hsk l hl x (fun q eq => ?_)
    have q1 : q.1 (121 + 2 * l) 1 = (s : Int) := by rw [eq, gI_ne (by omega)]; exact h1
    have q6 : q.1 (121 + 2 * l) 6 = g.1 (121 + 2 * l) 6 := by rw [eq, gI_ne (by omega)]
    have qL : q.1 (sE g k) 9 = sL E k := by rw [eq, gI_ne (fun z => nE z.1)]; exact b2
    rw [q1, q6]
    refine ⟨⟨by omega, by omega⟩, fun c => ⟨(hr (by omega)).2.1, ?_, ?_⟩, fun c => ?_⟩
    · rw [qL]; exact ⟨by omega, by omega⟩
    · rw [qL]; exact p68 x _ q eq hx (by rw [if_neg (by omega)])
    · rw [qL]; exact p68 x _ q eq hx (by rw [if_pos (by omega)])
  refine uX1_add g l hl k _ hsk ?_
  rw [h1]
  refine ⟨⟨by omega, by omega⟩, fun _ => ⟨fun c => ⟨(hr (by omega)).1, ?_, ?_⟩, fun c => ?_⟩, fun z => by omega⟩
  · rw [b1]; exact ⟨by omega, by omega⟩
  · rw [b1]; exact p39 _ (by rw [if_neg (by omega)])
  · rw [b1]; exact p39 _ (by rw [if_pos (by omega)])
end XG

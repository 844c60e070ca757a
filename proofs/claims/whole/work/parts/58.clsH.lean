/-! the class's lives: a life is opened, entries come to it -/
def hN (V : VV) (l : Nat) : Nat := (if vB V l = -1 then 0 else 1) + (if vD V l = -1 then 0 else 1)
def LifeG (E : EE) (V : VV) (g : GS) (l : Nat) : Prop := g.1 (121 + 2 * l) 1 = ((hN V l + vW V l : Nat) : Int) ∧ g.1 (121 + 2 * l) 2 = (hN V l : Int) ∧ g.1 (121 + 2 * l) 3 = vB V l ∧ g.1 (121 + 2 * l) 4 = vD V l ∧ LR E (vO V) l (hN V l + vW V l) (hN V l) (g.1 (122 + 2 * l)) (g.1 (121 + 2 * l) 5) (g.1 (121 + 2 * l) 6) (g.1 (121 + 2 * l) 7)
def LvX (E : EE) (V : VV) (g : GS) : Prop := g.1 117 2 = (vN V : Int) ∧ ∀ l, l < vN V → LifeG E V g l
def SU (n a k : Nat) : Prop := a = 121 + 2 * n ∨ a = 122 + 2 * n ∨ (a = 117 ∧ k = 2) ∨ a = 119
/-- the life behind all others is being filled -/
def UC (E : EE) (n : Nat) (g g1 : GS) (O : Nat → Int) (b d : Int) (s h : Nat) : Prop := Kx (SU n) g g1 ∧ g1.1 117 2 = ((n + 1 : Nat) : Int) ∧ g1.1 (121 + 2 * n) 1 = (s : Int) ∧ g1.1 (121 + 2 * n) 2 = (h : Int) ∧ g1.1 (121 + 2 * n) 3 = b ∧ g1.1 (121 + 2 * n) 4 = d ∧ g1.1 (121 + 2 * n) 8 = 0 ∧ LR E O n s h (g1.1 (122 + 2 * n)) (g1.1 (121 + 2 * n) 5) (g1.1 (121 + 2 * n) 6) (g1.1 (121 + 2 * n) 7) ∧ (∀ e, e < eN E → g1.1 119 e = if O e = (n : Int) then (n : Int) else g.1 119 e)
section XH
variable {E : EE} {g : GS}
theorem X_clear {P : GS → Prop} {l : Nat} (hl : l < 18) (hP : ∀ g', Kx (fun a _ => a = 121 + 2 * l) g g' → g'.1 (121 + 2 * l) 1 = 0 → g'.1 (121 + 2 * l) 2 = 0 → g'.1 (121 + 2 * l) 3 = -1 → g'.1 (121 + 2 * l) 4 = -1 → g'.1 (121 + 2 * l) 8 = 0 → P g') : MXv mX1_clear [vr (121 + 2 * l)] g P := by
  refine uX1_clear g l hl (fun g1 e1 g2 e2 g3 e3 g4 e4 g5 e5 => hP g5 ?_ ?_ ?_ ?_ ?_ ?_)
  · have st : ∀ (q : GS) (j : Nat) (v : Int), Kx (fun a _ => a = 121 + 2 * l) q (gI q (121 + 2 * l) j v) := fun q j v => Kx.st (S := fun a _ => a = 121 + 2 * l) rfl
    rw [e5, e4, e3, e2, e1]
    exact ((((st _ _ _).tr (st _ _ _)).tr (st _ _ _)).tr (st _ _ _)).tr (st _ _ _)
  · rw [e5, gI_ne (by omega), e4, gI_ne (by omega), e3, gI_ne (by omega), e2, gI_ne (by omega), e1, gI_eq]
  · rw [e5, gI_ne (by omega), e4, gI_ne (by omega), e3, gI_ne (by omega), e2, gI_eq]
  · rw [e5, gI_ne (by omega), e4, gI_ne (by omega), e3, gI_eq]
  · rw [e5, gI_ne (by omega), e4, gI_eq]
  · rw [e5, gI_eq]
theorem X_open {P : Int → GS → Prop} {n : Nat} {O : Nat → Int} (h2 : g.1 117 2 = (n : Int)) (hn : n < 18) (h0 : ∀ k, k < eN E → O k ≠ (n : Int)) (hP : ∀ g', UC E n g g' O (-1) (-1) 0 0 → P (n : Int) g') : MXi mX2_open [vr 117] g P := by
  refine uX2_open g ?_
  rw [h2]
  simp only [Int.toNat_natCast]
  refine ⟨⟨by omega, by omega⟩, fun z => by omega, fun _ => ⟨by omega, by omega, ?_⟩⟩
  refine X_clear hn (fun g1 k1 c1 c2 c3 c4 c8 => ?_)
  intro g2 e2
  have hq : g2.1 117 2 = ((n + 1 : Nat) : Int) := by rw [e2, gI_eq, k1.1 117 2 (by omega), h2]; omega
  rw [hq, show ((n + 1 : Nat) : Int) - 1 = (n : Int) by omega]
  have cj : ∀ j, g2.1 (121 + 2 * n) j = g1.1 (121 + 2 * n) j := fun j => by rw [e2, gI_ne (by omega)]
  refine hP g2 ⟨?_, hq, by rw [cj]; exact c1, by rw [cj]; exact c2, by rw [cj]; exact c3, by rw [cj]; exact c4, by rw [cj]; exact c8, LR_none h0, fun e he => ?_⟩
  · rw [e2]
    exact (k1.mo (fun a k z => Or.inl z)).tr (Kx.st (Or.inr (Or.inr (Or.inl ⟨rfl, rfl⟩))))
  · rw [if_neg (h0 e he), e2, gI_ne (by omega), k1.1 119 e (by omega)]
theorem GMx_f {O : Nat → Int} {l : Nat} {f : Nat → Int} {x lo hi : Int} (hf : ∀ k, k < eN E → lo ≤ f k ∧ f k ≤ hi) (h : GMx E O l f x) : lo ≤ x ∧ x ≤ hi := by
  obtain ⟨-, k, hk, -, e⟩ := h
  have := hf k hk
  omega
theorem GMn_f {O : Nat → Int} {l : Nat} {f : Nat → Int} {x lo hi : Int} (hf : ∀ k, k < eN E → lo ≤ f k ∧ f k ≤ hi) (h : GMn E O l f x) : lo ≤ x ∧ x ≤ hi := by
  obtain ⟨-, k, hk, -, e⟩ := h
  have := hf k hk
  omega
theorem LR_rng {O : Nat → Int} {l s h : Nat} {f : Nat → Int} {x y z : Int} (hW : WF E) (hg : LR E O l s h f x y z) : 0 < s → rng x ∧ rng y ∧ rng z := by
  intro hs
  obtain ⟨a, b, c⟩ := hg.2 hs
  have h1 := GMx_f (lo := 1400) (hi := 1900) (fun k hk => sF_b hW hk) a
  have h2 := GMn_f (lo := 1400) (hi := 1910) (fun k hk => sL_b hW hk) b
  have h3 := GMx_f (lo := 1600) (hi := 1899) (fun k hk => (hW.2.1 k hk).2.1) c
  exact ⟨⟨by omega, by omega⟩, ⟨by omega, by omega⟩, ⟨by omega, by omega⟩⟩
/-- an entry comes to a life, raw -/
theorem X_add0 {P : GS → Prop} {N l k s h : Nat} (hR : RegX E g) (hB : BornX E g) (hW : WF E) (h2 : g.1 117 2 = (N : Int)) (hN : N ≤ 18) (hl : l < N) (hk : k < eN E) (hs : s < 5) (h1 : g.1 (121 + 2 * l) 1 = (s : Int)) (hh : g.1 (121 + 2 * l) 2 = (h : Int)) (hr : 0 < s → rng (g.1 (121 + 2 * l) 5) ∧ rng (g.1 (121 + 2 * l) 6) ∧ rng (g.1 (121 + 2 * l) 7)) (hP : ∀ g1, LAdd E g g1 l k s h → P (gI g1 119 k (l : Int))) : MXv mX2_add [vr 117, vi (k : Int), vi (l : Int), vr 8] g P := by
  have h18 := hW.1
  refine uX2_add g _ _ ?_
  refine uX2_has g _ ?_
  rw [h2]
  simp only [Int.toNat_natCast]
  refine ⟨⟨by omega, by omega⟩, fun z => by omega, fun _ => ⟨⟨by omega, by omega⟩, fun z => by omega, fun _ => ⟨⟨by decide, by decide⟩, fun z => absurd z (by decide), fun _ => ⟨by omega, by omega, by omega, by omega, hR.2.1 k (by omega), ?_⟩⟩⟩⟩
  refine X_ladd hR hB hW (by omega) hk hs h1 hh hr (fun g1 hA g2 e2 => ?_)
  rw [e2]
  exact hP g1 hA
theorem X_uadd {P : GS → Prop} {g1 : GS} {n k s h : Nat} {O : Nat → Int} {b d : Int} (hR : RegX E g1) (hB : BornX E g1) (hW : WF E) (hn : n < 18) (hU : UC E n g g1 O b d s h) (hk : k < eN E) (hO : O k ≠ (n : Int)) (hs : s < 5) (hh : h ≤ s) (hk1 : eK E k ≠ 1 → h = s) (hw : eK E k = 1 → ∀ j, j < eN E → O j = (n : Int) → eK E j = 1 → j < k) (hP : ∀ g', UC E n g g' (fU O k (n : Int)) (if eK E k = 0 then (k : Int) else b) (if eK E k = 2 then (k : Int) else d) (s + 1) (if eK E k = 1 then h else h + 1) → P g') : MXv mX2_add [vr 117, vi (k : Int), vi (n : Int), vr 8] g1 P := by
  have h18 := hW.1
  obtain ⟨u1, u2, u3, u4, u5, u6, u7, u8, u9⟩ := hU
  refine X_add0 hR hB hW u2 (by omega) (by omega) hk hs u3 u4 (LR_rng hW u8) (fun g2 hA => hP _ ?_)
  obtain ⟨a1, a2, a3, a4, a5, a6, a7, a8, a9, a10⟩ := hA
  have cj : ∀ a j, a ≠ 119 → (gI g2 119 k (n : Int)).1 a j = g2.1 a j := fun a j ha => gI_ne (by omega)
  refine ⟨?_, ?_, ?_, ?_, ?_, ?_, ?_, ?_, fun e he => ?_⟩
  · exact (u1.tr (a1.mo (fun a j z => by unfold SU; omega))).tr (Kx.st (by unfold SU; omega))
  · rw [cj _ _ (by omega), a1.1 _ _ (by omega)]; exact u2
  · rw [cj _ _ (by omega)]; exact a3
  · rw [cj _ _ (by omega)]; exact a4
  · rw [cj _ _ (by omega), a5, u5]
  · rw [cj _ _ (by omega), a6, u6]
  · rw [cj _ _ (by omega), a10]; exact u7
  · rw [cj _ 5 (by omega), cj _ 6 (by omega), cj _ 7 (by omega), a7, a8, a9]
    exact LR_cg (fun j _ => Iff.rfl) (fun p _ => by rw [cj _ _ (by omega)]; exact a2 p) (LR_add hk hO hh hk1 hw u8)
  · by_cases c : e = k
    · rw [c, gI_eq, fU_eq, if_pos rfl]
    · rw [gI_ne (by omega), a1.1 _ _ (by omega), fU_ne c]
      exact u9 e he
theorem LifeG.kx {V V' : VV} {g g' : GS} {l : Nat} (h : LifeG E V g l) (h1 : ∀ j, j ≤ 7 → g'.1 (121 + 2 * l) j = g.1 (121 + 2 * l) j) (h2 : ∀ j, g'.1 (122 + 2 * l) j = g.1 (122 + 2 * l) j) (hb : vB V' l = vB V l) (hd : vD V' l = vD V l) (hw : vW V' l = vW V l) (hO : ∀ k, k < eN E → (vO V' k = (l : Int) ↔ vO V k = (l : Int))) : LifeG E V' g' l := by
  obtain ⟨a1, a2, a3, a4, a5⟩ := h
  have e : hN V' l = hN V l := by unfold hN; rw [hb, hd]
  unfold LifeG
  rw [e, hb, hd, hw, h1 1 (by omega), h1 2 (by omega), h1 3 (by omega), h1 4 (by omega), h1 5 (by omega), h1 6 (by omega), h1 7 (by omega)]
  exact ⟨a1, a2, a3, a4, LR_cg hO (fun p _ => h2 p) a5⟩
/-- the new life stands -/
theorem LvX_new {V V' : VV} {g1 : GS} {O : Nat → Int} {b d : Int} {s h : Nat} (hL : LvX E V g) (hU : UC E (vN V) g g1 O b d s h) (hN' : vN V' = vN V + 1) (hold : ∀ l, l < vN V → vB V' l = vB V l ∧ vD V' l = vD V l ∧ vW V' l = vW V l ∧ (∀ k, k < eN E → (vO V' k = (l : Int) ↔ vO V k = (l : Int)))) (hb : vB V' (vN V) = b) (hd : vD V' (vN V) = d) (hs : hN V' (vN V) + vW V' (vN V) = s) (hh : hN V' (vN V) = h) (hO : ∀ k, k < eN E → (vO V' k = (vN V : Int) ↔ O k = (vN V : Int))) : LvX E V' g1 := by
  obtain ⟨u1, u2, u3, u4, u5, u6, u7, u8, u9⟩ := hU
  refine ⟨by rw [hN']; exact u2, fun l hl => ?_⟩
  by_cases c : l = vN V
  · subst c
    unfold LifeG
    rw [hs, hh, hb, hd]
    exact ⟨u3, u4, u5, u6, LR_cg hO (fun p _ => rfl) u8⟩
  · obtain ⟨o1, o2, o3, o4⟩ := hold l (by omega)
    exact (hL.2 l (by omega)).kx (fun j _ => u1.1 _ _ (by unfold SU; omega)) (fun j => u1.1 _ _ (by unfold SU; omega)) o1 o2 o3 o4
end XH

/-! the class's lives: the weddings -/
theorem vA_nn {E : EE} {V : VV} {e l : Nat} (hW : WF E) (he : e < eN E) (hg : vG E V e l = true) : 0 ≤ vA E V e l := by
  obtain ⟨-, h2⟩ := (vG_iff (eN E)).1 hg
  have h : ∀ n, n ≤ eN E → 0 ≤ vSn E V e l n := by
    intro n
    induction n with
    | zero => intro _; exact Int.le_refl _
    | succ n ih =>
      intro hn
      have := ih (by omega)
      rw [vSn]
      split
      next c =>
        unfold vIn at c
        rw [Bool.and_eq_true, decide_eq_true_eq] at c
        have := (sWo_fit hW he (show n < eN E by omega) (h2 n (by omega) c.1)).1
        omega
      · exact this
  exact Int.tdiv_nonneg (h _ (Nat.le_refl _)) (cnt_b _ _).1
theorem vVal_ne {E : EE} {V : VV} {e l : Nat} (hW : WF E) (he : e < eN E) : vVal E V e l ≠ -1 ↔ vG E V e l = true := by
  unfold vVal
  by_cases c : vG E V e l = true
  · rw [if_pos c]
    have := vA_nn hW he c
    exact ⟨fun _ => c, fun _ => by omega⟩
  · rw [if_neg c]
    exact ⟨fun z => absurd rfl z, fun z => absurd z c⟩
theorem vVal_b {E : EE} {V : VV} {e l : Nat} (hW : WF E) (hI : VI E V) (he : e < eN E) (hl : l < vN V) : -1 ≤ vVal E V e l ∧ vVal E V e l ≤ 21600 := by
  have := vA_b hW hI he hl
  unfold vVal
  split
  next c => have := vA_nn hW he c; omega
  · omega
section XL
variable {P : Int → GS → Prop} {E : EE} {g : GS}
theorem X_rival {V : VV} {e b : Nat} (hW : WF E) (hI : VI E V) (hvn : vN V ≤ 18) (he : e < eN E) (hb : b < vN V) (hg : vG E V e b = true) (h2 : g.1 117 2 = (vN V : Int)) (hv : ∀ l, l < vN V → g.1 120 l = vVal E V e l) (hP : P (bi (vRn E V e b (vN V))) g) : MXi mX2_hasRival [vr 117, vi (b : Int), vi (eB E 2)] g P := by
  have w2 := hW.2.2.2.2.2.2
  have up : ∀ n t, vRn E V e b n = true → vRn E V e b (n + t) = true := by
    intro n t h
    induction t with
    | zero => exact h
    | succ t ih => rw [← Nat.add_assoc, vRn, ih]; rfl
  have loop : ∀ (t n : Nat), n + t = vN V → vRn E V e b n = false → XXi mX2_hasRival 2 [some (vr 117), some (vi (b : Int)), some (vi (eB E 2)), some (vi (n : Int))] [] g P := by
    intro t
    induction t with
    | zero =>
      intro n hn hf
      have hn : n = vN V := by omega
      subst hn
      refine uX2_hasRival_2 g _ _ _ ?_
      rw [h2]
      rw [hf] at hP
      exact ⟨⟨by omega, by omega⟩, ⟨by omega, by omega⟩, fun _ => hP, fun z => by omega⟩
    | succ t ih =>
      intro n hn hf
      have vb := vVal_b hW hI he hb
      have vn := vVal_b hW hI he (show n < vN V by omega)
      have eb : vVal E V e b = vA E V e b := by unfold vVal; rw [if_pos hg]
      have next : (decide (n ≠ b) && vG E V e n && decide (vA E V e b - vA E V e n ≤ eB E 2)) = false → XXi mX2_hasRival 2 [some (vr 117), some (vi (b : Int)), some (vi (eB E 2)), some (vi ((n : Int) + 1))] [] g P := by
        intro h
        refine ih (n + 1) (by omega) ?_
        rw [vRn, hf, h]; rfl
      refine uX2_hasRival_2 g _ _ _ ?_
      rw [h2]
      simp only [Int.toNat_natCast]
      rw [hv n (by omega), hv b hb]
      refine ⟨⟨by omega, by omega⟩, ⟨by omega, by omega⟩, fun z => by omega, fun _ => ⟨⟨by omega, by omega⟩, fun z => next ?_, fun z => ⟨by omega, by omega, ⟨by omega, by omega⟩, fun c => next ?_, fun c => ⟨by omega, by omega, ⟨by omega, by omega⟩, ⟨by omega, by omega⟩, fun d => next ?_, fun d => ?_⟩⟩⟩⟩
      · have z : n = b := by omega
        simp [z]
      · have : ¬ vG E V e n = true := fun q => (vVal_ne hW he).2 q c
        rw [Bool.not_eq_true] at this
        simp [this]
      · have hgn := (vVal_ne hW he).1 c
        have en : vVal E V e n = vA E V e n := by unfold vVal; rw [if_pos hgn]
        have : ¬ (vA E V e b - vA E V e n ≤ eB E 2) := by omega
        simp [this]
      · have hgn := (vVal_ne hW he).1 c
        have en : vVal E V e n = vA E V e n := by unfold vVal; rw [if_pos hgn]
        have h1 : vA E V e b - vA E V e n ≤ eB E 2 := by omega
        have h3 : n ≠ b := by omega
        have : vRn E V e b (n + 1) = true := by rw [vRn]; simp [h1, h3, hgn]
        have := up (n + 1) t this
        rw [show n + 1 + t = vN V by omega] at this
        rw [this] at hP
        exact hP
  exact uX2_hasRival g _ _ (loop (vN V) 0 (by omega) rfl)
end XL
section XL2
variable {P : GS → Prop} {E : EE}
/-- the weddings before the n-th entry are laid -/
def WP (E : EE) (V : VV) (n : Nat) (g0 g : GS) : Prop := Kx Sx117 g0 g ∧ LvX E V g ∧ (∀ l, l < vN V → g.1 (121 + 2 * l) 8 = bi (vH E V l)) ∧ g.1 117 3 = (vN (sVf E) : Int) ∧ g.1 117 4 = cnt (fun k => decide (eK E k = 1) && decide (vO V k = -1)) n ∧ (∀ e, e < eN E → (eK E e ≠ 1 ∨ e < n) → g.1 119 e = vO V e)
def S120 (a _ : Nat) : Prop := a = 120
theorem WP.k120 {V : VV} {n : Nat} {g0 g g' : GS} (h : WP E V n g0 g) (hk : Kx S120 g g') (h18 : vN V ≤ 18) : WP E V n g0 g' := by
  obtain ⟨a1, a2, a3, a4, a5, a6⟩ := h
  refine ⟨a1.tr (hk.mo (fun a k z => by unfold S120 at z; unfold Sx117; omega)), ⟨by rw [hk.1 _ _ (by unfold S120; omega)]; exact a2.1, fun l hl => (a2.2 l hl).kx (fun j _ => hk.1 _ _ (by unfold S120; omega)) (fun j => hk.1 _ _ (by unfold S120; omega)) rfl rfl rfl (fun k _ => Iff.rfl)⟩, fun l hl => by rw [hk.1 _ _ (by unfold S120; omega)]; exact a3 l hl, by rw [hk.1 _ _ (by unfold S120; omega)]; exact a4, by rw [hk.1 _ _ (by unfold S120; omega)]; exact a5, fun e he hh => by rw [hk.1 _ _ (by unfold S120; omega)]; exact a6 e he hh⟩
theorem cnt_cg {p q : Nat → Bool} : ∀ n, (∀ k, k < n → p k = q k) → cnt p n = cnt q n := by
  intro n
  induction n with
  | zero => intro _; rfl
  | succ n ih => intro h; rw [cnt, cnt, ih (fun k hk => h k (by omega)), h n (by omega)]
theorem vH_cg {V V' : VV} {l : Nat} (h1 : vB V' l = vB V l) (h2 : vD V' l = vD V l) : vH E V' l = vH E V l := by unfold vH; rw [h1, h2]
/-- a wedding comes to a life that stands -/
theorem X_put (hW : WF E) {V : VV} {e b : Nat} {g0 g : GS} (hR0 : RegX E g0) (hB0 : BornX E g0) (hp : WP E V e g0 g) (hI : VI E V) (hvn : vN V ≤ 18) (he : e < eN E) (hk : eK E e = 1) (ho : vO V e = -1) (hlt : ∀ x, x < eN E → e ≤ x → eK E x = 1 → vO V x = -1) (hb : b < vN V) (hw : vW V b < 3) (hP : ∀ g', WP E (vN V, vB V, vD V, fU (vW V) b (vW V b + 1), fU (vO V) e (b : Int)) (e + 1) g0 g' → P g') : MXv mX2_add [vr 117, vi (e : Int), vi (b : Int), vr 8] g P := by
  obtain ⟨p1, p2, p3, p4, p5, p6⟩ := hp
  have hL := p2.2 b hb
  obtain ⟨a1, a2, a3, a4, a5⟩ := id hL
  have hh2 : hN V b ≤ 2 := by unfold hN; split <;> split <;> omega
  refine X_add0 (hR0.k117 hW p1) (hB0.k117 hR0 hW p1) hW p2.1 hvn hb he (by omega) a1 a2 (LR_rng hW a5) (fun g1 hA => hP _ ?_)
  obtain ⟨b1, b2, b3, b4, b5, b6, b7, b8, b9, b10⟩ := hA
  have cj : ∀ a j, a ≠ 119 → (gI g1 119 e (b : Int)).1 a j = g1.1 a j := fun a j ha => gI_ne (by omega)
  have hnl : vO V e ≠ (b : Int) := by omega
  refine ⟨?_, ⟨?_, fun l hl => ?_⟩, fun l hl => ?_, ?_, ?_, fun x hx hxx => ?_⟩
  · exact (p1.tr (b1.mo (fun a j z => by unfold Sx117; omega))).tr (Kx.st (by unfold Sx117; omega))
  · rw [cj _ _ (by omega), b1.1 _ _ (by omega)]; exact p2.1
  · have hl : l < vN V := hl
    by_cases c : l = b
    · subst c
      have eh : hN (vN V, vB V, vD V, fU (vW V) l (vW V l + 1), fU (vO V) e (l : Int)) l = hN V l := rfl
      have ew : vW (vN V, vB V, vD V, fU (vW V) l (vW V l + 1), fU (vO V) e (l : Int)) l = vW V l + 1 := fU_eq
      unfold LifeG
      rw [eh, ew, cj _ 1 (by omega), cj _ 2 (by omega), cj _ 3 (by omega), cj _ 4 (by omega), cj _ 5 (by omega), cj _ 6 (by omega), cj _ 7 (by omega), b3, b4, b5, b6, b7, b8, b9, if_pos hk, if_neg (by omega), if_neg (by omega)]
      refine ⟨rfl, rfl, a3, a4, ?_⟩
      have h1 := LR_add he hnl (by omega) (fun z => absurd hk z) (fun _ k hkN hkO hk1 => ?_) a5
      · rw [if_pos hk] at h1
        exact LR_cg (fun j _ => Iff.rfl) (fun p _ => by rw [cj _ _ (by omega)]; exact b2 p) h1
      · by_cases q : k < e
        · exact q
        · have := hlt k hkN (by omega) hk1
          omega
    · refine (p2.2 l hl).kx (fun j _ => by rw [cj _ _ (by omega), b1.1 _ _ (by omega)]) (fun j => by rw [cj _ _ (by omega), b1.1 _ _ (by omega)]) rfl rfl (fU_ne c) (fun k _ => ?_)
      show fU (vO V) e (b : Int) k = (l : Int) ↔ vO V k = (l : Int)
      by_cases q : k = e
      · rw [q, fU_eq, ho]; omega
      · rw [fU_ne q]
  · have hl : l < vN V := hl
    rw [cj _ _ (by omega), show vH E (vN V, vB V, vD V, fU (vW V) b (vW V b + 1), fU (vO V) e (b : Int)) l = vH E V l from rfl]
    by_cases c : l = b
    · rw [c, b10]; exact p3 b hb
    · rw [b1.1 _ _ (by omega)]; exact p3 l hl
  · rw [cj _ _ (by omega), b1.1 _ _ (by omega)]; exact p4
  · rw [cj _ _ (by omega), b1.1 _ _ (by omega), p5, cnt, if_neg ?_, Int.add_zero]
    · refine cnt_cg e (fun k hk => ?_)
      rw [show vO (vN V, vB V, vD V, fU (vW V) b (vW V b + 1), fU (vO V) e (b : Int)) k = vO V k from fU_ne (by omega)]
    · rw [show vO (vN V, vB V, vD V, fU (vW V) b (vW V b + 1), fU (vO V) e (b : Int)) e = (b : Int) from fU_eq]
      simp
  · show _ = fU (vO V) e (b : Int) x
    by_cases q : x = e
    · rw [q, gI_eq, fU_eq]
    · rw [gI_ne (by omega), b1.1 _ _ (by omega), fU_ne q]
      exact p6 x hx (hxx.imp id (fun z => by omega))
/-- a wedding opens a life -/
theorem X_alone (hW : WF E) {V : VV} {e : Nat} {g0 g : GS} (hR0 : RegX E g0) (hB0 : BornX E g0) (hp : WP E V e g0 g) (hI : VI E V) (hvn : vN V < 18) (he : e < eN E) (hk : eK E e = 1) (ho : vO V e = -1) (hP : ∀ g', WP E (vN V + 1, fU (vB V) (vN V) (-1), fU (vD V) (vN V) (-1), fU (vW V) (vN V) 1, fU (vO V) e (vN V : Int)) (e + 1) g0 g' → P g') : MXi mX2_open [vr 117] g (fun y18 g17 => MXv mX2_add [vr 117, vi (e : Int), vi y18, vr 8] g17 (fun g19 => P g19)) := by
  obtain ⟨p1, p2, p3, p4, p5, p6⟩ := hp
  have hno : ∀ k, vO V k ≠ (vN V : Int) := fun k z => by
    rcases hI.1 k with y | ⟨-, l, hl, y⟩ <;> omega
  refine X_open (E := E) p2.1 hvn (fun k _ => hno k) (fun g1 hU1 => ?_)
  have k1 : Kx Sx117 g0 g1 := p1.tr (hU1.1.mo (fun a k z => SU_117 z))
  refine X_uadd (hR0.k117 hW k1) (hB0.k117 hR0 hW k1) hW hvn hU1 he (hno e) (by omega) (by omega) (fun z => absurd hk z) (fun _ j _ hj => absurd hj (hno j)) (fun g2 hU2 => hP g2 ?_)
  rw [if_neg (by omega), if_neg (by omega), if_pos hk] at hU2
  have hO' : ∀ k, vO (vN V + 1, fU (vB V) (vN V) (-1), fU (vD V) (vN V) (-1), fU (vW V) (vN V) 1, fU (vO V) e (vN V : Int)) k = fU (vO V) e (vN V : Int) k := fun _ => rfl
  have hold : ∀ l, l < vN V → vB (vN V + 1, fU (vB V) (vN V) (-1), fU (vD V) (vN V) (-1), fU (vW V) (vN V) 1, fU (vO V) e (vN V : Int)) l = vB V l ∧ vD (vN V + 1, fU (vB V) (vN V) (-1), fU (vD V) (vN V) (-1), fU (vW V) (vN V) 1, fU (vO V) e (vN V : Int)) l = vD V l ∧ vW (vN V + 1, fU (vB V) (vN V) (-1), fU (vD V) (vN V) (-1), fU (vW V) (vN V) 1, fU (vO V) e (vN V : Int)) l = vW V l := fun l hl => ⟨fU_ne (by omega), fU_ne (by omega), fU_ne (by omega)⟩
  have hb' : vB (vN V + 1, fU (vB V) (vN V) (-1), fU (vD V) (vN V) (-1), fU (vW V) (vN V) 1, fU (vO V) e (vN V : Int)) (vN V) = -1 := fU_eq
  have hd' : vD (vN V + 1, fU (vB V) (vN V) (-1), fU (vD V) (vN V) (-1), fU (vW V) (vN V) 1, fU (vO V) e (vN V : Int)) (vN V) = -1 := fU_eq
  have hw' : vW (vN V + 1, fU (vB V) (vN V) (-1), fU (vD V) (vN V) (-1), fU (vW V) (vN V) 1, fU (vO V) e (vN V : Int)) (vN V) = 1 := fU_eq
  have hn' : vN (vN V + 1, fU (vB V) (vN V) (-1), fU (vD V) (vN V) (-1), fU (vW V) (vN V) 1, fU (vO V) e (vN V : Int)) = vN V + 1 := rfl
  generalize (vN V + 1, fU (vB V) (vN V) (-1), fU (vD V) (vN V) (-1), fU (vW V) (vN V) 1, fU (vO V) e (vN V : Int)) = V' at *
  have hh : hN V' (vN V) = 0 := by unfold hN; rw [hb', hd']; rfl
  have hL := LvX_new p2 hU2 hn' (fun l hl => by
    obtain ⟨o1, o2, o3⟩ := hold l hl
    refine ⟨o1, o2, o3, fun k hk => ?_⟩
    rw [hO']
    by_cases q : k = e
    · rw [q, fU_eq, ho]; omega
    · rw [fU_ne q]) hb' hd' (by rw [hh, hw']) hh (fun k _ => by rw [hO'])
  obtain ⟨u1, u2, u3, u4, u5, u6, u7, u8, u9⟩ := hU2
  refine ⟨p1.tr (u1.mo (fun a k z => SU_117 z)), hL, fun l hl => ?_, ?_, ?_, fun x hx hxx => ?_⟩
  · by_cases c : l = vN V
    · rw [c, u7, show vH E V' (vN V) = false by simp [vH, hb']]; rfl
    · obtain ⟨o1, o2, -⟩ := hold l (by omega)
      rw [u1.1 _ _ (by unfold SU; omega), vH_cg o1 o2]; exact p3 l (by omega)
  · rw [u1.1 _ _ (by unfold SU; omega)]; exact p4
  · rw [u1.1 _ _ (by unfold SU; omega), p5, cnt, if_neg ?_, Int.add_zero]
    · refine cnt_cg e (fun k hk => ?_)
      rw [hO', fU_ne (by omega)]
    · rw [hO', fU_eq]
      simp
  · rw [u9 x hx, hO']
    by_cases q : x = e
    · rw [q, fU_eq, if_pos rfl]
    · rw [fU_ne q, if_neg (hno x)]
      exact p6 x hx (hxx.imp id (fun z => by omega))
end XL2

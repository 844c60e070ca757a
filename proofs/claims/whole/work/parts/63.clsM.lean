/-! the class's lives: a wedding is laid; all is settled -/
section XM
variable {P : GS → Prop} {E : EE}
theorem X_lay (hW : WF E) {V : VV} {e : Nat} {g0 g : GS} (hR0 : RegX E g0) (hB0 : BornX E g0) (hX0 : PrX E g0) (hp : WP E V e g0 g) (hI : VI E V) (hvn : vN V ≤ 18) (hvl : vN (vL E V e) ≤ 18) (hw3 : ∀ l, vW V l ≤ 3) (he : e < eN E) (hk : eK E e = 1) (hlt : ∀ x, x < eN E → e ≤ x → eK E x = 1 → vO V x = -1) (hP : ∀ g', WP E (vL E V e) (e + 1) g0 g' → P g') : MXv mX2_layWedding [vr 117, vi (e : Int), vr 8, vr 65, vi (eB E 2)] g P := by
  have h18 := hW.1
  have ho := hlt e he (Nat.le_refl _) hk
  have hE2 := hW.2.2.2.2.2.2
  have fin : ∀ g1 : GS, Kx S120 g g1 → (∀ l, l < vN V → g1.1 120 l = vVal E V e l) → XXv mX2_layWedding 6 [some (vr 117), some (vi (e : Int)), some (vr 8), some (vr 65), some (vi (eB E 2)), some (vi (vbn E V e (vN V))), some (vi (vN V : Int))] [] g1 P := by
    intro g1 k1 hv
    have hp1 := hp.k120 k1 hvn
    obtain ⟨b1, b2, b3⟩ := vbn_b E V e (vN V)
    refine uX2_layWedding_6 g1 _ _ _ _ ?_
    rw [hp1.2.1.1]
    refine ⟨⟨by omega, by omega⟩, ⟨by omega, by omega⟩, fun _ => ⟨⟨by omega, by omega⟩, fun c => ?_, fun c => ?_⟩, fun z => by omega⟩
    · obtain ⟨b, eb⟩ : ∃ b : Nat, vbn E V e (vN V) = (b : Int) := ⟨(vbn E V e (vN V)).toNat, by omega⟩
      have hg := b3 c
      rw [eb, Int.toNat_natCast] at hg
      have hbn : b < vN V := by omega
      rw [eb]
      refine X_rival hW hI hvn he hbn hg hp1.2.1.1 hv ⟨rng_bi _, fun d => ?_, fun d => ?_⟩
      · have d : vRn E V e b (vN V) = false := by
          cases q : vRn E V e b (vN V)
          · rfl
          · rw [q] at d; exact absurd d (by decide)
        have hvL : vL E V e = (vN V, vB V, vD V, fU (vW V) b (vW V b + 1), fU (vO V) e (b : Int)) := by
          unfold vL
          rw [if_neg c, eb, Int.toNat_natCast, if_neg (by rw [d]; decide)]
        rw [hvL] at hP
        exact X_put hW hR0 hB0 hp1 hI hvn he hk ho hlt hbn (vGn_w _ hg) (fun g' hp' => hP g' hp')
      · have d : vRn E V e b (vN V) = true := by
          cases q : vRn E V e b (vN V)
          · rw [q] at d; exact absurd rfl d
          · rfl
        have hvL : vL E V e = V := by
          unfold vL
          rw [if_neg c, eb, Int.toNat_natCast, if_pos d]
        rw [hvL] at hP
        obtain ⟨p1, p2, p3, p4, p5, p6⟩ := hp1
        simp only [Int.toNat_natCast]
        refine ⟨by omega, by omega, fun g2 e2 g3 e3 => hP g3 ⟨?_, ⟨?_, fun l hl => ?_⟩, fun l hl => ?_, ?_, ?_, fun x hx hxx => ?_⟩⟩
        · rw [e3, e2]; exact (p1.tr (Kx.st (by unfold Sx117; omega))).tr (Kx.st (by unfold Sx117; omega))
        · rw [e3, gI_ne (by omega), e2, gI_ne (by omega)]; exact p2.1
        · exact (p2.2 l hl).kx (fun j _ => by rw [e3, gI_ne (by omega), e2, gI_ne (by omega)]) (fun j => by rw [e3, gI_ne (by omega), e2, gI_ne (by omega)]) rfl rfl rfl (fun k _ => Iff.rfl)
        · rw [e3, gI_ne (by omega), e2, gI_ne (by omega)]; exact p3 l hl
        · rw [e3, gI_ne (by omega), e2, gI_ne (by omega)]; exact p4
        · rw [e3, gI_eq, e2, gI_ne (by omega), p5, cnt, if_pos (by simp [hk, ho])]
        · rw [e3, gI_ne (by omega), e2]
          by_cases q : x = e
          · rw [q, gI_eq, ho]
          · rw [gI_ne (by omega)]; exact p6 x hx (hxx.imp id (fun z => by omega))
    · have hvL : vL E V e = (vN V + 1, fU (vB V) (vN V) (-1), fU (vD V) (vN V) (-1), fU (vW V) (vN V) 1, fU (vO V) e (vN V : Int)) := by
        unfold vL
        rw [if_pos c]
      rw [hvL] at hP hvl
      have hvl : vN V + 1 ≤ 18 := hvl
      exact X_alone hW hR0 hB0 hp1 hI (by omega) he hk ho (fun g' hp' => hP g' hp')
  have loop : ∀ (t x : Nat) (g1 : GS), x + t = vN V → Kx S120 g g1 → (∀ l, l < x → g1.1 120 l = vVal E V e l) → XXv mX2_layWedding 6 [some (vr 117), some (vi (e : Int)), some (vr 8), some (vr 65), some (vi (eB E 2)), some (vi (vbn E V e x)), some (vi (x : Int))] [] g1 P := by
    intro t
    induction t with
    | zero =>
      intro x g1 hx k1 hv
      have hx : x = vN V := by omega
      subst hx
      exact fin g1 k1 hv
    | succ t ih =>
      intro x g1 hx k1 hv
      have hxn : x < vN V := by omega
      have hp1 := hp.k120 k1 hvn
      obtain ⟨b1, b2, b3⟩ := vbn_b E V e x
      have vx := vVal_b hW hI he hxn
      refine uX2_layWedding_6 g1 _ _ _ _ ?_
      rw [hp1.2.1.1]
      simp only [Int.toNat_natCast]
      refine ⟨⟨by omega, by omega⟩, ⟨by omega, by omega⟩, fun z => by omega, fun _ => ⟨by omega, by omega, ?_⟩⟩
      refine X_value hW (hX0.k117 hW hp1.1) hI hxn hvn (hw3 x) (hp1.2.1.2 x hxn) he ho (fun g2 e2 => ?_)
      have k2 : Kx S120 g g2 := k1.tr (by rw [e2]; exact Kx.st rfl)
      have q : g2.1 120 x = vVal E V e x := by rw [e2, gI_eq]
      have hv2 : ∀ l, l < x + 1 → g2.1 120 l = vVal E V e l := fun l hl => by
        by_cases c : l = x
        · rw [c]; exact q
        · rw [e2, gI_ne (by omega)]; exact hv l (by omega)
      have hgo := ih (x + 1) g2 (by omega) k2 hv2
      rw [vbn] at hgo
      rw [q]
      refine ⟨⟨by omega, by omega⟩, fun c => ?_, fun c => ⟨⟨by omega, by omega⟩, fun d => ?_, fun d => ?_⟩⟩
      · rw [if_neg (fun z => (vVal_ne hW he).2 z.1 c)] at hgo
        exact hgo
      · rw [if_pos ⟨(vVal_ne hW he).1 c, Or.inl d⟩] at hgo
        exact hgo
      · have hg := (vVal_ne hW he).1 c
        have ex : vVal E V e x = vA E V e x := by unfold vVal; rw [if_pos hg]
        have hgb := b3 d
        have eb : vVal E V e (vbn E V e x).toNat = vA E V e (vbn E V e x).toNat := by unfold vVal; rw [if_pos hgb]
        have vb := vVal_b hW hI he (show (vbn E V e x).toNat < vN V by omega)
        rw [hv2 _ (by omega)]
        refine ⟨by omega, by omega, ⟨by omega, by omega⟩, fun z => ?_, fun z => ?_⟩
        · rw [if_neg (fun y => by rcases y.2 with y | y <;> omega)] at hgo
          exact hgo
        · rw [if_pos ⟨hg, Or.inr (by omega)⟩] at hgo
          exact hgo
  exact uX2_layWedding g _ _ (loop (vN V) 0 g (by omega) Kx.rf (fun l hl => absurd hl (Nat.not_lt_zero _)))
theorem X_set69 (hW : WF E) {g0 : GS} (hR0 : RegX E g0) (hB0 : BornX E g0) (hX0 : PrX E g0) (hP : ∀ g', WP E (sVz E) (eN E) g0 g' → P g') : ∀ (t n : Nat) (g : GS), n + t = eN E → WP E (sVl E n) n g0 g → XXv mX2_settle 69 [some (vr 117), some (vr 8), some (vr 65), none, some (vi (eB E 2)), some (vi (n : Int))] [] g P := by
  have h18 := hW.1
  intro t
  induction t with
  | zero =>
    intro n g hn hp
    have hn : n = eN E := by omega
    subst hn
    refine uX2_settle_69 g _ _ ?_
    rw [(hR0.k117 hW hp.1).1]
    exact ⟨⟨by omega, by omega⟩, ⟨by omega, by omega⟩, fun _ => hP g hp, fun z => by omega⟩
  | succ t ih =>
    intro n g hn hp
    have hnE : n < eN E := by omega
    have hR := hR0.k117 hW hp.1
    obtain ⟨-, a2, -⟩ := hR.2.2.2.2.1 n hnE
    obtain ⟨w1, -⟩ := hW.2.1 n hnE
    obtain ⟨i1, -, i3, -, i5⟩ := Vl_ok hW n (by omega)
    have hv := Vl_n hW (show n ≤ eN E by omega)
    have hv2 := Vl_n hW (show n + 1 ≤ eN E by omega)
    refine uX2_settle_69 g _ _ ?_
    rw [hR.1]
    simp only [Int.toNat_natCast]
    rw [a2]
    refine ⟨⟨by omega, by omega⟩, ⟨by omega, by omega⟩, fun z => by omega, fun _ => ⟨by omega, by omega, hR.2.1 n (by omega), ⟨by omega, by omega⟩, fun c => ?_, fun c => ?_⟩⟩
    · refine ih (n + 1) g (by omega) ?_
      rw [sVl, if_neg c]
      obtain ⟨p1, p2, p3, p4, p5, p6⟩ := hp
      refine ⟨p1, p2, p3, p4, by rw [p5, cnt, if_neg (by simp [c]), Int.add_zero], fun e he hh => p6 e he ?_⟩
      by_cases q : e = n
      · exact Or.inl (by rw [q]; exact c)
      · exact hh.imp id (fun z => by omega)
    · rw [sVl, if_pos c] at hv2
      refine X_lay hW hR0 hB0 hX0 hp i1 hv hv2 i3 hnE c i5 (fun g' hp' => ?_)
      refine ih (n + 1) g' (by omega) ?_
      rw [sVl, if_pos c]
      exact hp'
/-- the lives stand as they are to be told -/
def DvX (E : EE) (g : GS) : Prop := LvX E (sVz E) g ∧ (∀ l, l < vN (sVz E) → g.1 (121 + 2 * l) 8 = bi (vH E (sVz E) l)) ∧ g.1 117 3 = (vN (sVf E) : Int) ∧ g.1 117 4 = vDb E (sVz E) ∧ (∀ e, e < eN E → g.1 119 e = vO (sVz E) e)
theorem X_lives (hW : WF E) (h7 : W7 E) {g : GS} (hR : RegX E g) (hB : BornX E g) (hX : PrX E g) (hM : MtX E g) (hP : ∀ g', Kx Sx117 g g' → DvX E g' → P g') : MXv mX2_settle [vr 117, vr 8, vr 65, vr 104, vi (eB E 2)] g P := by
  obtain ⟨-, -, -, f4, f5⟩ := Vf_ok hW
  refine uX2_settle g _ (fun g1 e1 g2 e2 => ?_)
  have k2 : Kx Sx117 g g2 := by rw [e2, e1]; exact (Kx.st (by unfold Sx117; omega)).tr (Kx.st (by unfold Sx117; omega))
  refine X_byMatch hW h7 hR hB hM k2 (by rw [e2, gI_ne (by omega), e1, gI_eq]) (by rw [e2, gI_eq]) (fun g3 hp3 => ?_)
  obtain ⟨p1, p2, p3, p4, p5⟩ := hp3
  intro g4 e4
  rw [p2.1] at e4
  refine X_set27 hW h7 hR hX (fun g5 hS => ?_) (vN (sVf E)) 0 g4 (by omega) ⟨?_, ⟨?_, fun l hl => ?_⟩, fun l hl => ?_, ?_, ?_, fun e he hn => ?_⟩
  · obtain ⟨s1, s2, s3, s4, s5, s6⟩ := hS
    refine X_set69 hW hR hB hX (fun g6 hp6 => ?_) (eN E) 0 g5 (by omega) ⟨s1, s2, fun l hl => ?_, s5, s4, fun e he hh => s6 e he ?_⟩
    · obtain ⟨q1, q2, q3, q4, q5, q6⟩ := hp6
      refine hP g6 q1 ⟨q2, q3, q4, ?_, fun e he => q6 e he (Or.inr he)⟩
      rw [q5]
      unfold vDb
      refine cnt_cg (eN E) (fun k hk => ?_)
      by_cases c : eK E k = 1
      · simp [c]
      · obtain ⟨-, -, -, v4, -⟩ := Vl_ok hW (eN E) (Nat.le_refl _)
        have := (v4 k hk c).2
        simp only [decide_eq_false c, Bool.false_and]
        exact (decide_eq_false this).symm
    · have hl : l < vN (sVf E) := hl
      rw [s3 l hl, if_pos hl]; rfl
    · have : eK E e ≠ 1 := hh.resolve_right (Nat.not_lt_zero _)
      exact (f5 e he).2 this
  · rw [e4]; exact p1.tr (Kx.st (by unfold Sx117; omega))
  · rw [e4, gI_ne (by omega)]; exact p2.1
  · exact (p2.2 l hl).kx (fun j _ => by rw [e4, gI_ne (by omega)]) (fun j => by rw [e4, gI_ne (by omega)]) rfl rfl rfl (fun k _ => Iff.rfl)
  · rw [e4, gI_ne (by omega), if_neg (Nat.not_lt_zero _)]; exact p3 l hl
  · rw [e4, gI_ne (by omega)]; exact p4
  · rw [e4, gI_eq]
  · rw [e4, gI_ne (by omega)]; exact p5 e he hn
end XM

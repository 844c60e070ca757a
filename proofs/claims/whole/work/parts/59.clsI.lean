/-! the class's lives: opened by the match -/
def OP (E : EE) (V : VV) (g0 g : GS) : Prop := Kx Sx117 g0 g ∧ LvX E V g ∧ (∀ l, l < vN V → g.1 (121 + 2 * l) 8 = 0) ∧ g.1 117 4 = 0 ∧ (∀ e, e < eN E → vO V e ≠ -1 → g.1 119 e = vO V e)
theorem SU_117 {n a k : Nat} (h : SU n a k) : Sx117 a k := by unfold SU at h; unfold Sx117; omega
section XI
variable {P : GS → Prop} {E : EE} {g0 g : GS}
theorem OP_new {V V' : VV} {g1 : GS} {O : Nat → Int} {b d : Int} {s h : Nat} (hp : OP E V g0 g) (hU : UC E (vN V) g g1 O b d s h) (hN' : vN V' = vN V + 1) (hold : ∀ l, l < vN V → vB V' l = vB V l ∧ vD V' l = vD V l ∧ vW V' l = vW V l) (hb : vB V' (vN V) = b) (hd : vD V' (vN V) = d) (hs : hN V' (vN V) + vW V' (vN V) = s) (hh : hN V' (vN V) = h) (hO : ∀ k, k < eN E → vO V' k = O k) (hO2 : ∀ k, k < eN E → O k ≠ (vN V : Int) → O k = vO V k) (hI : ∀ k, O k = (vN V : Int) → vO V k = -1) : OP E V' g0 g1 := by
  obtain ⟨p1, p2, p3, p4, p5⟩ := hp
  have hL := LvX_new p2 hU hN' (fun l hl => by
    obtain ⟨o1, o2, o3⟩ := hold l hl
    refine ⟨o1, o2, o3, fun k hk => ?_⟩
    rw [hO k hk]
    by_cases c : O k = (vN V : Int)
    · rw [c, hI k c]; omega
    · rw [hO2 k hk c]) hb hd hs hh (fun k hk => by rw [hO k hk])
  obtain ⟨u1, u2, u3, u4, u5, u6, u7, u8, u9⟩ := hU
  refine ⟨p1.tr (u1.mo (fun a k z => SU_117 z)), hL, fun l hl => ?_, ?_, fun e he hn => ?_⟩
  · by_cases c : l = vN V
    · rw [c]; exact u7
    · rw [u1.1 _ _ (by unfold SU; omega)]; exact p3 l (by omega)
  · rw [u1.1 _ _ (by unfold SU; omega)]; exact p4
  · rw [hO e he] at hn ⊢
    rw [u9 e he]
    by_cases c : O e = (vN V : Int)
    · rw [if_pos c, c]
    · rw [if_neg c, hO2 e he c]
      rw [hO2 e he c] at hn
      exact p5 e he hn
theorem hN_open {V : VV} {b d : Int} : hN (vOpen V b d) (vN V) = (if b = -1 then 0 else 1) + (if d = -1 then 0 else 1) := by
  unfold hN
  rw [show vB (vOpen V b d) (vN V) = b from fU_eq, show vD (vOpen V b d) (vN V) = d from fU_eq]
theorem old_open {V : VV} {b d : Int} {l : Nat} (hl : l < vN V) : vB (vOpen V b d) l = vB V l ∧ vD (vOpen V b d) l = vD V l ∧ vW (vOpen V b d) l = vW V l := ⟨fU_ne (by omega), fU_ne (by omega), fU_ne (by omega)⟩
theorem X_ob67 (hW : WF E) (h7 : W7 E) (hR0 : RegX E g0) (hB0 : BornX E g0) (hM0 : MtX E g0) (hP : ∀ g', OP E (sVf E) g0 g' → P g') : ∀ (t n : Nat) (g : GS), n + t = eN E → OP E (sV2 E (cK E 2 n)) g0 g → XXv mX2_openByMatch 67 [some (vr 117), some (vr 8), some (vr 104), some (vi (n : Int)), none, none] [] g P := by
  have h18 := hW.1
  have hB7 : nB E ≤ 7 := h7.1
  have hD7 : nD E ≤ 7 := h7.2.2
  intro t
  induction t with
  | zero =>
    intro n g hn hp
    have hn : n = eN E := by omega
    subst hn
    refine uX2_openByMatch_67 g _ ?_
    rw [(hR0.k117 hW hp.1).1]
    exact ⟨⟨by omega, by omega⟩, ⟨by omega, by omega⟩, fun _ => hP g hp, fun z => by omega⟩
  | succ t ih =>
    intro n g hn hp
    have hR := hR0.k117 hW hp.1
    obtain ⟨-, a2, -⟩ := hR.2.2.2.2.1 n (by omega)
    obtain ⟨w1, -⟩ := hW.2.1 n (by omega)
    have hm : g.1 105 n = sMt E n := by rw [hp.1.1 _ _ (by unfold Sx117; omega)]; exact hM0.1 n (by omega)
    have hmb := sMt_b hW n
    refine uX2_openByMatch_67 g _ ?_
    rw [hR.1]
    simp only [Int.toNat_natCast]
    rw [a2, hm]
    refine ⟨⟨by omega, by omega⟩, ⟨by omega, by omega⟩, fun z => by omega, fun _ => ⟨by omega, by omega, hR.2.1 n (by omega), ⟨by omega, by omega⟩, fun c => ?_, fun c => ⟨⟨by omega, by omega⟩, fun d => ?_, fun d => ?_⟩⟩⟩
    · refine ih (n + 1) g (by omega) ?_
      rw [cK, if_neg c]
      exact hp
    · refine ih (n + 1) g (by omega) ?_
      obtain ⟨q1, q2⟩ := aK_of E 2 (eN E) n (by omega) c
      have q2 : aD E (cK E 2 n) = n := q2
      rw [cK, if_pos c, sV2, q2, if_neg d]
      exact hp
    · obtain ⟨q1, q2⟩ := aK_of E 2 (eN E) n (by omega) c
      have q2 : aD E (cK E 2 n) = n := q2
      have q1 : cK E 2 n < nD E := q1
      obtain ⟨hI, v1, v2, v3, v4⟩ := V2_ok hW (cK E 2 n) (by omega)
      have hf := V2_new hW q1 (by rw [q2]; exact d)
      rw [q2] at hf
      have hno : ∀ k, vO (sV2 E (cK E 2 n)) k ≠ (vN (sV2 E (cK E 2 n)) : Int) := fun k z => by
        rcases hI.1 k with y | ⟨-, l, hl, y⟩ <;> omega
      have hstep : sV2 E (cK E 2 (n + 1)) = vOpen (sV2 E (cK E 2 n)) (-1) (n : Int) := by rw [cK, if_pos c, sV2, q2, if_pos d]
      refine X_open (E := E) hp.2.1.1 (by omega) (fun k _ => hno k) (fun g1 hU1 => ?_)
      have k1 : Kx Sx117 g0 g1 := hp.1.tr (hU1.1.mo (fun a k z => SU_117 z))
      refine X_uadd (hR0.k117 hW k1) (hB0.k117 hR0 hW k1) hW (by omega) hU1 (by omega) (hno n) (by omega) (by omega) (fun _ => rfl) (fun z => by omega) (fun g2 hU2 => ?_)
      refine ih (n + 1) g2 (by omega) ?_
      rw [hstep]
      rw [if_neg (by omega), if_pos c, if_neg (by omega)] at hU2
      have hnn : (n : Int) ≠ -1 := by omega
      refine OP_new (V' := vOpen (sV2 E (cK E 2 n)) (-1) (n : Int)) hp hU2 rfl (fun l hl => old_open hl) fU_eq fU_eq ?_ ?_ (fun k hk => ?_) (fun k hk hk2 => ?_) (fun k hk => ?_)
      · rw [hN_open, if_pos rfl, if_neg hnn, show vW (vOpen (sV2 E (cK E 2 n)) (-1) (n : Int)) (vN (sV2 E (cK E 2 n))) = 0 from fU_eq]
      · rw [hN_open, if_pos rfl, if_neg hnn]
      · show (if (k : Int) = (n : Int) then (vN (sV2 E (cK E 2 n)) : Int) else if (k : Int) = -1 then _ else vO (sV2 E (cK E 2 n)) k) = fU _ n _ k
        by_cases e : k = n
        · rw [if_pos (by omega), e, fU_eq]
        · rw [if_neg (by omega), if_neg (by omega), fU_ne e]
      · by_cases e : k = n
        · rw [e, fU_eq] at hk2; exact absurd rfl hk2
        · rw [fU_ne e]
      · by_cases e : k = n
        · rw [e]; exact hf
        · rw [fU_ne e] at hk; exact absurd hk (hno k)
theorem X_ob2 (hW : WF E) (h7 : W7 E) (hR0 : RegX E g0) (hB0 : BornX E g0) (hM0 : MtX E g0) (hP : ∀ g', OP E (sVf E) g0 g' → P g') : ∀ (t n : Nat) (g : GS), n + t = eN E → OP E (sV1 E (cK E 0 n)) g0 g → XXv mX2_openByMatch 2 [some (vr 117), some (vr 8), some (vr 104), some (vi (n : Int)), none, none] [] g P := by
  have h18 := hW.1
  have hB7 : nB E ≤ 7 := h7.1
  have hD7 : nD E ≤ 7 := h7.2.2
  intro t
  induction t with
  | zero =>
    intro n g hn hp
    have hn : n = eN E := by omega
    subst hn
    refine uX2_openByMatch_2 g _ ?_
    rw [(hR0.k117 hW hp.1).1]
    exact ⟨⟨by omega, by omega⟩, ⟨by omega, by omega⟩, fun _ => X_ob67 hW h7 hR0 hB0 hM0 hP (eN E) 0 g (by omega) hp, fun z => by omega⟩
  | succ t ih =>
    intro n g hn hp
    have hR := hR0.k117 hW hp.1
    obtain ⟨-, a2, -⟩ := hR.2.2.2.2.1 n (by omega)
    obtain ⟨w1, -⟩ := hW.2.1 n (by omega)
    have hmb := sMt_b hW n
    refine uX2_openByMatch_2 g _ ?_
    rw [hR.1]
    simp only [Int.toNat_natCast]
    rw [a2]
    refine ⟨⟨by omega, by omega⟩, ⟨by omega, by omega⟩, fun z => by omega, fun _ => ⟨by omega, by omega, hR.2.1 n (by omega), ⟨by omega, by omega⟩, fun c => ?_, fun c => ?_⟩⟩
    · refine ih (n + 1) g (by omega) ?_
      rw [cK, if_neg c]
      exact hp
    · obtain ⟨q1, q2⟩ := aK_of E 0 (eN E) n (by omega) c
      have q2 : aB E (cK E 0 n) = n := q2
      have q1 : cK E 0 n < nB E := q1
      obtain ⟨hI, v1, v2, v3⟩ := V1_ok hW (cK E 0 n) (by omega)
      obtain ⟨hf, hfd⟩ := V1_new hW q1
      rw [q2] at hf hfd
      have hno : ∀ k, vO (sV1 E (cK E 0 n)) k ≠ (vN (sV1 E (cK E 0 n)) : Int) := fun k z => by
        rcases hI.1 k with y | ⟨-, l, hl, y⟩ <;> omega
      have hstep : sV1 E (cK E 0 (n + 1)) = vOpen (sV1 E (cK E 0 n)) (n : Int) (sMt E n) := by rw [cK, if_pos c, sV1, q2]
      generalize hV : sV1 E (cK E 0 n) = V at *
      have hnn : (n : Int) ≠ -1 := by omega
      refine X_open (E := E) hp.2.1.1 (by omega) (fun k _ => hno k) (fun g1 hU1 => ?_)
      have k1 : Kx Sx117 g0 g1 := hp.1.tr (hU1.1.mo (fun a k z => SU_117 z))
      refine X_uadd (hR0.k117 hW k1) (hB0.k117 hR0 hW k1) hW (by omega) hU1 (by omega) (hno n) (by omega) (by omega) (fun _ => rfl) (fun z => by omega) (fun g2 hU2 => ?_)
      have k2 : Kx Sx117 g0 g2 := hp.1.tr (hU2.1.mo (fun a k z => SU_117 z))
      have hm : g2.1 105 n = sMt E n := by rw [k2.1 _ _ (by unfold Sx117; omega)]; exact hM0.1 n (by omega)
      rw [if_pos c, if_neg (by omega), if_neg (by omega)] at hU2
      rw [hm]
      refine ⟨⟨by omega, by omega⟩, fun d => ?_, fun d => ?_⟩
      · refine ih (n + 1) g2 (by omega) ?_
        rw [hstep, d]
        refine OP_new (V' := vOpen V (n : Int) (-1)) hp hU2 rfl (fun l hl => old_open hl) fU_eq fU_eq ?_ ?_ (fun k hk => ?_) (fun k hk hk2 => ?_) (fun k hk => ?_)
        · rw [hN_open, if_neg hnn, if_pos rfl, show vW (vOpen V (n : Int) (-1)) (vN V) = 0 from fU_eq]
        · rw [hN_open, if_neg hnn, if_pos rfl]
        · show (if (k : Int) = -1 then (vN V : Int) else if (k : Int) = (n : Int) then (vN V : Int) else vO V k) = fU _ n _ k
          rw [if_neg (by omega)]
          by_cases e : k = n
          · rw [if_pos (by omega), e, fU_eq]
          · rw [if_neg (by omega), fU_ne e]
        · by_cases e : k = n
          · rw [e, fU_eq] at hk2; exact absurd rfl hk2
          · rw [fU_ne e]
        · by_cases e : k = n
          · rw [e]; exact hf
          · rw [fU_ne e] at hk; exact absurd hk (hno k)
      · obtain ⟨m, em⟩ : ∃ m : Nat, sMt E n = (m : Int) := ⟨(sMt E n).toNat, by omega⟩
        obtain ⟨f1, f2, f3⟩ := hfd m em
        have hmn : m ≠ n := fun z => by rw [z] at f3; omega
        rw [em] at hstep ⊢
        refine X_uadd (hR0.k117 hW k2) (hB0.k117 hR0 hW k2) hW (by omega) hU2 f2 (by rw [fU_ne hmn]; exact hno m) (by omega) (by omega) (fun _ => rfl) (fun z => by omega) (fun g3 hU3 => ?_)
        rw [if_neg (by omega), if_pos f3, if_neg (by omega)] at hU3
        refine ih (n + 1) g3 (by omega) ?_
        rw [hstep]
        refine OP_new (V' := vOpen V (n : Int) (m : Int)) hp hU3 rfl (fun l hl => old_open hl) fU_eq fU_eq ?_ ?_ (fun k hk => ?_) (fun k hk hk2 => ?_) (fun k hk => ?_)
        · rw [hN_open, if_neg hnn, if_neg (by omega), show vW (vOpen V (n : Int) (m : Int)) (vN V) = 0 from fU_eq]
        · rw [hN_open, if_neg hnn, if_neg (by omega)]
        · show (if (k : Int) = (m : Int) then (vN V : Int) else if (k : Int) = (n : Int) then (vN V : Int) else vO V k) = fU _ m _ k
          by_cases e : k = m
          · rw [if_pos (by omega), e, fU_eq]
          · rw [if_neg (by omega), fU_ne e]
            by_cases e2 : k = n
            · rw [if_pos (by omega), e2, fU_eq]
            · rw [if_neg (by omega), fU_ne e2]
        · by_cases e : k = m
          · rw [e, fU_eq] at hk2; exact absurd rfl hk2
          · rw [fU_ne e] at hk2 ⊢
            by_cases e2 : k = n
            · rw [e2, fU_eq] at hk2; exact absurd rfl hk2
            · rw [fU_ne e2]
        · by_cases e : k = m
          · rw [e]; exact f1
          · rw [fU_ne e] at hk
            by_cases e2 : k = n
            · rw [e2]; exact hf
            · rw [fU_ne e2] at hk; exact absurd hk (hno k)
theorem X_byMatch (hW : WF E) (h7 : W7 E) {g : GS} (hR0 : RegX E g0) (hB0 : BornX E g0) (hM0 : MtX E g0) (hk : Kx Sx117 g0 g) (h2 : g.1 117 2 = 0) (h4 : g.1 117 4 = 0) (hP : ∀ g', OP E (sVf E) g0 g' → P g') : MXv mX2_openByMatch [vr 117, vr 8, vr 104] g P := by
  refine uX2_openByMatch g (X_ob2 hW h7 hR0 hB0 hM0 hP (eN E) 0 g (by omega) ⟨hk, ⟨h2, fun l hl => absurd hl (Nat.not_lt_zero _)⟩, fun l hl => absurd hl (Nat.not_lt_zero _), h4, fun e he hn => absurd rfl hn⟩)
end XI

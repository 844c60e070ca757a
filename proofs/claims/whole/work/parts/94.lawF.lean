/-! THE LAW: what holds outside the worlds, out of the tables and the start -/
theorem cls_in : ∀ (t : Nat) (q : vw_C), vwCl[t]? = some q → Cond.instantiable q.1 q.2.2 ∈ WS := by
  intro t q hq
  match t, hq with
  | 0, hq => cases hq; exact wt1 110 rfl rfl
  | 1, hq => cases hq; exact wt2 15 rfl rfl
  | 2, hq => cases hq; exact wt2 8 rfl rfl
  | 3, hq => cases hq; exact wt1 212 rfl rfl
  | 4, hq => cases hq; exact wt1 90 rfl rfl
  | 5, hq => cases hq; exact wt1 27 rfl rfl
  | 6, hq => cases hq; exact wt1 190 rfl rfl
  | 7, hq => cases hq; exact wt1 45 rfl rfl
  | 8, hq => cases hq; exact wt1 103 rfl rfl
  | 9, hq => cases hq; exact wt1 19 rfl rfl
  | 10, hq => cases hq; exact wt4 86 rfl rfl
  | t + 11, hq => simp [vwCl] at hq
theorem lt_at {w : Cond} (i : Nat) (h : lw_tbl[i]? = some w) : w ∈ lw_tbl := List.mem_of_getElem? h
theorem ao_K {C : String} {s : State} (h : va_AO C s) : ∃ cA, ArrOfT s cA (.object C) ∧ va_RA s cA (.object C) := by
  obtain ⟨comp, c, k, h1, h2, h3, h4, h5⟩ := Cond.arrayOver_spec h
  exact ⟨c, fun N z => ⟨(fun k h => by cases h), k, h3, comp, h4⟩, k, comp, h3, h4, h1, h5⟩
theorem aoa_K {s : State} (h : aoa s) : ∃ cA, ArrOfT s cA (.array .int) ∧ va_RA s cA (.array .int) := by
  obtain ⟨comp, c, k, h1, h2, h3, h4, h5⟩ := arrayOverA_spec h
  exact ⟨c, fun N z => ⟨(fun k h => by cases h), k, h3, comp, h4⟩, h5⟩
theorem int_K {args : Array Value} {s : State} (h : (Cond.arrayClass .int).before args s = true) : ∃ cA, ArrOfT s cA .int ∧ va_RA s cA .int := by
  obtain ⟨c, k, comp, h1, h2, h3⟩ := Cond.arrayClass_spec h
  exact ⟨c, fun N z => ⟨(fun k h => by cases h), k, h2, comp, h3⟩, h1⟩
theorem lw_known {args : Array Value} {s : State} (hts : ∀ w ∈ WS, w.before args s = true) (h0 : va_AO RX0 s) (h1 : va_AO RX1 s) (h2 : aoa s) : ∃ D cy, va_K D vwCl (px_tys cy) s := by
  have hc : ∀ c : Nat, ∃ r : ClassId × (Nat → Nat), ∀ q : vw_C, vwCl[c]? = some q → u_Kn s q.1 q.2.1 q.2.2 r.1 r.2 := by
    intro c
    cases hq : vwCl[c]? with
    | none => exact ⟨(0, fun _ => 0), fun q h => by cases h⟩
    | some q =>
      obtain ⟨cC, iS, h⟩ := u_known (C := q.1) (T := q.2.1) (N := q.2.2) (n := q.2.2) hts (cls_ok c q hq).1 (hts _ (cls_in c q hq))
      exact ⟨(cC, iS), fun q' h' => by cases h'; exact h⟩
  obtain ⟨f, hf⟩ := Classical.axiomOfChoice hc
  obtain ⟨a0, b0, d0⟩ := int_K (hts _ (wt1 43 rfl rfl))
  obtain ⟨a1, b1, d1⟩ := ao_K h0
  obtain ⟨a2, b2, d2⟩ := ao_K h1
  obtain ⟨a3, b3, d3⟩ := aoa_K h2
  refine ⟨(fun c => (f c).1, fun c => (f c).2), fun k => if k = 0 then a0 else if k = 1 then a1 else if k = 2 then a2 else a3, fun c q hq => hf c q hq, fun k q hq => ?_⟩
  match k, hq with
  | 0, hq => cases hq; exact ⟨b0, d0⟩
  | 1, hq => cases hq; exact ⟨b1, d1⟩
  | 2, hq => cases hq; exact ⟨b2, d2⟩
  | 3, hq => cases hq; exact ⟨b3, d3⟩
  | k + 4, hq => simp [px_tys] at hq
abbrev tmS : Term := .string "LifeLinks$Names" 40
abbrev gvC : Cond := Jvm.Cond.and given_1 narrow_1
theorem gv_1 : Cond.exactly tmS "java/lang/String" ∈ flatC gvC := by decide +kernel
theorem gv_2 : Cond.eq (.field tmS "java/lang/String" "coder" "B") (.int 0) ∈ flatC gvC := by decide +kernel
theorem gv_3 : Cond.arrayOf (.field tmS "java/lang/String" "value" "[B") .byte ∈ flatC gvC := by decide +kernel
theorem gv_4 : Cond.eq (.length (.field tmS "java/lang/String" "value" "[B")) (.int 26) ∈ flatC gvC := by decide +kernel
theorem gv_5 : ∀ j : Nat, j < 26 → Cond.eq (.elem (.field tmS "java/lang/String" "value" "[B") (.int (Int32.ofNat j))) (.int (by40.getD j 0)) ∈ flatC gvC := by decide +kernel
theorem gv_6 : Cond.eq (.static "java/lang/String" "COMPACT_STRINGS" "Z") (.int 1) ∈ flatC gvC := by decide +kernel
theorem gv_7 : Cond.isRef (.static "jdk/internal/util/Preconditions" "SIOOBE_FORMATTER" "Ljava/util/function/BiFunction;") ∈ flatC gvC := by decide +kernel
theorem lw_GX {args : Array Value} {s : State} (hts : ∀ w ∈ lw_tbl, w.before args s = true) (hgv : gvC.before args s = true) : GX (LA s) s s.heap := by
  have hs := flat_of_before gvC hgv
  have hA : ∀ a : Nat, a < s.heap.size → ¬ LA s a := fun a h z => by unfold LA at z; omega
  refine ⟨?_, ?_, ?_, ?_, ?_, ?_, ?_⟩
  · obtain ⟨adK, adV, h1, h2⟩ := vk_Sof (args := args) (s := s) (N := 1) (tm := fun _ => tmS) (len := [26]) (byt := [by40]) (A := LA s)
      (fun i hi => by obtain rfl : i = 0 := by omega
                      decide)
      (fun i hi => hs _ gv_1) (fun i hi => hs _ gv_2) (fun i hi => hs _ gv_3)
      (fun i hi => by obtain rfl : i = 0 := by omega
                      exact hs _ gv_4)
      (fun i hi j hj => by obtain rfl : i = 0 := by omega
                           exact hs _ (gv_5 j hj))
      (fun i j hi hj hn => absurd (by omega) hn) hA
    refine ⟨adK 0, adV 0, vk_R.of (hts _ (lt_at 546 (by decide +kernel))) ?_, fun i hi => ?_, fun i j hi hj _ => by omega⟩
    · exact h2 0 (by omega)
    · obtain rfl : i = 0 := by omega
      exact h1.1 0 hi
  · exact va_Zof (hts _ (lt_at 556 (by decide +kernel))) (hts _ (lt_at 96 (by decide +kernel))) (va_eqi (hs _ gv_6)) hA
  · exact va_Zqof (hts _ (lt_at 572 (by decide +kernel))) (hts _ (lt_at 98 (by decide +kernel))) (hs _ gv_7) hA
  · exact va_AO.of (hts _ (lt_at 193 (by decide +kernel)))
  · exact va_AO.of (hts _ (lt_at 338 (by decide +kernel)))
  · exact (show (Cond.arrayOver (.array .int)).before args s = true from hts _ (lt_at 280 (by decide +kernel)))
  · intro w hw
    have h : Cond.methodLinkNest w.1 w.2.1 w.2.2 RX9 ∈ lw_tbl := by
      revert w
      exact List.forall_mem_cons.mpr ⟨lt_at 112 (by decide +kernel), List.forall_mem_cons.mpr ⟨lt_at 130 (by decide +kernel), List.forall_mem_cons.mpr ⟨lt_at 175 (by decide +kernel), List.forall_mem_cons.mpr ⟨lt_at 275 (by decide +kernel), List.forall_mem_cons.mpr ⟨lt_at 297 (by decide +kernel), List.forall_mem_cons.mpr ⟨lt_at 340 (by decide +kernel), List.forall_mem_cons.mpr ⟨lt_at 500 (by decide +kernel), List.forall_mem_cons.mpr ⟨lt_at 510 (by decide +kernel), fun _ h => absurd h List.not_mem_nil⟩⟩⟩⟩⟩⟩⟩⟩
    exact va_Nw.of rfl (hts _ h)
theorem lw_LC {p : Program} {s : State} {m : MethodId} {meth : Method} {c : Code} {b L : Nat} {xs : Nat → Int32} (C0 : lw_At p s m meth c b L xs) : ∃ D cy, LC p s m meth c b L xs D cy := by
  obtain ⟨-, -, -, -, -, hts, -, -, -, hgv⟩ := id C0
  have hG := lw_GX hts hgv
  obtain ⟨-, -, -, h0, h1, h2, -⟩ := id hG
  obtain ⟨D, cy, hK⟩ := lw_known (fun w hw => hts w (WS_tbl hw)) h0 h1 h2
  exact ⟨D, cy, C0, hK, hG⟩

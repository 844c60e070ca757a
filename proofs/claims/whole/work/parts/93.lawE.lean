/-! THE LAW: its loop -/
theorem d_law_18 : decode code 18 = .ok (.iload_n 3, 1) := by decide +kernel
theorem d_law_19 : decode code 19 = .ok (.aload_n 0, 1) := by decide +kernel
theorem d_law_20 : decode code 20 = .ok (.arraylength, 1) := by decide +kernel
theorem d_law_21 : decode code 21 = .ok (.iconst 4, 1) := by decide +kernel
theorem d_law_22 : decode code 22 = .ok (.isub, 1) := by decide +kernel
theorem d_law_23 : decode code 23 = .ok (.if_icmp .gt 669, 3) := by decide +kernel
theorem d_law_26 : decode code 26 = .ok (.aload_n 0, 1) := by decide +kernel
theorem d_law_27 : decode code 27 = .ok (.iload_n 3, 1) := by decide +kernel
theorem d_law_28 : decode code 28 = .ok (.iaload, 1) := by decide +kernel
theorem d_law_29 : decode code 29 = .ok (.bipush 31, 2) := by decide +kernel
theorem d_law_31 : decode code 31 = .ok (.iand, 1) := by decide +kernel
theorem d_law_686 : decode code 686 = .ok (.iinc 3 4, 3) := by decide +kernel
theorem d_law_689 : decode code 689 = .ok (.goto (-671), 3) := by decide +kernel
theorem d_law_692 : decode code 692 = .ok (.iconst 1, 1) := by decide +kernel
theorem d_law_693 : decode code 693 = .ok (.ireturn, 1) := by decide +kernel
theorem len4 {L i : Nat} (hL : L ≤ 2048) (hi : i ≤ 2048) (h : ¬ nI L - 4 < nI i) : i + 4 ≤ L := by
  refine Decidable.byContradiction (fun z => h ?_)
  have e : nI L - 4 = Int32.ofInt ((L : Int) - 4) := by
    rw [Int32.ofInt_sub]
    rfl
  rw [e, Int32.lt_iff_toInt_lt, rng_to ⟨by omega, by omega⟩, nI_toInt (by omega)]
  omega
section LAW
variable {p : Program} {l : Launch} {e : Env} {s : State} {m : MethodId} {below : List Frame} {meth : Method} {c : Code} {b L : Nat} {xs : Nat → Int32} {D : va_G} {cy : Nat → ClassId}
theorem lw_head {cells slots : Nat} {H : Heap} {locs : List Loc} {ls : Array Slot} {g : GS} {mm : MS} {i : Nat} (C : LC p s m meth c b L xs D cy) (S : L2 D cy s H locs g mm) (hl : lv_has ls 4 (lwL s b i)) (hL : L ≤ 2048) (hi : i ≤ L) (hcs : cells ≤ 600000 ∧ slots ≤ 7302250)
    (k : i + 4 ≤ L → W p l e room_1 s m #[Value.ref b] below meth c H locs cells slots (lw_Z below #[Value.ref b] s) (F0 m 32 ls [.int (xs i &&& 31)])) :
    W p l e room_1 s m #[Value.ref b] below meth c H locs cells slots (lw_Z below #[Value.ref b] s) (F0 m 18 ls []) := by
  obtain ⟨hx, hb, hr, -, -, -, hX, hbl, hlocks, -⟩ := C.1
  have hbA : ¬ LA s b := fun z => by unfold LA at z; omega
  refine lv_iload_n hx hb d_law_18 rfl (lv_at hl 3 rfl) ?_
  refine lv_aload_n hx hb d_law_19 rfl (lv_at hl 0 rfl) ?_
  refine va_slen hx hb hX hbl hbA S.2.2.1 d_law_20 ?_
  refine lv_iconst (v := 4) hx hb d_law_21 (by decide) ?_
  refine lv_isub hx hb d_law_22 ?_
  refine lv_icmp_gt (tgt := 692) hx hb d_law_23 (by decide) (fun _ => ?_) (fun z => ?_)
  · refine lv_iconst (v := 1) hx hb d_law_692 (by decide) ?_
    refine va_forget (fun q hq => S.2.2.1.2.2 q hq) ?_
    refine W.widen (k := 600000) (n := 7302250) hcs.1 hcs.2 ?_
    exact lw_ret hx hb hr hlocks d_law_693
  · have h4 : i + 4 ≤ L := len4 hL (by omega) z
    refine lv_aload_n hx hb d_law_26 rfl (lv_at hl 0 rfl) ?_
    refine lv_iload_n hx hb d_law_27 rfl (lv_at hl 3 rfl) ?_
    refine va_sld hx hb hX hbl hbA S.2.2.1 (vp_in_nI (n := i) (by omega) (by omega)) d_law_28 ?_
    rw [nI_clamp (by omega)]
    refine lv_bipush (v := 31) hx hb d_law_29 (by decide) ?_
    exact lv_iand hx hb d_law_31 (k h4)
theorem lw_loop {cells slots : Nat} (C : LC p s m meth c b L xs D cy) (hL : L ≤ 2048) (hcs : cells ≤ 600000 ∧ slots ≤ 7302250) : ∀ (n j : Nat), 513 ≤ j + n → 4 * j ≤ L → ∀ (A : AA) (g : GS) (mm : MS) (H : Heap) (locs : List Loc) (ls : Array Slot), WFA A → PB A j → RepX A g → RepA A mm → L2 D cy s H locs g mm → lv_has ls 4 (lwL s b (4 * j)) → W p l e room_1 s m #[Value.ref b] below meth c H locs cells slots (lw_Z below #[Value.ref b] s) (F0 m 18 ls []) := by
  intro n
  induction n with
  | zero =>
    intro j h1 h2
    omega
  | succ n ih =>
    intro j h1 h2 A g mm H locs ls hW hB hX hM S hl
    refine lw_head C S hl hL h2 hcs (fun h4 => ?_)
    refine lw_switch (i := 4 * j) (j := j) C S hl h4 hL hcs hW hB (by omega) hX hM (fun A' g' m' H1 locs1 hW' hB' hX' hM' S' => ?_)
    obtain ⟨hex, hb, -⟩ := id C.1
    refine lv_iinc (k := 3) (v := nI (4 * (j + 1))) (lv' := [(3, .int (nI (4 * (j + 1)))), (0, .ref b), (1, .ref s.heap.size), (2, .ref (s.heap.size + 157))]) hex hb d_law_686 hl rfl (by rw [show 4 * (j + 1) = 4 * j + 4 by omega, ← nI_add]; rfl) (by decide) rfl (fun ls' hl' => ?_)
    refine lv_goto (tgt := 18) hex hb d_law_689 (by decide) ?_
    exact ih (j + 1) (by omega) (by omega) A' g' m' H1 locs1 ls' hW' hB' hX' hM' S' (lv_sub hl' [1, 2, 3, 0] rfl)
end LAW

/-! THE LAW: a question to the class, the same to the reference -/
theorem tX_len : TX.length = 157 := by decide +kernel
theorem tM_len : TM.length = 23 := by decide +kernel
section LAW
variable {p : Program} {l : Launch} {e : Env} {s : State} {m : MethodId} {below : List Frame} {meth : Method} {c : Code} {b L : Nat} {xs : Nat → Int32} {D : va_G} {cy : Nat → ClassId} {H : Heap} {locs : List Loc} {cells slots : Nat} {QQ : State → Prop} {pc : Nat} {ls : Array Slot} {g : GS} {mm : MS}
theorem adjX : ADJ (LA s) (adX s) TX.length := ⟨fun i j _ _ e => by unfold adX at e; omega, fun i _ => by unfold LA adX; omega⟩
theorem adjM : ADJ (LA s) (adM s) TM.length := ⟨fun i j _ _ e => by unfold adM at e; omega, fun i _ => by unfold LA adM; omega⟩
theorem L2.stepX {g' : GS} {H1 : Heap} {locs1 : List Loc} (S : L2 D cy s H locs g mm) (hS : SIM D cy (adX s) (hX g') H1) (hz : H1.size = H.size) (hq : ∀ q, q < H.size → ¬ px_A (adX s) TX.length H.size q → H1[q]? = H[q]?) (hV : va_S (LA s) s.heap H1 locs1) : L2 D cy s H1 locs1 g' mm := by
  obtain ⟨-, s2, -, s4⟩ := S
  refine ⟨hS, SIM.keep s2 (fun i hi => hq _ (px_lt s2 hi) (fun z => ?_)), hV, by rw [hz]; exact s4⟩
  have hi : i < TM.length := hi
  rw [tM_len] at hi
  rcases z with ⟨j, hj, e⟩ | z
  · rw [tX_len] at hj
    unfold adX adM at e
    omega
  · unfold adM at z
    omega
theorem L2.stepM {mm' : MS} {H1 : Heap} {locs1 : List Loc} (S : L2 D cy s H locs g mm) (hS : SIM D cy (adM s) (hM mm') H1) (hz : H1.size = H.size) (hq : ∀ q, q < H.size → ¬ px_A (adM s) TM.length H.size q → H1[q]? = H[q]?) (hV : va_S (LA s) s.heap H1 locs1) : L2 D cy s H1 locs1 g mm' := by
  obtain ⟨s1, -, -, s4⟩ := S
  refine ⟨SIM.keep s1 (fun i hi => hq _ (px_lt s1 hi) (fun z => ?_)), hS, hV, by rw [hz]; exact s4⟩
  have hi : i < TX.length := hi
  rw [tX_len] at hi
  rcases z with ⟨j, hj, e⟩ | z
  · rw [tM_len] at hj
    unfold adX adM at e
    omega
  · unfold adX at z
    omega
def CWX (idx : Nat) (N : MD) (n : Nat) : Prop := Cond.methodLink RL idx N.1 ∈ WS ∧ NV N n ∧ Cond.instanceMethod N.1 ∈ WS ∧ Cond.selects N.1.cls N.1 N.1 ∈ WS ∧ (N.2.2.2.2.1 + 1 ≤ 17 ∧ 8 + (N.2.2.1 + 11) + N.2.2.2.2.2 ≤ 664)
theorem lw_cX {N : MD} {idx n : Nat} {Qc : Option PV → PH → Prop} {stk st : List Value} (av : List PV) (C : LC p s m meth c b L xs D cy) (S : L2 D cy s H locs g mm) (hl : ls.size = 4)
    (hd : decode code pc = .ok (.invokevirtual idx, 3)) (hc : CWX idx N n) (hcl : RX9 = N.1.cls) (hn : av.length = n) (hk : stk = (av.map (px_tr (adX s))).reverse ++ .ref s.heap.size :: st) (hw : (st.map fun v => v.category).sum ≤ 8) (hcs : cells ≤ 600000 ∧ slots ≤ 7302250)
    (hQ : MET N (vr 0 :: av) (hX g) (0, 0) Qc)
    (k : ∀ v h1 H1 locs1, Qc v h1 → (∀ g', h1 = hX g' → L2 D cy s H1 locs1 g' mm) → W p l e room_1 s m #[Value.ref b] below meth c H1 locs1 cells slots QQ (F0 m (pc + 3) ls ((v.map (px_tr (adX s))).toList ++ st))) :
    W p l e room_1 s m #[Value.ref b] below meth c H locs cells slots QQ (F0 m pc ls stk) :=
  lw_callV (c0 := 9) (b0 := 0) av C S.2.2.1 S.1 adjX hl hd hc.1 hc.2.1 hc.2.2.1 hc.2.2.2.1 rfl hcl ⟨12, rfl⟩ hn hk hc.2.2.2.2.1 hc.2.2.2.2.2 hw hcs hQ (fun v h1 H1 locs1 hq h2 h3 h4 h5 => k v h1 H1 locs1 hq (fun g' e' => by subst e'; exact S.stepX h2 h3 h4 h5))
theorem lw_cM {N : MD} {idx n : Nat} {Qc : Option PV → PH → Prop} {stk st : List Value} (av : List PV) (C : LC p s m meth c b L xs D cy) (S : L2 D cy s H locs g mm) (hl : ls.size = 4)
    (hd : decode code pc = .ok (.invokevirtual idx, 3)) (hc : CWX idx N n) (hcl : RX10 = N.1.cls) (hn : av.length = n) (hk : stk = (av.map (px_tr (adM s))).reverse ++ .ref (s.heap.size + 157) :: st) (hw : (st.map fun v => v.category).sum ≤ 8) (hcs : cells ≤ 600000 ∧ slots ≤ 7302250)
    (hQ : MET N (vr 0 :: av) (hM mm) (0, 0) Qc)
    (k : ∀ v h1 H1 locs1, Qc v h1 → (∀ m', h1 = hM m' → L2 D cy s H1 locs1 g m') → W p l e room_1 s m #[Value.ref b] below meth c H1 locs1 cells slots QQ (F0 m (pc + 3) ls ((v.map (px_tr (adM s))).toList ++ st))) :
    W p l e room_1 s m #[Value.ref b] below meth c H locs cells slots QQ (F0 m pc ls stk) :=
  lw_callV (c0 := 10) (b0 := 0) av C S.2.2.1 S.2.1 adjM hl hd hc.1 hc.2.1 hc.2.2.1 hc.2.2.2.1 rfl hcl ⟨34, rfl⟩ hn hk hc.2.2.2.2.1 hc.2.2.2.2.2 hw hcs hQ (fun v h1 H1 locs1 hq h2 h3 h4 h5 => k v h1 H1 locs1 hq (fun g' e' => by subst e'; exact S.stepM h2 h3 h4 h5))
abbrev lwL (s : State) (b i : Nat) : List (Nat × Value) := [(0, .ref b), (1, .ref s.heap.size), (2, .ref (s.heap.size + 157)), (3, .int (nI i))]
abbrev aI (xs : Nat → Int32) (k : Nat) : Int := (xs k).toInt
abbrev dA (pc : Nat) (k : Int) : Prop := decode code pc = .ok (.aload_n 0, 1) ∧ decode code (pc + 1) = .ok (.iload_n 3, 1) ∧ decode code (pc + 2) = .ok (.iconst k, 1) ∧ decode code (pc + 3) = .ok (.iadd, 1) ∧ decode code (pc + 4) = .ok (.iaload, 1)
theorem l_arg {i : Nat} {st : List Value} (k : Nat) (C : LC p s m meth c b L xs D cy) (hV : va_S (LA s) s.heap H locs) (hl : lv_has ls 4 (lwL s b i)) (hk : i + k < L) (hL : L ≤ 2048) (hd : dA pc (k : Int))
    (kk : W p l e room_1 s m #[Value.ref b] below meth c H locs cells slots QQ (F0 m (pc + 5) ls (.int (Int32.ofInt (aI xs (i + k))) :: st))) : W p l e room_1 s m #[Value.ref b] below meth c H locs cells slots QQ (F0 m pc ls st) := by
  obtain ⟨d0, d1, d2, d3, d4⟩ := hd
  obtain ⟨⟨hx, hb, -, -, -, -, hX, hbl, -⟩, -⟩ := C
  refine lv_aload_n hx hb d0 rfl (lv_at hl 0 rfl) ?_
  refine lv_iload_n hx hb d1 rfl (lv_at hl 3 rfl) ?_
  refine lv_iconst (v := nI k) hx hb d2 (by unfold nI; rfl) ?_
  refine lv_iadd hx hb d3 ?_
  rw [nI_add]
  refine va_sld hx hb hX hbl (A := LA s) (fun z => by unfold LA at z; omega) hV (vp_in_nI hk (by omega)) d4 ?_
  rw [nI_clamp (by omega)]
  rw [Int32.ofInt_toInt] at kk
  exact kk
end LAW

/-! THE LAW: one call of both worlds, by the number of its arguments -/
section LAW
variable {p : Program} {l : Launch} {e : Env} {s : State} {m : MethodId} {below : List Frame} {meth : Method} {c : Code} {b L : Nat} {xs : Nat → Int32} {D : va_G} {cy : Nat → ClassId} {H : Heap} {locs : List Loc} {cells slots : Nat} {QQ : State → Prop} {pc : Nat} {ls : Array Slot} {g : GS} {mm : MS} {A' : AA} {i : Nat} {N N' : MD} {idx idx' : Nat} {off : Int} {tgt : Nat}
abbrev dlw_case0 (pc idx idx' : Nat) (off : Int) : Prop := decode code pc = .ok (.aload_n 1, 1) ∧ decode code (pc + 1) = .ok (.invokevirtual idx, 3) ∧ decode code (pc + 4) = .ok (.aload_n 2, 1) ∧ decode code (pc + 5) = .ok (.invokevirtual idx', 3) ∧ decode code (pc + 8) = .ok (.if_icmp .eq off, 3)
theorem lw_case0 {z : Int} (C : LC p s m meth c b L xs D cy) (S : L2 D cy s H locs g mm) (hl : lv_has ls 4 (lwL s b i)) (hk : i + 4 ≤ L) (hL : L ≤ 2048) (hd : dlw_case0 pc idx idx' off) (ht : ((pc + 8 : Nat) : Int) + off = (tgt : Int)) (hc : CWX idx N 0) (hcl : RX9 = N.1.cls) (hc' : CWX idx' N' 0) (hcl' : RX10 = N'.1.cls) (hcs : cells ≤ 600000 ∧ slots ≤ 7302250)
    (hx : ∀ P : Int → GS → Prop, (∀ g', RepX A' g' → P z g') → MXi N [vr 0] g P) (hm : ∀ P : Int → MS → Prop, (∀ m', RepA A' m' → P z m') → MMi N' [vr 0] mm P)
    (k : ∀ g' m' H1 locs1, RepX A' g' → RepA A' m' → L2 D cy s H1 locs1 g' m' → W p l e room_1 s m #[Value.ref b] below meth c H1 locs1 cells slots QQ (F0 m tgt ls [])) : W p l e room_1 s m #[Value.ref b] below meth c H locs cells slots QQ (F0 m pc ls []) := by
  obtain ⟨d0, v0, d1, v1, f0⟩ := hd
  obtain ⟨hex, hb, -⟩ := C.1
  refine lv_aload_n hex hb d0 rfl (lv_at hl 1 rfl) ?_
  refine lw_cX (st := []) [] C S hl.1 v0 hc hcl rfl rfl (by decide) hcs (hx (fun y g' => y = z ∧ RepX A' g') (fun g' q => ⟨rfl, q⟩)) (fun v h1 H1 locs1 hq S1 => ?_)
  obtain ⟨y, rfl, g', rfl, rfl, R1⟩ := hq
  have S1 := S1 g' rfl
  refine lv_aload_n hex hb d1 rfl (lv_at hl 2 rfl) ?_
  refine lw_cM (st := [.int (Int32.ofInt y)]) [] C S1 hl.1 v1 hc' hcl' rfl rfl (Nat.le_of_ble_eq_true rfl) hcs (hm (fun w m' => w = y ∧ RepA A' m') (fun m' q => ⟨rfl, q⟩)) (fun v h1 H2 locs2 hq S2 => ?_)
  obtain ⟨w, rfl, m', rfl, rfl, R2⟩ := hq
  have S2 := S2 m' rfl
  exact lv_icmp_eq hex hb f0 ht (fun _ => k g' m' H2 locs2 R1 R2 S2) (fun z => absurd rfl z)
abbrev dlw_case1 (pc idx idx' : Nat) (off : Int) : Prop := decode code pc = .ok (.aload_n 1, 1) ∧ dA (pc + 1) ((1 : Nat) : Int) ∧ decode code (pc + 6) = .ok (.invokevirtual idx, 3) ∧ decode code (pc + 9) = .ok (.aload_n 2, 1) ∧ dA (pc + 10) ((1 : Nat) : Int) ∧ decode code (pc + 15) = .ok (.invokevirtual idx', 3) ∧ decode code (pc + 18) = .ok (.if_icmp .eq off, 3)
theorem lw_case1 {z : Int} (C : LC p s m meth c b L xs D cy) (S : L2 D cy s H locs g mm) (hl : lv_has ls 4 (lwL s b i)) (hk : i + 4 ≤ L) (hL : L ≤ 2048) (hd : dlw_case1 pc idx idx' off) (ht : ((pc + 18 : Nat) : Int) + off = (tgt : Int)) (hc : CWX idx N 1) (hcl : RX9 = N.1.cls) (hc' : CWX idx' N' 1) (hcl' : RX10 = N'.1.cls) (hcs : cells ≤ 600000 ∧ slots ≤ 7302250)
    (hx : ∀ P : Int → GS → Prop, (∀ g', RepX A' g' → P z g') → MXi N [vr 0, vi (aI xs (i + 1))] g P) (hm : ∀ P : Int → MS → Prop, (∀ m', RepA A' m' → P z m') → MMi N' [vr 0, vi (aI xs (i + 1))] mm P)
    (k : ∀ g' m' H1 locs1, RepX A' g' → RepA A' m' → L2 D cy s H1 locs1 g' m' → W p l e room_1 s m #[Value.ref b] below meth c H1 locs1 cells slots QQ (F0 m tgt ls [])) : W p l e room_1 s m #[Value.ref b] below meth c H locs cells slots QQ (F0 m pc ls []) := by
  obtain ⟨d0, a0, v0, d1, b0, v1, f0⟩ := hd
  obtain ⟨hex, hb, -⟩ := C.1
  refine lv_aload_n hex hb d0 rfl (lv_at hl 1 rfl) ?_
  refine l_arg (i := i) 1 C S.2.2.1 hl (by omega) hL a0 ?_
  refine lw_cX (st := []) [vi (aI xs (i + 1))] C S hl.1 v0 hc hcl rfl rfl (by decide) hcs (hx (fun y g' => y = z ∧ RepX A' g') (fun g' q => ⟨rfl, q⟩)) (fun v h1 H1 locs1 hq S1 => ?_)
  obtain ⟨y, rfl, g', rfl, rfl, R1⟩ := hq
  have S1 := S1 g' rfl
  refine lv_aload_n hex hb d1 rfl (lv_at hl 2 rfl) ?_
  refine l_arg (i := i) 1 C S1.2.2.1 hl (by omega) hL b0 ?_
  refine lw_cM (st := [.int (Int32.ofInt y)]) [vi (aI xs (i + 1))] C S1 hl.1 v1 hc' hcl' rfl rfl (Nat.le_of_ble_eq_true rfl) hcs (hm (fun w m' => w = y ∧ RepA A' m') (fun m' q => ⟨rfl, q⟩)) (fun v h1 H2 locs2 hq S2 => ?_)
  obtain ⟨w, rfl, m', rfl, rfl, R2⟩ := hq
  have S2 := S2 m' rfl
  exact lv_icmp_eq hex hb f0 ht (fun _ => k g' m' H2 locs2 R1 R2 S2) (fun z => absurd rfl z)
abbrev dlw_case2 (pc idx idx' : Nat) (off : Int) : Prop := decode code pc = .ok (.aload_n 1, 1) ∧ dA (pc + 1) ((1 : Nat) : Int) ∧ dA (pc + 6) ((2 : Nat) : Int) ∧ decode code (pc + 11) = .ok (.invokevirtual idx, 3) ∧ decode code (pc + 14) = .ok (.aload_n 2, 1) ∧ dA (pc + 15) ((1 : Nat) : Int) ∧ dA (pc + 20) ((2 : Nat) : Int) ∧ decode code (pc + 25) = .ok (.invokevirtual idx', 3) ∧ decode code (pc + 28) = .ok (.if_icmp .eq off, 3)
theorem lw_case2 {z : Int} (C : LC p s m meth c b L xs D cy) (S : L2 D cy s H locs g mm) (hl : lv_has ls 4 (lwL s b i)) (hk : i + 4 ≤ L) (hL : L ≤ 2048) (hd : dlw_case2 pc idx idx' off) (ht : ((pc + 28 : Nat) : Int) + off = (tgt : Int)) (hc : CWX idx N 2) (hcl : RX9 = N.1.cls) (hc' : CWX idx' N' 2) (hcl' : RX10 = N'.1.cls) (hcs : cells ≤ 600000 ∧ slots ≤ 7302250)
    (hx : ∀ P : Int → GS → Prop, (∀ g', RepX A' g' → P z g') → MXi N [vr 0, vi (aI xs (i + 1)), vi (aI xs (i + 2))] g P) (hm : ∀ P : Int → MS → Prop, (∀ m', RepA A' m' → P z m') → MMi N' [vr 0, vi (aI xs (i + 1)), vi (aI xs (i + 2))] mm P)
    (k : ∀ g' m' H1 locs1, RepX A' g' → RepA A' m' → L2 D cy s H1 locs1 g' m' → W p l e room_1 s m #[Value.ref b] below meth c H1 locs1 cells slots QQ (F0 m tgt ls [])) : W p l e room_1 s m #[Value.ref b] below meth c H locs cells slots QQ (F0 m pc ls []) := by
  obtain ⟨d0, a0, a1, v0, d1, b0, b1, v1, f0⟩ := hd
  obtain ⟨hex, hb, -⟩ := C.1
  refine lv_aload_n hex hb d0 rfl (lv_at hl 1 rfl) ?_
  refine l_arg (i := i) 1 C S.2.2.1 hl (by omega) hL a0 ?_
  refine l_arg (i := i) 2 C S.2.2.1 hl (by omega) hL a1 ?_
  refine lw_cX (st := []) [vi (aI xs (i + 1)), vi (aI xs (i + 2))] C S hl.1 v0 hc hcl rfl rfl (by decide) hcs (hx (fun y g' => y = z ∧ RepX A' g') (fun g' q => ⟨rfl, q⟩)) (fun v h1 H1 locs1 hq S1 => ?_)
  obtain ⟨y, rfl, g', rfl, rfl, R1⟩ := hq
  have S1 := S1 g' rfl
  refine lv_aload_n hex hb d1 rfl (lv_at hl 2 rfl) ?_
  refine l_arg (i := i) 1 C S1.2.2.1 hl (by omega) hL b0 ?_
  refine l_arg (i := i) 2 C S1.2.2.1 hl (by omega) hL b1 ?_
  refine lw_cM (st := [.int (Int32.ofInt y)]) [vi (aI xs (i + 1)), vi (aI xs (i + 2))] C S1 hl.1 v1 hc' hcl' rfl rfl (Nat.le_of_ble_eq_true rfl) hcs (hm (fun w m' => w = y ∧ RepA A' m') (fun m' q => ⟨rfl, q⟩)) (fun v h1 H2 locs2 hq S2 => ?_)
  obtain ⟨w, rfl, m', rfl, rfl, R2⟩ := hq
  have S2 := S2 m' rfl
  exact lv_icmp_eq hex hb f0 ht (fun _ => k g' m' H2 locs2 R1 R2 S2) (fun z => absurd rfl z)
abbrev dlw_case3 (pc idx idx' : Nat) (off : Int) : Prop := decode code pc = .ok (.aload_n 1, 1) ∧ dA (pc + 1) ((1 : Nat) : Int) ∧ dA (pc + 6) ((2 : Nat) : Int) ∧ dA (pc + 11) ((3 : Nat) : Int) ∧ decode code (pc + 16) = .ok (.invokevirtual idx, 3) ∧ decode code (pc + 19) = .ok (.aload_n 2, 1) ∧ dA (pc + 20) ((1 : Nat) : Int) ∧ dA (pc + 25) ((2 : Nat) : Int) ∧ dA (pc + 30) ((3 : Nat) : Int) ∧ decode code (pc + 35) = .ok (.invokevirtual idx', 3) ∧ decode code (pc + 38) = .ok (.if_icmp .eq off, 3)
theorem lw_case3 {z : Int} (C : LC p s m meth c b L xs D cy) (S : L2 D cy s H locs g mm) (hl : lv_has ls 4 (lwL s b i)) (hk : i + 4 ≤ L) (hL : L ≤ 2048) (hd : dlw_case3 pc idx idx' off) (ht : ((pc + 38 : Nat) : Int) + off = (tgt : Int)) (hc : CWX idx N 3) (hcl : RX9 = N.1.cls) (hc' : CWX idx' N' 3) (hcl' : RX10 = N'.1.cls) (hcs : cells ≤ 600000 ∧ slots ≤ 7302250)
    (hx : ∀ P : Int → GS → Prop, (∀ g', RepX A' g' → P z g') → MXi N [vr 0, vi (aI xs (i + 1)), vi (aI xs (i + 2)), vi (aI xs (i + 3))] g P) (hm : ∀ P : Int → MS → Prop, (∀ m', RepA A' m' → P z m') → MMi N' [vr 0, vi (aI xs (i + 1)), vi (aI xs (i + 2)), vi (aI xs (i + 3))] mm P)
    (k : ∀ g' m' H1 locs1, RepX A' g' → RepA A' m' → L2 D cy s H1 locs1 g' m' → W p l e room_1 s m #[Value.ref b] below meth c H1 locs1 cells slots QQ (F0 m tgt ls [])) : W p l e room_1 s m #[Value.ref b] below meth c H locs cells slots QQ (F0 m pc ls []) := by
  obtain ⟨d0, a0, a1, a2, v0, d1, b0, b1, b2, v1, f0⟩ := hd
  obtain ⟨hex, hb, -⟩ := C.1
  refine lv_aload_n hex hb d0 rfl (lv_at hl 1 rfl) ?_
  refine l_arg (i := i) 1 C S.2.2.1 hl (by omega) hL a0 ?_
  refine l_arg (i := i) 2 C S.2.2.1 hl (by omega) hL a1 ?_
  refine l_arg (i := i) 3 C S.2.2.1 hl (by omega) hL a2 ?_
  refine lw_cX (st := []) [vi (aI xs (i + 1)), vi (aI xs (i + 2)), vi (aI xs (i + 3))] C S hl.1 v0 hc hcl rfl rfl (by decide) hcs (hx (fun y g' => y = z ∧ RepX A' g') (fun g' q => ⟨rfl, q⟩)) (fun v h1 H1 locs1 hq S1 => ?_)
  obtain ⟨y, rfl, g', rfl, rfl, R1⟩ := hq
  have S1 := S1 g' rfl
  refine lv_aload_n hex hb d1 rfl (lv_at hl 2 rfl) ?_
  refine l_arg (i := i) 1 C S1.2.2.1 hl (by omega) hL b0 ?_
  refine l_arg (i := i) 2 C S1.2.2.1 hl (by omega) hL b1 ?_
  refine l_arg (i := i) 3 C S1.2.2.1 hl (by omega) hL b2 ?_
  refine lw_cM (st := [.int (Int32.ofInt y)]) [vi (aI xs (i + 1)), vi (aI xs (i + 2)), vi (aI xs (i + 3))] C S1 hl.1 v1 hc' hcl' rfl rfl (Nat.le_of_ble_eq_true rfl) hcs (hm (fun w m' => w = y ∧ RepA A' m') (fun m' q => ⟨rfl, q⟩)) (fun v h1 H2 locs2 hq S2 => ?_)
  obtain ⟨w, rfl, m', rfl, rfl, R2⟩ := hq
  have S2 := S2 m' rfl
  exact lv_icmp_eq hex hb f0 ht (fun _ => k g' m' H2 locs2 R1 R2 S2) (fun z => absurd rfl z)
abbrev dlw_caseL (pc idx idx' : Nat) (off : Int) : Prop := decode code pc = .ok (.aload_n 1, 1) ∧ decode code (pc + 1) = .ok (.invokevirtual idx, 3) ∧ decode code (pc + 4) = .ok (.aload_n 2, 1) ∧ decode code (pc + 5) = .ok (.invokevirtual idx', 3) ∧ decode code (pc + 8) = .ok (.lcmp, 1) ∧ decode code (pc + 9) = .ok (.ifCond .eq off, 3)
theorem lw_caseL {z : Int} (C : LC p s m meth c b L xs D cy) (S : L2 D cy s H locs g mm) (hl : lv_has ls 4 (lwL s b i)) (hk : i + 4 ≤ L) (hL : L ≤ 2048) (hd : dlw_caseL pc idx idx' off) (ht : ((pc + 9 : Nat) : Int) + off = (tgt : Int)) (hc : CWX idx N 0) (hcl : RX9 = N.1.cls) (hc' : CWX idx' N' 0) (hcl' : RX10 = N'.1.cls) (hcs : cells ≤ 600000 ∧ slots ≤ 7302250)
    (hx : ∀ P : Int → GS → Prop, (∀ g', RepX A' g' → P z g') → MXl N [vr 0] g P) (hm : ∀ P : Int → MS → Prop, (∀ m', RepA A' m' → P z m') → MMl N' [vr 0] mm P)
    (k : ∀ g' m' H1 locs1, RepX A' g' → RepA A' m' → L2 D cy s H1 locs1 g' m' → W p l e room_1 s m #[Value.ref b] below meth c H1 locs1 cells slots QQ (F0 m tgt ls [])) : W p l e room_1 s m #[Value.ref b] below meth c H locs cells slots QQ (F0 m pc ls []) := by
  obtain ⟨d0, v0, d1, v1, f0, f1⟩ := hd
  obtain ⟨hex, hb, -⟩ := C.1
  refine lv_aload_n hex hb d0 rfl (lv_at hl 1 rfl) ?_
  refine lw_cX (st := []) [] C S hl.1 v0 hc hcl rfl rfl (by decide) hcs (hx (fun y g' => y = z ∧ RepX A' g') (fun g' q => ⟨rfl, q⟩)) (fun v h1 H1 locs1 hq S1 => ?_)
  obtain ⟨y, rfl, g', rfl, rfl, R1⟩ := hq
  have S1 := S1 g' rfl
  refine lv_aload_n hex hb d1 rfl (lv_at hl 2 rfl) ?_
  refine lw_cM (st := [.long (Int64.ofInt y)]) [] C S1 hl.1 v1 hc' hcl' rfl rfl (Nat.le_of_ble_eq_true rfl) hcs (hm (fun w m' => w = y ∧ RepA A' m') (fun m' q => ⟨rfl, q⟩)) (fun v h1 H2 locs2 hq S2 => ?_)
  obtain ⟨w, rfl, m', rfl, rfl, R2⟩ := hq
  have S2 := S2 m' rfl
  refine W.lcmp hex hb f0 ?_
  exact lv_if_eq hex hb f1 ht (fun _ => k g' m' H2 locs2 R1 R2 S2) (fun z => absurd (by simp [lg_cmp]) z)
end LAW

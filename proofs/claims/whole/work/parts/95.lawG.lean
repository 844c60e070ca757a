/-! THE LAW: both worlds are made; from the entry -/
theorem d_law_0 : decode code 0 = .ok (.new 7, 3) := by decide +kernel
theorem d_law_3 : decode code 3 = .ok (.dup, 1) := by decide +kernel
theorem d_law_4 : decode code 4 = .ok (.invokespecial 9, 3) := by decide +kernel
theorem d_law_7 : decode code 7 = .ok (.astore_n 1, 1) := by decide +kernel
theorem d_law_8 : decode code 8 = .ok (.new 10, 3) := by decide +kernel
theorem d_law_11 : decode code 11 = .ok (.dup, 1) := by decide +kernel
theorem d_law_12 : decode code 12 = .ok (.invokespecial 12, 3) := by decide +kernel
theorem d_law_15 : decode code 15 = .ok (.astore_n 2, 1) := by decide +kernel
theorem d_law_16 : decode code 16 = .ok (.iconst 0, 1) := by decide +kernel
theorem d_law_17 : decode code 17 = .ok (.istore_n 3, 1) := by decide +kernel
section LAW
variable {p : Program} {l : Launch} {e : Env} {s : State} {m : MethodId} {below : List Frame} {meth : Method} {c : Code} {b L : Nat} {xs : Nat → Int32} {D : va_G} {cy : Nat → ClassId}
theorem lw_new {H : Heap} {locs : List Loc} {cells slots : Nat} {QQ : State → Prop} {pc : Nat} {ls : Array Slot} {st : List Value} {c0 idx : Nat} {q : vw_C} {ad : Nat → Nat} (C : LC p s m meth c b L xs D cy) (hV : va_S (LA s) s.heap H locs) (hd : decode code pc = .ok (.new idx, 3)) (hc : vwCl[c0]? = some q) (hcl : Cond.classLink RL idx q.1 ∈ WS) (hini : Cond.initialized q.1 ∈ WS) (hF : px_noF c0 q.2.2 = true) (hcs : cells + 1 ≤ 600000 ∧ slots + q.2.2 ≤ 7302250) (had : ad 0 = H.size)
    (k : ∀ H1, SIM D cy ad (z0 c0 q.2.2) H1 → H1.size = H.size + 1 → (∀ x, x < H.size → H1[x]? = H[x]?) → va_S (LA s) s.heap H1 locs → W p l e room_1 s m #[Value.ref b] below meth c H1 locs (cells + 1) (slots + q.2.2) QQ (F0 m (pc + 3) ls (.ref H.size :: st))) :
    W p l e room_1 s m #[Value.ref b] below meth c H locs cells slots QQ (F0 m pc ls st) := by
  have hts := lw_ws C
  obtain ⟨a1, a2, a3, a4⟩ := cls_ok c0 q hc
  have hKn := C.2.1.1 c0 q hc
  refine W.newcK (own := RL) C.1.1 C.1.2.1 C.1.2.2.2.2.1 (hts _ hcl) (hts _ (cls_in c0 q hc)) (hts _ hini) rfl hd hcs.1 hcs.2 hKn.2.1 rfl fun H1 kC hkC ez z oq => ?_
  refine k H1 (fun i => ?_) z oq ⟨Nat.le_trans hV.1 (by omega), fun x h1 h2 => (oq x (Nat.lt_of_lt_of_le h1 hV.1)).trans (hV.2.1 x h1 h2), hV.2.2⟩
  unfold px_at
  cases i with
  | zero =>
    show (if c0 < 11 then _ else _)
    rw [if_pos a4]
    refine ⟨q, hc, ?_⟩
    rw [had]
    refine (u_born (px_ty c0) hts a1 hKn hkC ez a2).to (fun k hk => ?_)
    obtain ⟨f1, f2⟩ := px_noF_spec hF hk
    exact px_dflt _ ad f1 f2
  | succ i => exact trivial
theorem adj1 {t n : Nat} {ad : Nat → Nat} (h : s.heap.size ≤ ad 0) : ADJ (LA s) ad (z0 t n).1.length := by
  refine ⟨fun i j hi hj _ => ?_, fun i hi => ?_⟩
  · have hi : i < 1 := hi
    have hj : j < 1 := hj
    omega
  · have hi : i < 1 := hi
    obtain rfl : i = 0 := by omega
    exact h
/-- the walk from the law's entry -/
theorem whole_start {p : Program} {e : Env} {s : State} {m : MethodId} {below : List Frame} {meth : Method} {c : Code} (l : Launch) (hflags : l.flags = flags0) {b L : Nat} {xs : Nat → Int32} (hL : L ≤ 2048) (C0 : lw_At p s m meth c b L xs) : W p l e room_1 s m #[Value.ref b] below meth c s.heap [] 0 0 (lw_Z below #[Value.ref b] s) (entryFrame m ([Value.ref b] : List Value).toArray 4) := by
  obtain ⟨D, cy, C⟩ := lw_LC C0
  obtain ⟨hx, hb, -⟩ := id C0
  have hl := lv_entry ([.ref b]) (n := 4) (Nat.le_of_ble_eq_true rfl)
  rw [lg_entry_eq]
  generalize (lg_sl ([.ref b]) ++ List.replicate (4 - (lg_sl ([.ref b])).length) Slot.unset).toArray = ls at hl ⊢
  have hl : lv_has ls 4 [(0, .ref b)] := hl
  refine lw_new (c0 := 9) (ad := adX s) C va_S.rf d_law_0 rfl (wt1 18 rfl rfl) (wt1 1 rfl rfl) rfl ⟨Nat.le_of_ble_eq_true rfl, Nat.le_of_ble_eq_true rfl⟩ rfl (fun H1 S1 z1 q1 V1 => ?_)
  refine lv_dup hx hb d_law_3 rfl ?_
  refine lw_callI (N := mX9_init) (n := 0) (b0 := 0) (h := z0 9 12) (ad := adX s) (B1 := (156, 2839)) (st := [.ref s.heap.size]) [] C V1 S1 (adj1 (Nat.le_refl _)) hl.1 d_law_4 (wt1 20 rfl rfl) nvX9_init (wt1 21 rfl rfl) rfl rfl rfl rfl (Nat.le_of_ble_eq_true rfl) (Nat.le_of_ble_eq_true rfl) (Nat.le_of_ble_eq_true rfl) ⟨Nat.le_of_ble_eq_true rfl, Nat.le_of_ble_eq_true rfl⟩ (fun j _ => by show s.heap.size + (1 + j) = _; omega) (iX9 ⟨12, rfl⟩ rfl) (fun v h1 H2 locs2 hq S2 z2 q2 V2 => ?_)
  obtain ⟨rfl, e1⟩ := hq
  have X2 := simX0 e1 S2
  have z2 : H2.size = s.heap.size + 157 := by rw [z2, z1]; show s.heap.size + 1 + 156 = _; omega
  refine lv_astore_n (lv' := [(1, .ref s.heap.size), (0, .ref b)]) hx hb d_law_7 rfl hl (by decide) rfl (fun ls hl => ?_)
  refine lw_new (c0 := 10) (ad := adM s) C V2 d_law_8 rfl (wt4 85 rfl rfl) (wt1 11 rfl rfl) rfl ⟨Nat.le_of_ble_eq_true rfl, Nat.le_of_ble_eq_true rfl⟩ (by rw [z2]; rfl) (fun H3 S3 z3 q3 V3 => ?_)
  rw [z2]
  refine lv_dup hx hb d_law_11 rfl ?_
  refine lw_callI (N := mX10_init) (n := 0) (b0 := 0) (h := z0 10 34) (ad := adM s) (B1 := (22, 1722)) (st := [.ref (s.heap.size + 157)]) [] C V3 S3 (adj1 (by unfold adM; omega)) hl.1 d_law_12 (wt4 87 rfl rfl) nvX10_init (wt4 88 rfl rfl) rfl rfl rfl rfl (Nat.le_of_ble_eq_true rfl) (Nat.le_of_ble_eq_true rfl) (Nat.le_of_ble_eq_true rfl) ⟨Nat.le_of_ble_eq_true rfl, Nat.le_of_ble_eq_true rfl⟩ (fun j _ => by rw [z3, z2]; show s.heap.size + 157 + (1 + j) = _; omega) iX10 (fun v h2 H4 locs4 hq S4 z4 q4 V4 => ?_)
  obtain ⟨rfl, e2⟩ := hq
  have M4 := simM0 e2 S4
  have z4 : H4.size = s.heap.size + 180 := by rw [z4, z3, z2]; show s.heap.size + 157 + 1 + 22 = _; omega
  have X4 : SIM D cy (adX s) (hX g0X) H4 := by
    refine SIM.keep X2 (fun i hi => ?_)
    have hlt := px_lt X2 hi
    have hi : i < TX.length := hi
    rw [tX_len] at hi
    rw [q4 _ (by rw [z3]; omega) (fun z => ?_), q3 _ hlt]
    rcases z with ⟨j, hj, e⟩ | z
    · unfold adX adM at e
      omega
    · rw [z3, z2] at z
      unfold adX at z
      omega
  have S : L2 D cy s H4 locs4 g0X m0M := ⟨X4, M4, V4, z4⟩
  refine lv_astore_n (lv' := [(2, .ref (s.heap.size + 157)), (1, .ref s.heap.size), (0, .ref b)]) hx hb d_law_15 rfl hl (by decide) rfl (fun ls hl => ?_)
  refine lv_iconst (v := nI (4 * 0)) hx hb d_law_16 (by decide) ?_
  refine lv_istore_n (lv' := [(3, .int (nI (4 * 0))), (2, .ref (s.heap.size + 157)), (1, .ref s.heap.size), (0, .ref b)]) hx hb d_law_17 rfl hl (by decide) rfl (fun ls hl => ?_)
  exact lw_loop C hL ⟨Nat.le_of_ble_eq_true rfl, Nat.le_of_ble_eq_true rfl⟩ 513 0 (by omega) (by omega) A0 g0X m0M H4 locs4 ls wfa0 ⟨Int.le_refl 0, Int.le_refl 0, Int.le_refl 0, Int.le_refl 0⟩ repX0 repM0 S (lv_sub hl [3, 2, 1, 0] rfl)
end LAW

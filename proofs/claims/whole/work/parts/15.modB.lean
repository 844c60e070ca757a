/-! the reference: the distance's table -/
section MD1
variable {E : EE} {P : Int → MS → Prop}
/-- rows below r, and of row r the first c, hold the distances -/
def DT (E : EE) (a b : Nat) (m : MS) (r c : Nat) : Prop := (∀ i j : Nat, i < r → (j : Int) ≤ eL E b → m 14 (9 * i + j) = sD (eW E a) (eW E b) i j) ∧ ∀ j : Nat, j < c → m 14 (9 * r + j) = sD (eW E a) (eW E b) r j
theorem DT.put {a b r c : Nat} {m : MS} {x : Int} (h : DT E a b m r c) (hb : eL E b ≤ 8) (hc : (c : Int) ≤ eL E b) (hx : x = sD (eW E a) (eW E b) r c) : DT E a b (mI m 14 (9 * r + c) x) r (c + 1) := by
  refine ⟨fun i j hi hj => ?_, fun j hj => ?_⟩
  · rw [mI_ne (by omega)]
    exact h.1 i j hi hj
  · by_cases e : j = c
    · subst e
      rw [mI_eq, hx]
    · rw [mI_ne (by omega)]
      exact h.2 j (by omega)
theorem DT.row {a b r : Nat} {m : MS} (h : DT E a b m r ((eL E b).toNat + 1)) (hb : 0 ≤ eL E b) : DT E a b m (r + 1) 0 := by
  refine ⟨fun i j hi hj => ?_, fun j hj => by omega⟩
  by_cases e : i = r
  · subst e
    exact h.2 j (by omega)
  · exact h.1 i j (by omega) hj
theorem M_dist81 {m : MS} {a b r c : Nat} {x : Int} (hR : RepM E m) (hW : WF E) (ha : a < eN E) (hb : b < eN E) (hr : (r : Int) ≤ eL E a) (hc : (c : Int) ≤ eL E b) (hD : DT E a b m r c)
    (hx : x = if r = 0 then 2 * (c : Int) else if c = 0 then 2 * (r : Int) else min (sD (eW E a) (eW E b) (r - 1) c) (sD (eW E a) (eW E b) r (c - 1)) + 2)
    (k : ∀ m', Kp S14 m m' → DT E a b m' r (c + 1) → YYi mX10_distance 15 [some (vr 0), some (vi (a : Int)), some (vi (b : Int)), some (vi (r : Int)), some (vi ((c + 1 : Nat) : Int)), none, none] [] m' P) :
    YYi mX10_distance 81 [some (vr 0), some (vi (a : Int)), some (vi (b : Int)), some (vi (r : Int)), some (vi (c : Int)), none, none] [vi x] m P := by
  have hn := hW.1
  obtain ⟨-, -, -, wa, wa2⟩ := hW.2.1 a ha
  obtain ⟨-, -, -, wb, wb2⟩ := hW.2.1 b hb
  have hrx : rng x := by
    have d1 := sD_b (eW E a) (eW E b) (r - 1) c
    have d2 := sD_b (eW E a) (eW E b) r (c - 1)
    rw [hx]
    unfold rng
    split <;> (try split) <;> omega
  have e9 : (9 * (r : Int) + (c : Int)).toNat = 9 * r + c := by omega
  refine uX10_distance_81 m a b r c x ⟨⟨by omega, by omega⟩, fun h0 => ?_, fun h0 => ⟨⟨by omega, by omega⟩, fun h1 => ?_, fun h1 => ?_⟩⟩
  · refine M_lesser hrx hrx ⟨by omega, by omega, fun m7 e7 => ?_⟩
    subst e7
    rw [e9]
    have er : r = 0 := by omega
    subst er
    refine k _ (Kp.st rfl) (hD.put (by omega) hc ?_)
    rw [sD_0, hx, if_pos rfl]
    omega
  · refine M_lesser hrx hrx ⟨by omega, by omega, fun m7 e7 => ?_⟩
    subst e7
    rw [e9]
    have ec : c = 0 := by omega
    subst ec
    obtain ⟨r', rfl⟩ : ∃ r', r = r' + 1 := ⟨r - 1, by omega⟩
    refine k _ (Kp.st rfl) (hD.put (by omega) hc ?_)
    rw [sD_s0, hx, if_neg (by omega), if_pos rfl]
    omega
  · obtain ⟨r', rfl⟩ : ∃ r', r = r' + 1 := ⟨r - 1, by omega⟩
    obtain ⟨c', rfl⟩ : ∃ c', c = c' + 1 := ⟨c - 1, by omega⟩
    have ea : (8 * (a : Int) + ((r' + 1 : Nat) : Int) - 1).toNat = 8 * a + r' := by omega
    have eb : (8 * (b : Int) + ((c' + 1 : Nat) : Int) - 1).toNat = 8 * b + c' := by omega
    have ed : (9 * (((r' + 1 : Nat) : Int) - 1) + ((c' + 1 : Nat) : Int) - 1).toNat = 9 * r' + c' := by omega
    obtain ⟨-, -, -, -, qa, -⟩ := hR.2.1 a ha
    obtain ⟨-, -, -, -, qb, -⟩ := hR.2.1 b hb
    refine ⟨by omega, by omega, by omega, by omega, by omega, by omega, ?_⟩
    rw [ea, eb, qa r' (by omega), qb c' (by omega)]
    refine M_change (wa2 _ (by omega)) (wb2 _ (by omega)) ?_
    rw [ed, hD.1 r' c' (by omega) (by omega)]
    have d0 := sD_b (eW E a) (eW E b) r' c'
    have d3 := sC_b (eW E a r') (eW E b c')
    refine M_lesser hrx ⟨by omega, by omega⟩ ⟨by omega, by omega, fun m7 e7 => ?_⟩
    subst e7
    rw [e9]
    refine k _ (Kp.st rfl) (hD.put (by omega) hc ?_)
    rw [sD_ss, hx, if_neg (by omega), if_neg (by omega)]
    rfl
theorem M_dist15 {a b r : Nat} (hW : WF E) (ha : a < eN E) (hb : b < eN E) (hr : (r : Int) ≤ eL E a) : ∀ (t c : Nat) (m : MS), RepM E m → c + t = (eL E b).toNat + 1 → DT E a b m r c →
    (∀ m', RepM E m' → Kp S14 m m' → DT E a b m' (r + 1) 0 → YYi mX10_distance 2 [some (vr 0), some (vi (a : Int)), some (vi (b : Int)), some (vi ((r + 1 : Nat) : Int)), none, none, none] [] m' P) →
    YYi mX10_distance 15 [some (vr 0), some (vi (a : Int)), some (vi (b : Int)), some (vi (r : Int)), some (vi (c : Int)), none, none] [] m P := by
  have hn := hW.1
  obtain ⟨-, -, -, wa, wa2⟩ := hW.2.1 a ha
  obtain ⟨-, -, -, wb, wb2⟩ := hW.2.1 b hb
  intro t
  induction t with
  | zero =>
    intro c m hR hct hD k
    obtain ⟨-, -, -, q5, -⟩ := hR.2.1 b hb
    refine uX10_distance_15 m a b r c ?_
    rw [Int.toNat_natCast, q5]
    refine ⟨by omega, by omega, ⟨by omega, by omega⟩, ⟨by omega, by omega⟩, fun _ => ?_, fun z => by omega⟩
    exact k m hR Kp.rf (DT.row (by rw [show (eL E b).toNat + 1 = c by omega]; exact hD) (by omega))
  | succ t ih =>
    intro c m hR hct hD k
    obtain ⟨-, -, -, q5, -⟩ := hR.2.1 b hb
    have next : ∀ x, (x = if r = 0 then 2 * (c : Int) else if c = 0 then 2 * (r : Int) else min (sD (eW E a) (eW E b) (r - 1) c) (sD (eW E a) (eW E b) r (c - 1)) + 2) → YYi mX10_distance 81 [some (vr 0), some (vi (a : Int)), some (vi (b : Int)), some (vi (r : Int)), some (vi (c : Int)), none, none] [vi x] m P := fun x hx =>
      M_dist81 hR hW ha hb hr (by omega) hD hx (fun m' hk hD' => ih (c + 1) m' (hR.k14 hk) (by omega) hD' (fun m2 hR2 hk2 hD2 => k m2 hR2 (hk.tr hk2) hD2))
    refine uX10_distance_15 m a b r c ?_
    rw [Int.toNat_natCast, q5]
    refine ⟨by omega, by omega, ⟨by omega, by omega⟩, ⟨by omega, by omega⟩, fun z => by omega, fun _ => ⟨⟨by omega, by omega⟩, fun h0 => ⟨fun h1 => ?_, fun h1 => ?_⟩, fun h0 => ?_⟩⟩
    · obtain ⟨r', rfl⟩ : ∃ r', r = r' + 1 := ⟨r - 1, by omega⟩
      obtain ⟨c', rfl⟩ : ∃ c', c = c' + 1 := ⟨c - 1, by omega⟩
      have e1 : (9 * (((r' + 1 : Nat) : Int) - 1) + ((c' + 1 : Nat) : Int)).toNat = 9 * r' + (c' + 1) := by omega
      have e2 : (9 * ((r' + 1 : Nat) : Int) + ((c' + 1 : Nat) : Int) - 1).toNat = 9 * (r' + 1) + c' := by omega
      refine ⟨by omega, by omega, by omega, by omega, ?_⟩
      rw [e1, e2, hD.1 r' (c' + 1) (by omega) (by omega), hD.2 c' (by omega)]
      have d1 := sD_b (eW E a) (eW E b) r' (c' + 1)
      have d2 := sD_b (eW E a) (eW E b) (r' + 1) c'
      refine M_lesser ⟨by omega, by omega⟩ ⟨by omega, by omega⟩ (next _ ?_)
      rw [if_neg (by omega), if_neg (by omega)]
      rfl
    · exact next _ (by rw [if_neg (by omega), if_pos (by omega)])
    · exact next _ (by rw [if_pos (by omega)])
theorem M_dist2 {a b : Nat} (hW : WF E) (ha : a < eN E) (hb : b < eN E) : ∀ (t r : Nat) (m : MS), RepM E m → r + t = (eL E a).toNat + 1 → DT E a b m r 0 →
    (∀ m', RepM E m' → Kp S14 m m' → P (sDi E a b) m') → YYi mX10_distance 2 [some (vr 0), some (vi (a : Int)), some (vi (b : Int)), some (vi (r : Int)), none, none, none] [] m P := by
  have hn := hW.1
  obtain ⟨-, -, -, wa, wa2⟩ := hW.2.1 a ha
  obtain ⟨-, -, -, wb, wb2⟩ := hW.2.1 b hb
  intro t
  induction t with
  | zero =>
    intro r m hR hct hD k
    obtain ⟨-, -, -, q5, -⟩ := hR.2.1 a ha
    obtain ⟨-, -, -, q6, -⟩ := hR.2.1 b hb
    refine uX10_distance_2 m a b r ?_
    rw [Int.toNat_natCast, Int.toNat_natCast, q5, q6]
    refine ⟨by omega, by omega, ⟨by omega, by omega⟩, ⟨by omega, by omega⟩, fun _ => ⟨by omega, by omega, by omega, by omega, ?_⟩, fun z => by omega⟩
    have e : (9 * eL E a + eL E b).toNat = 9 * (eL E a).toNat + (eL E b).toNat := by omega
    rw [e, hD.1 _ _ (by omega) (by omega)]
    exact k m hR Kp.rf
  | succ t ih =>
    intro r m hR hct hD k
    obtain ⟨-, -, -, q5, -⟩ := hR.2.1 a ha
    refine uX10_distance_2 m a b r ?_
    rw [Int.toNat_natCast, Int.toNat_natCast, q5]
    refine ⟨by omega, by omega, ⟨by omega, by omega⟩, ⟨by omega, by omega⟩, fun z => by omega, fun _ => ?_⟩
    exact M_dist15 hW ha hb (by omega) ((eL E b).toNat + 1) 0 m hR (by omega) hD (fun m' hR' hk hD' => ih (r + 1) m' hR' (by omega) hD' (fun m2 hR2 hk2 => k m2 hR2 (hk.tr hk2)))
theorem M_dist {m : MS} {a b : Nat} (hR : RepM E m) (hW : WF E) (ha : a < eN E) (hb : b < eN E) (k : ∀ m', RepM E m' → Kp S14 m m' → P (sDi E a b) m') : MMi mX10_distance [vr 0, vi (a : Int), vi (b : Int)] m P :=
  uX10_distance m a b (M_dist2 hW ha hb ((eL E a).toNat + 1) 0 m hR (by omega) ⟨fun i j hi => by omega, fun j hj => by omega⟩ k)
theorem sDi_b {i j : Nat} (hW : WF E) (hi : i < eN E) (hj : j < eN E) : 0 ≤ sDi E i j ∧ sDi E i j ≤ 32 := by
  obtain ⟨-, -, -, wa, -⟩ := hW.2.1 i hi
  obtain ⟨-, -, -, wb, -⟩ := hW.2.1 j hj
  have := sD_b (eW E i) (eW E j) (eL E i).toNat (eL E j).toNat
  unfold sDi
  omega
theorem tdiv_b {x y : Int} (hx : 0 ≤ x) (hy : 1 ≤ y) : 0 ≤ Int.tdiv x y ∧ Int.tdiv x y ≤ x := by
  refine ⟨Int.tdiv_nonneg hx (by omega), ?_⟩
  rw [Int.tdiv_eq_ediv_of_nonneg hx]
  exact Int.ediv_le_self y hx
theorem sLk_b {i j : Nat} (hW : WF E) (hi : i < eN E) (hj : j < eN E) : -40000 ≤ sLk E i j ∧ sLk E i j ≤ 1000 := by
  obtain ⟨-, -, -, wa, -⟩ := hW.2.1 i hi
  have h := sDi_b hW hi hj
  have := tdiv_b (x := 1000 * sDi E i j) (y := 2 * max (eL E i) (eL E j)) (by omega) (by omega)
  unfold sLk
  omega
theorem M_like {m : MS} {a b : Nat} (hR : RepM E m) (hW : WF E) (ha : a < eN E) (hb : b < eN E) (k : ∀ m', RepM E m' → Kp S14 m m' → P (sLk E a b) m') : MMi mX10_likeness [vr 0, vi (a : Int), vi (b : Int)] m P := by
  have hn := hW.1
  obtain ⟨-, -, -, wa, -⟩ := hW.2.1 a ha
  obtain ⟨-, -, -, wb, -⟩ := hW.2.1 b hb
  have hd := sDi_b hW ha hb
  refine uX10_likeness m a b ?_
  refine M_dist hR hW ha hb (fun m' hR' hk => ?_)
  obtain ⟨-, -, -, q5, -⟩ := hR'.2.1 a ha
  obtain ⟨-, -, -, q6, -⟩ := hR'.2.1 b hb
  rw [Int.toNat_natCast, Int.toNat_natCast, q5, q6]
  refine ⟨by omega, by omega, by omega, by omega, M_greater ⟨by omega, by omega⟩ ⟨by omega, by omega⟩ ⟨⟨by omega, by omega⟩, ⟨by omega, by omega⟩, by omega, k m' hR' hk⟩⟩
end MD1

/-! the reference takes a year, an age, an end; it reads the page -/
section MQ
variable {P : Int → MS → Prop}
theorem RepQ_yr {q : QQ} {m : MS} {c : Int} (h : RepQ q m) (hn : 1 ≤ qN q) : RepQ (qYr q c) (mI (mI m 10 (qN q - 1) (10 * m 10 (qN q - 1) + (c - 48))) 0 12 ((mI m 10 (qN q - 1) (10 * m 10 (qN q - 1) + (c - 48))) 0 12 + 1)) := by
  obtain ⟨h1, h2, h3⟩ := h
  refine ⟨?_, by rw [mI_ne (by omega), mI_ne (by omega)]; exact h2, fun i hi => ?_⟩
  · rw [mI_eq, mI_ne (by omega), h1]
    show (qS q : Int) + 1 = ((qS q + 1 : Nat) : Int)
    omega
  · have hi : i < qN q := hi
    obtain ⟨y1, y2, y3, y4, y5⟩ := h3 i hi
    refine ⟨?_, ?_, ?_, ?_, fun j hj => ?_⟩
    · rw [mI_ne (by omega), mI_ne (by omega)]; exact y1
    · show _ = fU (qY q) (qN q - 1) (10 * qY q (qN q - 1) + (c - 48)) i
      rw [mI_ne (by omega)]
      by_cases e : i = qN q - 1
      · rw [← e, mI_eq, fU_eq, y2]
      · rw [mI_ne (by omega), fU_ne e]; exact y2
    · rw [mI_ne (by omega), mI_ne (by omega)]; exact y3
    · rw [mI_ne (by omega), mI_ne (by omega)]; exact y4
    · rw [mI_ne (by omega), mI_ne (by omega)]; exact y5 j hj
theorem RepQ_ag {q : QQ} {m : MS} {a : Int} (h : RepQ q m) (s : Nat) : RepQ (qAg q s a) (mI (mI m 11 (qN q - 1) a) 0 12 s) := by
  obtain ⟨h1, h2, h3⟩ := h
  refine ⟨mI_eq, by rw [mI_ne (by omega), mI_ne (by omega)]; exact h2, fun i hi => ?_⟩
  have hi : i < qN q := hi
  obtain ⟨y1, y2, y3, y4, y5⟩ := h3 i hi
  refine ⟨?_, ?_, ?_, ?_, fun j hj => ?_⟩
  · rw [mI_ne (by omega), mI_ne (by omega)]; exact y1
  · rw [mI_ne (by omega), mI_ne (by omega)]; exact y2
  · show _ = fU (qA q) (qN q - 1) a i
    rw [mI_ne (by omega)]
    by_cases e : i = qN q - 1
    · rw [← e, mI_eq, fU_eq]
    · rw [mI_ne (by omega), fU_ne e]; exact y3
  · rw [mI_ne (by omega), mI_ne (by omega)]; exact y4
  · rw [mI_ne (by omega), mI_ne (by omega)]; exact y5 j hj
theorem kq1 {m : MS} {x : Int} {a k : Nat} (h : 9 ≤ a ∧ a ≤ 13) : Kp SQ m (mI m a k x) := Kp.st (SQ_of (Or.inl h))
theorem kq2 {m : MS} {x y : Int} {a k : Nat} (h : 9 ≤ a ∧ a ≤ 13) : Kp SQ m (mI (mI m a k x) 0 12 y) := (kq1 h).tr (Kp.st (SQ_of (Or.inr ⟨rfl, Or.inl rfl⟩)))
theorem M_tYear {m : MS} {q : QQ} {c : Int} (hq : RepQ q m) (hn : 1 ≤ qN q ∧ qN q ≤ 18) (hs : 3 ≤ qS q ∧ qS q ≤ 6) (rc : 0 ≤ c ∧ c ≤ 1000) (hS : ∀ q', rT q c = some q' → ∀ m', RepQ q' m' → Kp SQ m m' → P 1 m') (hN : rT q c = none → ∀ m', Kp SQ m m' → P 0 m') : MMi mX10_takesYear [vr 0, vi c, vi ((qN q - 1 : Nat) : Int)] m (fun y m' => (y = 0 ∨ y = 1) ∧ P y m') := by
  have h1 := hq.1
  refine uX10_takesYear m _ _ ?_
  simp only [Int.toNat_natCast]
  have good : rT q c = some (qYr q c) → 0 ≤ ((qN q - 1 : Nat) : Int) ∧ ((qN q - 1 : Nat) : Int) < 18 ∧ ∀ m7 : MS, m7 = mI m 10 (qN q - 1) (10 * m 10 (qN q - 1) + (c - 48)) → MMi mX10_goes [vr 0, vi 1, vi (m7 0 12 + 1)] m7 (fun y10 m9 => (y10 = 0 ∨ y10 = 1) ∧ (y10 = 0 ∨ y10 = 1) ∧ P y10 m9) := by
    intro hr
    refine ⟨by omega, by omega, fun m7 e7 => ?_⟩
    subst e7
    exact M_goes1 ⟨Or.inr rfl, hS _ hr _ (RepQ_yr hq hn.1) (kq2 (by omega))⟩
  have bad : rT q c = none → 0 ≤ ((qN q - 1 : Nat) : Int) ∧ ((qN q - 1 : Nat) : Int) < 18 ∧ ∀ m7 : MS, m7 = mI m 10 (qN q - 1) (10 * m 10 (qN q - 1) + (c - 48)) → MMi mX10_goes [vr 0, vi 0, vi (m7 0 12 + 1)] m7 (fun y10 m9 => (y10 = 0 ∨ y10 = 1) ∧ (y10 = 0 ∨ y10 = 1) ∧ P y10 m9) := by
    intro hr
    refine ⟨by omega, by omega, fun m7 e7 => ?_⟩
    exact M_goes0 (fun m' k => ⟨Or.inl rfl, hN hr m' (Kp.tr (by rw [e7]; exact kq1 (by omega)) k)⟩)
  rw [h1]
  refine ⟨⟨by omega, by omega⟩, fun a => ⟨fun b => ?_, fun b => ?_⟩, fun a => ⟨⟨by omega, by omega⟩, fun b => ?_, fun b => ?_⟩⟩
  · refine M_within ⟨by omega, by omega⟩ ⟨by decide, by decide⟩ ⟨by decide, by decide⟩ (fun d => good ?_) (fun d => bad ?_)
    · rw [rT_6 (by omega), if_pos (by omega)]
    · rw [rT_6 (by omega), if_neg (by omega)]
  · refine M_within ⟨by omega, by omega⟩ ⟨by decide, by decide⟩ ⟨by decide, by decide⟩ (fun d => good ?_) (fun d => bad ?_)
    · rw [rT_4 (by omega), if_pos (by omega)]
    · rw [rT_4 (by omega), if_neg (by omega)]
  · exact bad (by rw [rT_3 (by omega), if_neg (by omega)])
  · exact good (by rw [rT_3 (by omega), if_pos (by omega)])
theorem M_tAge {m : MS} {q : QQ} {c : Int} (hq : RepQ q m) (hn : 1 ≤ qN q ∧ qN q ≤ 18) (hs : qS q = 8 ∨ qS q = 9 ∨ (qS q = 11 ∧ c ≠ 59)) (hk : qK q (qN q - 1) = 0 ∨ qK q (qN q - 1) = 1 ∨ qK q (qN q - 1) = 2) (ha : -1 ≤ qA q (qN q - 1) ∧ qA q (qN q - 1) ≤ 99) (rc : 0 ≤ c ∧ c ≤ 1000) (hS : ∀ q', rT q c = some q' → ∀ m', RepQ q' m' → Kp SQ m m' → P 1 m') (hN : rT q c = none → ∀ m', Kp SQ m m' → P 0 m') : MMi mX10_takesAge [vr 0, vi c, vi ((qN q - 1 : Nat) : Int)] m P := by
  have h1 := hq.1
  obtain ⟨y1, y2, y3, y4, y5⟩ := hq.2.2 (qN q - 1) (by omega)
  refine uX10_takesAge m _ _ ?_
  simp only [Int.toNat_natCast]
  rw [h1, y3]
  refine ⟨⟨by omega, by omega⟩, fun a => ⟨by omega, by omega, ?_⟩, fun a => ⟨by omega, by omega, fun m1 e1 => ?_⟩⟩
  · have hr : rT q c = if (48 ≤ c ∧ c ≤ 57) ∧ (qK q (qN q - 1) = 2 ∨ 14 ≤ 10 * qA q (qN q - 1) + (c - 48)) then some (qAg q 10 (10 * qA q (qN q - 1) + (c - 48))) else none := by
      rcases hs with h | h | h
      · exact absurd (show ((qS q : Nat) : Int) = 8 by omega) a
      · exact rT_9 h
      · rw [rT_10 (by omega), if_neg h.2, if_pos h.1]
    rw [hr] at hS hN
    have good : ∀ m14 : MS, ((48 ≤ c ∧ c ≤ 57) ∧ (qK q (qN q - 1) = 2 ∨ 14 ≤ 10 * qA q (qN q - 1) + (c - 48))) → m14 = mI m 11 (qN q - 1) (10 * qA q (qN q - 1) + (c - 48)) → MMi mX10_goes [vr 0, vi 1, vi 10] m14 (fun y17 m16 => (y17 = 0 ∨ y17 = 1) ∧ P y17 m16) := by
      intro m14 hc e
      subst e
      exact M_goes1 (hS _ (if_pos hc) _ (RepQ_ag hq 10) (kq2 (by omega)))
    have bad : ∀ (m14 : MS) (x : Int), ¬ ((48 ≤ c ∧ c ≤ 57) ∧ (qK q (qN q - 1) = 2 ∨ 14 ≤ 10 * qA q (qN q - 1) + (c - 48))) → m14 = mI m 11 (qN q - 1) x → MMi mX10_goes [vr 0, vi 0, vi 10] m14 (fun y17 m16 => (y17 = 0 ∨ y17 = 1) ∧ P y17 m16) := by
      intro m14 x hc e
      exact M_goes0 (fun m' k => hN (if_neg hc) m' (Kp.tr (by rw [e]; exact kq1 (by omega)) k))
    refine M_within ⟨by omega, by omega⟩ ⟨by decide, by decide⟩ ⟨by decide, by decide⟩ (fun d => ⟨⟨by decide, by decide⟩, fun z => absurd z (by decide), fun _ => ?_⟩) (fun d => ⟨rng_0, fun _ m2 e2 => bad m2 _ (by omega) e2, fun z => absurd rfl z⟩)
    rw [y1]
    exact ⟨⟨by omega, by omega⟩, fun f m2 e2 => good m2 (by omega) e2, fun f => ⟨⟨by omega, by omega⟩, fun g m2 e2 => bad m2 _ (by omega) e2, fun g m2 e2 => good m2 (by omega) e2⟩⟩
  · have h8 : qS q = 8 := by omega
    rw [rT_8 h8] at hS hN
    have y1' : m1 9 (qN q - 1) = qK q (qN q - 1) := by rw [e1, mI_ne (by omega)]; exact y1
    rw [y1']
    have good : ∀ (s : Nat), (∀ m', RepQ (qAg q s (c - 48)) m' → Kp SQ m m' → P 1 m') → MMi mX10_goes [vr 0, vi 1, vi (s : Int)] m1 (fun y17 m16 => (y17 = 0 ∨ y17 = 1) ∧ P y17 m16) := by
      intro s hh
      rw [e1]
      exact M_goes1 (hh _ (RepQ_ag hq s) (kq2 (by omega)))
    have bad : ∀ (s : Int), (∀ m', Kp SQ m m' → P 0 m') → MMi mX10_goes [vr 0, vi 0, vi s] m1 (fun y17 m16 => (y17 = 0 ∨ y17 = 1) ∧ P y17 m16) := by
      intro s hh
      exact M_goes0 (fun m' k => hh m' (Kp.tr (by rw [e1]; exact kq1 (by omega)) k))
    refine ⟨⟨by omega, by omega⟩, fun b => ?_, fun b => ?_⟩
    · rw [if_neg b] at hS hN
      refine uX10_takesAge_36 m1 _ _ ⟨rng_0, fun _ => ?_, fun z => absurd rfl z⟩
      refine M_within ⟨by omega, by omega⟩ ⟨by decide, by decide⟩ ⟨by decide, by decide⟩ (fun d => ⟨fun _ => ⟨⟨by omega, by omega⟩, fun f => ?_, fun f => ?_⟩, fun z => absurd rfl z⟩) (fun d => ⟨fun _ => ⟨⟨by omega, by omega⟩, fun f => ?_, fun f => ?_⟩, fun z => absurd rfl z⟩)
      · exact good 11 (hS _ (by rw [if_pos (by omega), if_neg (by omega)]))
      · exact good 10 (hS _ (by rw [if_pos (by omega), if_pos (by omega)]))
      · exact bad _ (hN (by rw [if_neg (by omega)]))
      · exact bad _ (hN (by rw [if_neg (by omega)]))
    · rw [if_pos b] at hS hN
      refine uX10_takesAge_36 m1 _ _ ⟨⟨by decide, by decide⟩, fun z => absurd z (by decide), fun _ => ?_⟩
      refine M_within ⟨by omega, by omega⟩ ⟨by decide, by decide⟩ ⟨by decide, by decide⟩ (fun d => ⟨fun z => absurd z (by decide), fun _ => ?_⟩) (fun d => ⟨fun z => absurd z (by decide), fun _ => ?_⟩)
      · exact good 9 (hS _ (by rw [if_pos (by omega)]))
      · exact bad _ (hN (by rw [if_neg (by omega)]))
theorem M_tEnd {m : MS} {q : QQ} {c : Int} (hq : RepQ q m) (hn : 1 ≤ qN q ∧ qN q ≤ 18) (hs : qS q = 7 ∨ qS q = 10 ∨ qS q = 11) (hk : qK q (qN q - 1) = 0 ∨ qK q (qN q - 1) = 1 ∨ qK q (qN q - 1) = 2) (ha : -1 ≤ qA q (qN q - 1) ∧ qA q (qN q - 1) ≤ 99) (rc : 0 ≤ c ∧ c ≤ 1000) (hS : ∀ q', rT q c = some q' → ∀ m', RepQ q' m' → Kp SQ m m' → P 1 m') (hN : rT q c = none → ∀ m', Kp SQ m m' → P 0 m') : MMi mX10_takesEnd [vr 0, vi c, vi ((qN q - 1 : Nat) : Int)] m P := by
  have h1 := hq.1
  obtain ⟨y1, y2, y3, y4, y5⟩ := hq.2.2 (qN q - 1) (by omega)
  have k12 : ∀ s : Int, Kp SQ m (mI m 0 12 s) := fun s => Kp.st (SQ_of (by omega))
  refine uX10_takesEnd m _ _ ?_
  simp only [Int.toNat_natCast]
  rw [h1, y1]
  refine ⟨⟨by omega, by omega⟩, fun a => ⟨⟨by omega, by omega⟩, fun b => ⟨fun d => ?_, fun d => ?_⟩, fun b => ⟨fun d => ?_, fun d => ⟨by omega, by omega, ⟨by omega, by omega⟩, fun f => ?_, fun f => ?_⟩⟩⟩, fun a => ?_⟩
  · exact hN (by rw [rT_10 (by omega), if_neg a, if_neg (by omega)]) m Kp.rf
  · refine M_tAge hq hn (by omega) hk ha rc (fun q' e m' r k => ?_) (fun e m' k => ?_)
    · exact ⟨⟨by decide, by decide⟩, fun z => absurd z (by decide), fun _ => hS q' e m' r k⟩
    · exact ⟨rng_0, fun _ => hN e m' k, fun z => absurd rfl z⟩
  · exact M_goes0 (fun m' k => hN (by rw [rT_7 (by omega), if_neg a, if_neg (fun z => d z.1)]) m' k)
  · exact M_goes0 (fun m' k => hN (by rw [rT_7 (by omega), if_neg a, if_neg (fun z => z.2 f)]) m' k)
  · exact M_goes1 (hS (qTo q 8) (by rw [rT_7 (by omega), if_neg a, if_pos ⟨d, f⟩]) _ (RepQ_to hq 8) (k12 _))
  · refine M_goes1 (hS (qTo q 0) ?_ _ (RepQ_to hq 0) (k12 _))
    rcases hs with h | h
    · rw [rT_7 h, if_pos a]
    · rw [rT_10 (by omega), if_pos a]
theorem M_takes {m : MS} {q : QQ} {c : Int} {p : Nat} (hq : RepQ q m) (hw : WFQ p q) (hp : p < 60) (rc : 0 ≤ c ∧ c ≤ 1000) (hS : ∀ q', rT q c = some q' → ∀ m', RepQ q' m' → Kp SQ m m' → P 1 m') (hN : rT q c = none → ∀ m', Kp SQ m m' → P 0 m') : MMi mX10_takes [vr 0, vi c] m P := by
  obtain ⟨w1, w2, w3, w4, w5, w6⟩ := hw
  have h1 := hq.1
  have h2 := hq.2.1
  refine uX10_takes m c ?_
  rw [h1, h2]
  have hn : qS q ≠ 0 → 1 ≤ qN q ∧ qN q ≤ 18 := fun z => by have := w3 z; omega
  have hat : qS q ≠ 0 → (qN q : Int) - 1 = ((qN q - 1 : Nat) : Int) := fun z => by have := hn z; omega
  have S' : ∀ q', rT q c = some q' → ∀ m', RepQ q' m' → Kp SQ m m' → ((1 : Int) = 0 ∨ (1 : Int) = 1) ∧ P 1 m' := fun q' e m' r k => ⟨Or.inr rfl, hS q' e m' r k⟩
  have N' : rT q c = none → ∀ m', Kp SQ m m' → ((0 : Int) = 0 ∨ (0 : Int) = 1) ∧ P 0 m' := fun e m' k => ⟨Or.inl rfl, hN e m' k⟩
  have hl : ∀ i, i < qN q → qL q i ≤ 8 := fun i hi => (w4 i hi).2.1
  have hb : qS q ≠ 0 → WQb q (qN q - 1) := fun z => w4 _ (by have := hn z; omega)
  have nm : (qS q = 1 ∨ qS q = 2) → MMi mX10_takesName [vr 0, vi c, vi ((qN q : Int) - 1)] m (fun y m' => (y = 0 ∨ y = 1) ∧ P y m') := by
    intro hs
    rw [hat (by omega)]
    exact M_tName (P := fun y m' => (y = 0 ∨ y = 1) ∧ P y m') hq (hn (by omega)) hl hs ⟨by omega, by omega⟩ S' N'
  have yr : (3 ≤ qS q ∧ qS q ≤ 6) → MMi mX10_takesYear [vr 0, vi c, vi ((qN q : Int) - 1)] m (fun y m' => (y = 0 ∨ y = 1) ∧ P y m') := by
    intro hs
    rw [hat (by omega)]
    exact M_tYear hq (hn (by omega)) hs rc hS hN
  have ag : (qS q = 8 ∨ qS q = 9) → MMi mX10_takesAge [vr 0, vi c, vi ((qN q : Int) - 1)] m (fun y m' => (y = 0 ∨ y = 1) ∧ P y m') := by
    intro hs
    have := hb (by omega)
    rw [hat (by omega)]
    exact M_tAge (P := fun y m' => (y = 0 ∨ y = 1) ∧ P y m') hq (hn (by omega)) (by omega) this.1 this.2.2.2 rc S' N'
  have en : (qS q = 7 ∨ qS q = 10 ∨ qS q = 11) → MMi mX10_takesEnd [vr 0, vi c, vi ((qN q : Int) - 1)] m (fun y m' => (y = 0 ∨ y = 1) ∧ P y m') := by
    intro hs
    have := hb (by omega)
    rw [hat (by omega)]
    exact M_tEnd (P := fun y m' => (y = 0 ∨ y = 1) ∧ P y m') hq (hn (by omega)) (by omega) this.1 this.2.2.2 rc S' N'
  refine ⟨⟨by omega, by omega⟩, fun z => en (by omega), fun z => ?_, fun z => nm (by omega), fun z => nm (by omega), fun z => yr (by omega), fun z => yr (by omega), fun z => yr (by omega), fun z => yr (by omega), fun z => en (by omega), fun z => ag (by omega), fun z => ag (by omega)⟩
  have s0 : qS q = 0 := by omega
  have hn0 : qN q < 18 := by have := w2 s0; omega
  rw [rT_0 s0] at S' N'
  refine uX10_takesKind m c ⟨⟨by omega, by omega⟩, fun a => ?_, fun a => ⟨fun b => ?_, fun b => ⟨fun d => ?_, fun d => ?_⟩⟩⟩
  · exact M_tKind18 (P := fun y m' => (y = 0 ∨ y = 1) ∧ P y m') hq hn0 ⟨by omega, by omega⟩ (Or.inl ⟨a, rfl⟩) (S' _ (by rw [if_pos a]))
  · exact M_tKind18 (P := fun y m' => (y = 0 ∨ y = 1) ∧ P y m') hq hn0 ⟨by omega, by omega⟩ (Or.inr (Or.inl ⟨b, rfl⟩)) (S' _ (by rw [if_neg a, if_pos b]))
  · exact M_goes0 (N' (by rw [if_neg a, if_neg b, if_neg d]))
  · exact M_tKind18 (P := fun y m' => (y = 0 ∨ y = 1) ∧ P y m') hq hn0 ⟨by omega, by omega⟩ (Or.inr (Or.inr ⟨d, rfl⟩)) (S' _ (by rw [if_neg a, if_neg b, if_pos d]))
end MQ

/-! THE FIRST STATE: what the constructors leave, in the worlds' form -/
theorem arrV_cg {cI : ClassId} {N : Nat} {f g : Nat → Value} (h : ∀ j, j < N → f j = g j) : arrV cI N f = arrV cI N g := by
  unfold arrV
  exact congrArg (fun s => ({ cls := cI, slots := s, vm := .none } : Cell)) (congrArg (Array.ofFn (n := N)) (funext fun j => h j.val j.isLt))
theorem SIM.cg {D : va_G} {cy : Nat → ClassId} {ad : Nat → Nat} {h h' : PH} {H : Heap} (e1 : h'.1 = h.1) (eI : h'.2.1 = h.2.1) (hN : ∀ i t n : Nat, h.1[i]? = some (t, n) → t < 11 → ∀ q, vwCl[t]? = some q → q.2.2 = n) (hr : ∀ i t n : Nat, h.1[i]? = some (t, n) → t ≠ 20 → ∀ k, k < n → h.2.2 i k = h'.2.2 i k) (hS : SIM D cy ad h H) : SIM D cy ad h' H := by
  intro i
  have h1 := hS i
  unfold px_at at h1 ⊢
  rw [e1]
  revert h1
  cases hT : h.1[i]? with
  | none => intro _; trivial
  | some q =>
    obtain ⟨t, n⟩ := q
    intro h1
    dsimp only at h1 ⊢
    split at h1
    next ht =>
      rw [if_pos ht]
      obtain ⟨q, f1, f2⟩ := h1
      have hq := hN i t n hT ht q f1
      refine ⟨q, f1, f2.to (fun k hk => ?_)⟩
      rw [eI, hr i t n hT (by omega) k (by omega)]
    next ht =>
      rw [if_neg ht]
      split at h1
      next h20 =>
        rw [if_pos h20, h1, eI]
      next h20 =>
        rw [if_neg h20, h1]
        exact congrArg some (arrV_cg (fun j hj => by rw [hr i t n hT h20 j hj]))
def okRef (T : List (Nat × Nat)) (r r' : Nat → Nat → Option Nat) : Bool := (List.range T.length).all fun i => match T[i]? with
  | none => true
  | some (t, n) => t == 20 || (List.range n).all fun k => decide (r i k = r' i k)
theorem okRef_spec {T : List (Nat × Nat)} {r r' : Nat → Nat → Option Nat} (h : okRef T r r' = true) {i t n k : Nat} (hT : T[i]? = some (t, n)) (ht : t ≠ 20) (hk : k < n) : r i k = r' i k := by
  have h1 := List.all_eq_true.mp h i (List.mem_range.mpr (List.getElem?_eq_some_iff.mp hT).1)
  rw [hT] at h1
  dsimp only at h1
  rcases (Bool.or_eq_true _ _).mp h1 with z | z
  · exact absurd (eq_of_beq z) ht
  · exact of_decide_eq_true (List.all_eq_true.mp z k (List.mem_range.mpr hk))
def okFld (T : List (Nat × Nat)) : Bool := (List.range T.length).all fun i => match T[i]? with
  | none => true
  | some (t, n) => !decide (t < 11) || (vwCl[t]?).map (fun q => q.2.2) == some n
theorem okFld_spec {T : List (Nat × Nat)} (h : okFld T = true) {i t n : Nat} (hT : T[i]? = some (t, n)) (ht : t < 11) (q : vw_C) (hq : vwCl[t]? = some q) : q.2.2 = n := by
  have h1 := List.all_eq_true.mp h i (List.mem_range.mpr (List.getElem?_eq_some_iff.mp hT).1)
  rw [hT] at h1
  dsimp only at h1
  rcases (Bool.or_eq_true _ _).mp h1 with z | z
  · rw [decide_eq_true ht] at z; cases z
  · have z := eq_of_beq z
    rw [hq] at z
    exact Option.some.inj z
abbrev fX : PH := fX9 (z0 9 12) 1 0
def g0X : GS := (fX.2.1, fun k => k, fun k => 6 + k)
def m0M : MS := fX10.2.1
theorem fldX : okFld TX = true := by decide +kernel
theorem fldM : okFld TM = true := by decide +kernel
theorem fX_T : fX.1 = TX := by decide +kernel
theorem fM_T : fX10.1 = TM := by decide +kernel
theorem fX_R : okRef TX fX.2.2 (hX g0X).2.2 = true := by decide +kernel
theorem fM_R : okRef TM fX10.2.2 (hM m0M).2.2 = true := by decide +kernel
theorem SIM.cgT {D : va_G} {cy : Nat → ClassId} {ad : Nat → Nat} {h : PH} {H : Heap} {T : List (Nat × Nat)} {x : Nat → Nat → Int} {r' : Nat → Nat → Option Nat} (eT : h.1 = T) (eI : x = h.2.1) (hf : okFld T = true) (hr : okRef T h.2.2 r' = true) (hS : SIM D cy ad h H) : SIM D cy ad (T, x, r') H := by
  subst eT
  subst eI
  exact SIM.cg (h := h) (h' := (h.1, h.2.1, r')) rfl rfl (fun i t n hT ht q hq => okFld_spec hf hT ht q hq) (fun i t n hT ht k hk => okRef_spec hr hT ht hk) hS
theorem simX0 {D : va_G} {cy : Nat → ClassId} {ad : Nat → Nat} {H : Heap} {h : PH} (e : h = fX) (hS : SIM D cy ad h H) : SIM D cy ad (hX g0X) H := by
  have e1 : h.1 = TX := by rw [e]; exact fX_T
  have e2 : okRef TX h.2.2 (hX g0X).2.2 = true := by rw [e]; exact fX_R
  have e3 : g0X.1 = h.2.1 := by rw [e]; rfl
  clear e
  exact SIM.cgT e1 e3 fldX e2 hS
theorem simM0 {D : va_G} {cy : Nat → ClassId} {ad : Nat → Nat} {H : Heap} {h : PH} (e : h = fX10) (hS : SIM D cy ad h H) : SIM D cy ad (hM m0M) H := by
  have e1 : h.1 = TM := by rw [e]; exact fM_T
  have e2 : okRef TM h.2.2 (hM m0M).2.2 = true := by rw [e]; exact fM_R
  have e3 : m0M = h.2.1 := by rw [e]; rfl
  clear e
  exact SIM.cgT e1 e3 fldM e2 hS
def E0 : EE := (0, fun _ => 0, fun _ => 0, fun _ => 0, fun _ => 0, fun _ _ => 0, fun _ _ => false, fun k => if k = 0 then 600 else if k = 1 then 1 else 40)
def A0 : AA := (0, fun _ => 0, E0, 0, 0)
theorem wfa0 : WFA A0 := by
  refine ⟨by decide, fun k hk => absurd hk (Nat.not_lt_zero k), ⟨by decide, fun i hi => absurd hi (Nat.not_lt_zero i), fun _ _ => rfl, fun _ => rfl, ?_, ?_, ?_⟩, ?_⟩
  · exact ⟨by decide, by decide⟩
  · exact ⟨by decide, by decide⟩
  · exact ⟨by decide, by decide⟩
  · exact ⟨by decide, by decide, by decide⟩
theorem numX : g0X.1 1 1 = 0 ∧ g0X.1 8 2 = 0 ∧ (∀ s, s < 18 → g0X.1 (11 + 3 * s) 0 = (s : Int)) ∧ (g0X.1 10 0 = 0 ∧ g0X.1 10 1 = 0 ∧ g0X.1 10 2 = 0) ∧ (g0X.1 0 7 = 600 ∧ g0X.1 0 8 = 1 ∧ g0X.1 0 9 = 40) ∧ g0X.1 0 10 = 0 ∧ g0X.1 8 3 = 0 ∧ g0X.1 0 11 = 1 := by decide +kernel
theorem numM : m0M 0 0 = 0 ∧ m0M 0 2 = 0 ∧ (m0M 8 0 = 600 ∧ m0M 8 1 = 1 ∧ m0M 8 2 = 40) ∧ m0M 0 10 = 0 ∧ m0M 0 11 = 0 := by decide +kernel
theorem repX0 : RepX A0 g0X := by
  obtain ⟨h1, h2, h3, ⟨h4, h5, h6⟩, ⟨h7, h8, h9⟩, h10, h11, h12⟩ := numX
  exact ⟨⟨h1, fun k hk => absurd hk (Nat.not_lt_zero k), ⟨h2, fun i hi => hi, fun i j _ _ e => e, h3, fun i hi => absurd hi (Nat.not_lt_zero i), fun i j hi => absurd hi (Nat.not_lt_zero i), h4, h5, h6⟩, ⟨h7, h8, h9⟩, h10, h11, Or.inl ⟨rfl, rfl⟩⟩, Or.inl h12⟩
theorem repM0 : RepA A0 m0M := by
  obtain ⟨h1, h2, ⟨h3, h4, h5⟩, h6, h7⟩ := numM
  exact ⟨h1, fun k hk => absurd hk (Nat.not_lt_zero k), ⟨h2, fun i hi => absurd hi (Nat.not_lt_zero i), h3, h4, h5⟩, h6, h7⟩

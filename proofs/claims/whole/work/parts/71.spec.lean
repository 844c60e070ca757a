/-! EACH CALL: what it answers (z..), what it leaves (n..) -/
def setE (A : AA) (E : EE) : AA := (pN A, pC A, E, pR A, pS A)
def zLet (A : AA) (c : Int) : Int := if 32 ≤ c ∧ c ≤ 126 then (if pN A = 60 then -104 else ((pN A + 1 : Nat) : Int)) else -102
def nLet (A : AA) (c : Int) : AA := if (32 ≤ c ∧ c ≤ 126) ∧ pN A ≠ 60 then aLet A c else A
def nEnt (A : AA) : AA := if 0 ≤ sEn A then aEnt A else A
def nAge (A : AA) (e a : Int) : AA := if inE (pE A) e = true ∧ okAge (eK (pE A) e.toNat) a = true then setE A (eAge (pE A) e.toNat a) else A
def zBnd (A : AA) (w v : Int) : Int := if okBnd w v = true then eB (pE A) w.toNat else -102
def nBnd (A : AA) (w v : Int) : AA := if okBnd w v = true then setE A (eBnd (pE A) w.toNat v) else A
abbrev noTwo (E : EE) (x y : Int) : Prop := inE E x = false ∨ inE E y = false ∨ x = y
def zPart (A : AA) (x y : Int) : Int := if noTwo (pE A) x y then -101 else bi (!eP (pE A) x.toNat y.toNat)
def nPart (A : AA) (x y : Int) : AA := if noTwo (pE A) x y then A else setE A (ePart (pE A) x.toNat y.toNat)
def aStr (A : AA) (e : Nat) : AA := (pN A, pC A, eStr (pE A) e, pR A, pS A + 1)
def zStr (A : AA) (e : Int) : Int := if inE (pE A) e = true then ((eN (pE A) - 1 : Nat) : Int) else -101
def nStr (A : AA) (e : Int) : AA := if inE (pE A) e = true then aStr A e.toNat else A
/-! what is left is again well formed -/
theorem inE_x {E : EE} {x : Int} (h : inE E x = true) : ∃ i : Nat, x = (i : Int) ∧ i < eN E := by
  unfold inE at h
  rw [Bool.and_eq_true, decide_eq_true_eq, decide_eq_true_eq] at h
  exact ⟨x.toNat, by omega, by omega⟩
theorem WFA_let {A : AA} {c : Int} (hW : WFA A) : WFA (nLet A c) := by
  unfold nLet
  split
  next h =>
    obtain ⟨h1, h2, h3⟩ := hW
    refine ⟨?_, fun k hk => ?_, h3⟩
    · show pN A + 1 ≤ 60
      omega
    · have hk : k < pN A + 1 := hk
      show 32 ≤ fU (pC A) (pN A) c k ∧ fU (pC A) (pN A) c k ≤ 126
      by_cases q : k = pN A
      · rw [q, fU_eq]; exact h.1
      · rw [fU_ne q]; exact h2 k (by omega)
  · exact hW
theorem WFA_blk {A : AA} (hW : WFA A) : WFA (aBlk A) := ⟨Nat.zero_le _, fun k hk => absurd hk (Nat.not_lt_zero _), hW.2.2⟩
theorem sEn_in {A : AA} (h : 0 ≤ sEn A) : (sRd A).1 = pN A ∧ qEnd (sRd A).2 ∧ sRm (pE A) (sRd A).2 = true ∧ sEn A = (qN (sRd A).2 : Int) := by
  unfold sEn at h ⊢
  by_cases c : (sRd A).1 = pN A ∧ qEnd (sRd A).2
  · rw [if_pos c] at h ⊢
    by_cases d : sRm (pE A) (sRd A).2 = true
    · rw [if_pos d]; exact ⟨c.1, c.2, d, rfl⟩
    · rw [if_neg d] at h; omega
  · rw [if_neg c] at h; omega
theorem WFA_ent {A : AA} (hW : WFA A) : WFA (nEnt A) := by
  unfold nEnt
  split
  next h =>
    obtain ⟨c1, c2, c3, -⟩ := sEn_in h
    obtain ⟨e1, e2⟩ := eAdd_w hW.2.2.1 (sRd_w A) c2 c3
    exact ⟨Nat.zero_le _, fun k hk => absurd hk (Nat.not_lt_zero _), e1, e2⟩
  · exact hW
theorem W7_cg {E F : EE} (hn : eN F = eN E) (hk : ∀ i, eK F i = eK E i) (h : W7 E) : W7 F := by
  unfold W7
  rw [hn, cK_cg 0 hk, cK_cg 1 hk, cK_cg 2 hk]
  exact h
theorem WFA_age {A : AA} {e a : Int} (hW : WFA A) : WFA (nAge A e a) := by
  unfold nAge
  split
  next h =>
    obtain ⟨h1, h2, ⟨w1, w2, w3⟩, h7⟩ := hW
    refine ⟨h1, h2, ⟨w1, fun i hi => ?_, w3⟩, ?_⟩
    · obtain ⟨v1, v2, v3, v4⟩ := w2 i hi
      refine ⟨v1, v2, ?_, v4⟩
      show -1 ≤ fU (eA (pE A)) e.toNat a i ∧ fU (eA (pE A)) e.toNat a i ≤ 99
      by_cases c : i = e.toNat
      · rw [c, fU_eq]
        have := h.2
        unfold okAge at this
        simp only [Bool.or_eq_true, Bool.and_eq_true, decide_eq_true_eq] at this
        omega
      · rw [fU_ne c]; exact v3
    · exact W7_cg (E := pE A) rfl (fun _ => rfl) h7
  · exact hW
theorem WFA_bnd {A : AA} {w v : Int} (hW : WFA A) : WFA (nBnd A w v) := by
  unfold nBnd
  split
  next h =>
    obtain ⟨h1, h2, ⟨w1, w2, w3, w4, w5, w6, w7⟩, h7⟩ := hW
    unfold okBnd at h
    simp only [Bool.or_eq_true, Bool.and_eq_true, decide_eq_true_eq] at h
    refine ⟨h1, h2, ⟨w1, w2, w3, w4, ?_, ?_, ?_⟩, W7_cg (E := pE A) rfl (fun _ => rfl) h7⟩
    · show 0 ≤ fU (eB (pE A)) w.toNat v 0 ∧ fU (eB (pE A)) w.toNat v 0 ≤ 1000
      by_cases c : 0 = w.toNat
      · rw [← c, fU_eq]; omega
      · rw [fU_ne c]; exact w5
    · show 0 ≤ fU (eB (pE A)) w.toNat v 1 ∧ fU (eB (pE A)) w.toNat v 1 ≤ 5
      by_cases c : 1 = w.toNat
      · rw [← c, fU_eq]; omega
      · rw [fU_ne c]; exact w6
    · show 0 ≤ fU (eB (pE A)) w.toNat v 2 ∧ fU (eB (pE A)) w.toNat v 2 ≤ 500
      by_cases c : 2 = w.toNat
      · rw [← c, fU_eq]; omega
      · rw [fU_ne c]; exact w7
  · exact hW
theorem WFA_part {A : AA} {x y : Int} (hW : WFA A) : WFA (nPart A x y) := by
  unfold nPart
  split
  · exact hW
  next h =>
    obtain ⟨h1, h2, h3, h7⟩ := hW
    have hx : inE (pE A) x = true := by
      cases q : inE (pE A) x
      · exact absurd (Or.inl q) h
      · rfl
    have hy : inE (pE A) y = true := by
      cases q : inE (pE A) y
      · exact absurd (Or.inr (Or.inl q)) h
      · rfl
    obtain ⟨i, hi, hiE⟩ := inE_x hx
    obtain ⟨j, hj, hjE⟩ := inE_x hy
    exact ⟨h1, h2, ePart_w h3 (fun z => h (Or.inr (Or.inr (by omega)))), W7_cg (E := pE A) rfl (fun _ => rfl) h7⟩
theorem WFA_str {A : AA} {e : Int} (hW : WFA A) : WFA (nStr A e) := by
  unfold nStr
  split
  next h =>
    obtain ⟨i, hi, hiE⟩ := inE_x h
    obtain ⟨h1, h2, h3, h7⟩ := hW
    exact ⟨h1, h2, eStr_w h3, eStr_7 h7 (by omega)⟩
  · exact hW
/-! the reference does so -/
section MSP
variable {P : Int → MS → Prop} {A : AA} {m : MS}
theorem RepA_E {E' : EE} {m' : MS} {S : Nat → Nat → Prop} (hR : RepA A m) (hk : Kp S m m') (hS : ∀ a k, (a = 1 ∨ (a = 0 ∧ (k = 0 ∨ k = 10 ∨ k = 11))) → ¬ S a k) (hE : RepM E' m') : RepA (setE A E') m' := by
  obtain ⟨h1, h2, h3, h4, h5⟩ := hR
  exact ⟨by rw [hk 0 0 (hS _ _ (by omega))]; exact h1, fun k hl => by rw [hk 1 k (hS _ _ (by omega))]; exact h2 k hl, hE, by rw [hk 0 10 (hS _ _ (by omega))]; exact h4, by rw [hk 0 11 (hS _ _ (by omega))]; exact h5⟩
theorem N_letter {c : Int} (hR : RepA A m) (hW : WFA A) (rc : rng c) (hP : ∀ m', RepA (nLet A c) m' → P (zLet A c) m') : MMi mX10_letter [vr 0, vi c] m P := by
  unfold nLet zLet at hP
  refine M_letter hR hW rc (fun h => ?_) (fun h h2 => ?_) (fun h h2 m' hR' => ?_)
  · rw [if_neg h, if_neg (fun z => h z.1)] at hP; exact hP m hR
  · rw [if_pos h, if_pos h2, if_neg (fun z => z.2 h2)] at hP; exact hP m hR
  · rw [if_pos h, if_neg h2, if_pos ⟨h, h2⟩] at hP; exact hP m' hR'
theorem N_enter (hR : RepA A m) (hW : WFA A) (hP : ∀ m', RepA (nEnt A) m' → P (sEn A) m') : MMi mX10_enter [vr 0] m P := M_enter hR hW hP
theorem N_age {e a : Int} (hR : RepA A m) (hW : WFA A) (re : rng e) (ra : rng a) (hP : ∀ m', RepA (nAge A e a) m' → P (zAge (pE A) e a) m') : MMi mX10_age [vr 0, vi e, vi a] m P := by
  refine M_age1 hR.2.2.1 hW.2.2.1 re ra (fun h => ?_) (fun i hi hiE hok m' hR' hk => ?_)
  · refine hP m ?_
    unfold nAge
    rw [if_neg (fun z => ?_)]
    · exact hR
    · obtain ⟨i, hi, hiE⟩ := inE_x z.1
      have hw := (hW.2.2.1.2.1 i hiE).2.2.1
      unfold zAge at h
      rw [if_neg (by rw [z.1]; decide), if_pos z.2, hi, Int.toNat_natCast] at h
      omega
  · subst hi
    unfold nAge zAge at hP
    rw [if_neg (show ¬ inE (pE A) (i : Int) = false by rw [inE_t hiE]; decide)] at hP
    simp only [Int.toNat_natCast] at hP
    rw [if_pos (show inE (pE A) (i : Int) = true ∧ okAge (eK (pE A) i) a = true from ⟨inE_t hiE, hok⟩), if_pos hok] at hP
    exact hP m' (RepA_E hR hk (fun a k h z => by omega) hR')
theorem N_bound {w v : Int} (hR : RepA A m) (rw_ : rng w) (rv : rng v) (hP : ∀ m', RepA (nBnd A w v) m' → P (zBnd A w v) m') : MMi mX10_bound [vr 0, vi w, vi v] m P := by
  unfold nBnd zBnd at hP
  refine M_bound1 hR.2.2.1 rw_ rv (fun h => ?_) (fun i hi hi3 hok m' hR' hk => ?_)
  · rw [h, if_neg (by decide), if_neg (by decide)] at hP; exact hP m hR
  · subst hi
    rw [if_pos hok, if_pos hok, Int.toNat_natCast] at hP
    exact hP m' (RepA_E hR hk (fun a k h z => by omega) hR')
theorem N_part {x y : Int} (hR : RepA A m) (hW : WFA A) (rx : rng x) (ry : rng y) (hP : ∀ m', RepA (nPart A x y) m' → P (zPart A x y) m') : MMi mX10_part [vr 0, vi x, vi y] m P := by
  unfold nPart zPart at hP
  refine M_part1 hR.2.2.1 hW.2.2.1 rx ry (fun h => ?_) (fun i j hi hj hiE hjE hn m' hR' hk => ?_)
  · rw [if_pos h, if_pos h] at hP; exact hP m hR
  · subst hi hj
    have hc : ¬ noTwo (pE A) (i : Int) (j : Int) := by
      unfold noTwo
      rw [inE_t hiE, inE_t hjE]
      rintro (h | h | h)
      · cases h
      · cases h
      · omega
    rw [if_neg hc, if_neg hc] at hP
    simp only [Int.toNat_natCast] at hP
    exact hP m' (RepA_E hR hk (fun a k h z => by omega) hR')
theorem N_strike {e : Int} (hR : RepA A m) (hW : WFA A) (re : rng e) (hP : ∀ m', RepA (nStr A e) m' → P (zStr A e) m') : MMi mX10_strike [vr 0, vi e] m P := by
  unfold nStr zStr at hP
  refine M_strike1 hR.2.2.1 hW.2.2.1 re (fun h => ?_) (fun i hi hiE m1 m' hR' hk e' => ?_)
  · rw [h, if_neg (by decide), if_neg (by decide)] at hP; exact hP m hR
  · subst hi
    rw [if_pos (inE_t hiE), if_pos (inE_t hiE), Int.toNat_natCast] at hP
    obtain ⟨h1, h2, h3, h4, h5⟩ := hR
    have n0 : ∀ a k, (a = 1 ∨ (a = 0 ∧ (k = 0 ∨ k = 10))) → ¬ Sst a k := fun a k h z => by unfold Sst at z; omega
    have k2 : Kp (fun a k => a = 0 ∧ k = 11) m1 m' := by rw [e']; exact Kp.st ⟨rfl, rfl⟩
    refine hP m' ⟨?_, fun k hl => ?_, hR'.kp k2 (fun a k hc hs => by unfold core at hc; omega), ?_, ?_⟩
    · rw [k2 0 0 (by omega), hk 0 0 (n0 _ _ (by omega))]; exact h1
    · rw [k2 1 k (by omega), hk 1 k (n0 _ _ (by omega))]; exact h2 k hl
    · rw [k2 0 10 (by omega), hk 0 10 (n0 _ _ (by omega))]; exact h4
    · rw [e', mI_eq, hk 0 11 (fun z => by unfold Sst at z; omega), h5]; rfl
end MSP

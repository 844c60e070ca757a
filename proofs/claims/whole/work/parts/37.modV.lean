/-! the reference's questions -/
def inE (E : EE) (x : Int) : Bool := decide (0 ≤ x) && decide (x < eN E)
def zTwo (E : EE) (a b w : Int) : Int := if inE E a = false ∨ inE E b = false ∨ a = b then -101 else if 0 ≤ w ∧ w ≤ 4 then sTw E a.toNat b.toNat w else -102
def zFits (E : EE) (a : Int) : Int := if inE E a = true then sFs E a.toNat else -101
def zNear (E : EE) (a : Int) : Int := if inE E a = true then sNr E a.toNat (eN E) else -101
def zLives (E : EE) (w : Int) : Int := if 0 ≤ w ∧ w ≤ 5 then sLs E w else -102
def zLife (E : EE) (l w : Int) : Int := if 0 ≤ l ∧ l < vN (sVz E) then (if 0 ≤ w ∧ w ≤ 7 then vLn E (sVz E) l.toNat w else -102) else -101
def zWed (E : EE) (l p : Int) : Int := if 0 ≤ l ∧ l < vN (sVz E) then vP E (sVz E) l.toNat p else -101
def zWorth (E : EE) (e l : Int) : Int := if inE E e = false ∨ eK E e.toNat ≠ 1 ∨ ¬ (0 ≤ l ∧ l < vN (sVf E)) then -101 else if vG E (sVf E) e.toNat l.toNat = true then vA E (sVf E) e.toNat l.toNat else -1
def zMate (E : EE) (e : Int) : Int := if inE E e = false ∨ eK E e.toNat = 1 then -101 else sMt E e.toNat
def zEntry (E : EE) (e w : Int) : Int := if inE E e = false then -101 else if 0 ≤ w ∧ w ≤ 7 then vEt E (sVz E) e.toNat w else -102
def zSign (E : EE) (e p : Int) : Int := if inE E e = true ∧ 0 ≤ p ∧ p < eL E e.toNat then eW E e.toNat p.toNat else -101
def zAs (E : EE) (e k : Int) : Int := if inE E e = false then -101 else if 0 ≤ k ∧ k ≤ 2 then (if eK E e.toNat = k then eY E e.toNat else -1) else -102
theorem inE_t {E : EE} {i : Nat} (h : i < eN E) : inE E (i : Int) = true := by unfold inE; simp; omega
theorem inE_f {E : EE} {x : Int} (h : ¬ (0 ≤ x ∧ x < eN E)) : inE E x = false := by
  unfold inE
  by_cases c : 0 ≤ x
  · rw [show decide (x < (eN E : Int)) = false from decide_eq_false (fun z => h ⟨c, z⟩), Bool.and_false]
  · rw [show decide (0 ≤ x) = false from decide_eq_false c, Bool.false_and]
section MV
variable {P : Int → MS → Prop} {E : EE} {m : MS}
theorem M_isE {x : Int} (hR : RepM E m) (hW : WF E) (rx : rng x) (hT : ∀ i : Nat, x = (i : Int) → i < eN E → P 1 m) (hF : inE E x = false → P 0 m) : MMi mX10_isEntry [vr 0, vi x] m P :=
  M_isEntry hR hW rx hT (fun h => hF (inE_f h))
theorem M_two {a b w : Int} (hR : RepM E m) (hW : WF E) (ra : rng a) (rb : rng b) (rw_ : rng w) (hP : ∀ m', Kp SA m m' → P (zTwo E a b w) m') : MMi mX10_two [vr 0, vi a, vi b, vi w] m P := by
  unfold zTwo at hP
  have h0 := hP m Kp.rf
  refine uX10_two m a b w ?_
  refine M_isE hR hW ra (fun i hi hiE => ⟨⟨by decide, by decide⟩, fun z => absurd z (by decide), fun _ => ?_⟩) (fun f => ⟨rng_0, fun _ => ?_, fun z => absurd rfl z⟩)
  · refine M_isE hR hW rb (fun j hj hjE => ⟨⟨by decide, by decide⟩, fun z => absurd z (by decide), fun _ => ⟨ra, rb, fun c => ?_, fun c => ?_⟩⟩) (fun f => ⟨rng_0, fun _ => ?_, fun z => absurd rfl z⟩)
    · subst hi hj
      have hc : ¬ (inE E (i : Int) = false ∨ inE E (j : Int) = false ∨ (i : Int) = (j : Int)) := by
        rw [inE_t hiE, inE_t hjE]
        rintro (h | h | h)
        · cases h
        · cases h
        · exact c h
      rw [if_neg hc] at hP h0
      refine M_within rw_ rng_0 ⟨by decide, by decide⟩ (fun d => ⟨⟨by decide, by decide⟩, fun z => absurd z (by decide), fun _ => ?_⟩) (fun d => ⟨rng_0, fun _ => ?_, fun z => absurd rfl z⟩)
      · rw [if_pos d, Int.toNat_natCast, Int.toNat_natCast] at hP
        exact M_twoN hR hW hiE hjE rw_ (fun m' _ k => hP m' k.a14)
      · rw [if_neg d] at h0; exact h0
    · rw [if_pos (Or.inr (Or.inr c))] at h0; exact h0
    · rw [if_pos (Or.inr (Or.inl f))] at h0; exact h0
  · rw [if_pos (Or.inl f)] at h0; exact h0
theorem M_fits1 {a : Int} (hR : RepM E m) (hW : WF E) (ra : rng a) (hP : ∀ m', Kp SA m m' → P (zFits E a) m') : MMi mX10_fits [vr 0, vi a] m P := by
  unfold zFits at hP
  refine uX10_fits m a ?_
  refine M_isE hR hW ra (fun i hi hiE => ⟨⟨by decide, by decide⟩, fun z => absurd z (by decide), fun _ => ?_⟩) (fun f => ⟨rng_0, fun _ => ?_, fun z => absurd rfl z⟩)
  · subst hi
    rw [inE_t hiE, if_pos rfl, Int.toNat_natCast] at hP
    exact M_fitsN hR hW hiE (fun m' _ k => hP m' k.a14)
  · rw [f, if_neg (by decide)] at hP; exact hP m Kp.rf
theorem M_near1 {a : Int} (hR : RepM E m) (hW : WF E) (ra : rng a) (hP : ∀ m', Kp SA m m' → P (zNear E a) m') : MMi mX10_nearest [vr 0, vi a] m P := by
  unfold zNear at hP
  refine uX10_nearest m a ?_
  refine M_isE hR hW ra (fun i hi hiE => ⟨⟨by decide, by decide⟩, fun z => absurd z (by decide), fun _ => ?_⟩) (fun f => ⟨rng_0, fun _ => ?_, fun z => absurd rfl z⟩)
  · subst hi
    rw [inE_t hiE, if_pos rfl, Int.toNat_natCast] at hP
    exact M_nearN hR hW hiE (fun m' _ k => hP m' k.a14)
  · rw [f, if_neg (by decide)] at hP; exact hP m Kp.rf
theorem M_lives1 {w : Int} (hR : RepM E m) (hW : WF E) (h7 : W7 E) (rw_ : rng w) (hP : ∀ m', Kp SA m m' → P (zLives E w) m') : MMi mX10_lives [vr 0, vi w] m P := by
  unfold zLives at hP
  refine uX10_lives m w ?_
  refine M_within rw_ rng_0 ⟨by decide, by decide⟩ (fun d => ⟨⟨by decide, by decide⟩, fun z => absurd z (by decide), fun _ => ?_⟩) (fun d => ⟨rng_0, fun _ => ?_, fun z => absurd rfl z⟩)
  · rw [if_pos d] at hP
    exact M_livesNow hR hW h7 d (fun m' _ _ _ k => hP m' k.pa)
  · rw [if_neg d] at hP; exact hP m Kp.rf
end MV

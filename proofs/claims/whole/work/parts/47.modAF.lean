/-! COUNT and DIGEST, as numbers -/
def cPt (E : EE) (i : Nat) : Nat → Nat
  | 0 => 0
  | n + 1 => if eP E i n = true then cPt E i n + 1 else cPt E i n
def tPt (E : EE) : Nat → Nat
  | 0 => 0
  | n + 1 => tPt E n + cPt E n n
theorem cPt_le (E : EE) (i : Nat) : ∀ n, cPt E i n ≤ n := by
  intro n
  induction n with
  | zero => exact Nat.le_refl _
  | succ n ih => unfold cPt; split <;> omega
theorem tPt_le (E : EE) : ∀ n, tPt E n ≤ n * n := by
  intro n
  induction n with
  | zero => exact Nat.le_refl _
  | succ n ih =>
    unfold tPt
    have := cPt_le E n n
    rw [Nat.succ_mul, Nat.mul_succ]
    omega
def zCount (A : AA) (w : Int) : Int := if w = 0 then (eN (pE A) : Int) else if w = 1 ∨ w = 2 ∨ w = 3 then (cK (pE A) (w - 1) (eN (pE A)) : Int) else if w = 4 then (pN A : Int) else if w = 5 then pR A else if w = 6 then pS A else if w = 7 then (tPt (pE A) (eN (pE A)) : Int) else -102
/-- do it n times, with 0, 1, .. -/
def mxN (f : Nat → Int → Int) : Nat → Int → Int
  | 0, h => h
  | n + 1, h => f n (mxN f n h)
def dE1 (E : EE) (e : Nat) (h : Int) : Int := 31 * (31 * (mxN (fun i h => 31 * h + eW E e i) (eL E e).toNat (mxN (fun w h => 31 * h + vEt E (sVz E) e (w : Int)) 8 h)) + sFs E e) + sNr E e (eN E)
def dT2 (E : EE) (i j : Nat) (h : Int) : Int := mxN (fun w h => 31 * h + sTw E i j (w : Int)) 5 h
def dT1 (E : EE) (i : Nat) (h : Int) : Int := mxN (fun d h => dT2 E i (i + 1 + d) h) (eN E - (i + 1)) h
def dL1 (E : EE) (l : Nat) (h : Int) : Int := mxN (fun p h => 31 * h + vP E (sVz E) l (p : Int)) (vW (sVz E) l) (mxN (fun w h => 31 * h + vLn E (sVz E) l (w : Int)) 8 h)
def dE (E : EE) (h : Int) : Int := mxN (dE1 E) (eN E) h
def dT (E : EE) (h : Int) : Int := mxN (dT1 E) (eN E) h
def dS (E : EE) (h : Int) : Int := mxN (fun w h => 31 * h + sLs E (w : Int)) 6 h
def dLv (E : EE) (h : Int) : Int := mxN (dL1 E) (vN (sVz E)) h
def dPg (A : AA) (h : Int) : Int := mxN (fun k h => 31 * h + pC A k) (pN A) h
def dCt (A : AA) (h : Int) : Int := mxN (fun w h => 31 * h + zCount A (w : Int)) 8 h
def zDig (A : AA) : Int := dCt A (dPg A (dLv (pE A) (dS (pE A) (dT (pE A) (dE (pE A) 1567)))))
/-! all that is mixed is an int -/
theorem vEt_r {E : EE} {V : VV} {e : Nat} {w : Int} (hW : WF E) (hI : VI E V) (hvn : vN V ≤ 18) (he : e < eN E) : rng (vEt E V e w) := by
  obtain ⟨w1, w2, w3, w4, -⟩ := hW.2.1 e he
  have h1 := sF_b hW he
  have h2 := sL_b hW he
  have h3 := vO_b hW hI hvn e
  unfold vEt
  repeat' split
  all_goals first
    | exact rng_bi _
    | exact ⟨by omega, by omega⟩
theorem sTw_r {E : EE} {a b : Nat} {w : Int} (hW : WF E) (ha : a < eN E) (hb : b < eN E) : rng (sTw E a b w) := by
  have h1 := sDi_b hW ha hb
  have h2 := sLk_b hW ha hb
  have h3 := sWh_b (E := E) (i := a) (j := b)
  have h4 := sWo_b hW ha hb
  have h5 := sYr_b hW ha hb
  unfold sTw
  repeat' split
  all_goals exact ⟨by omega, by omega⟩
theorem sPw_r {E : EE} (hW : WF E) (h7 : W7 E) : 0 ≤ sPw E ∧ sPw E ≤ 8400 := by
  have h := bE_b hW (nB E) (Nat.le_refl _) 0
  have h1 : nB E ≤ 7 := h7.1
  unfold sPw
  omega
theorem vPn_r {E : EE} {V : VV} {l : Nat} : ∀ (r k : Nat) (x : Int), vPn E V l r k x = -101 ∨ (∃ j : Nat, vPn E V l r k x = (j : Int) ∧ j < k + r) := by
  intro r
  induction r with
  | zero => intro k x; exact Or.inl rfl
  | succ r ih =>
    intro k x
    rw [vPn]
    split
    · split
      · exact Or.inr ⟨k, rfl, by omega⟩
      · rcases ih (k + 1) (x + (-1)) with h | ⟨j, h1, h2⟩
        · exact Or.inl h
        · exact Or.inr ⟨j, h1, by omega⟩
    · rcases ih (k + 1) x with h | ⟨j, h1, h2⟩
      · exact Or.inl h
      · exact Or.inr ⟨j, h1, by omega⟩
theorem vP_r {E : EE} {V : VV} {l : Nat} {p : Int} (hW : WF E) : rng (vP E V l p) := by
  have hn := hW.1
  unfold vP
  split
  · exact ⟨by decide, by decide⟩
  · rcases vPn_r (E := E) (V := V) (l := l) (eN E) 0 p with h | ⟨j, h1, h2⟩
    · rw [h]; exact ⟨by decide, by decide⟩
    · rw [h1]; exact ⟨by omega, by omega⟩
theorem vLn_r {E : EE} {V : VV} {l : Nat} {w : Int} (hW : WF E) (hB : -1 ≤ vB V l ∧ vB V l < 18) (hD : -1 ≤ vD V l ∧ vD V l < 18) (h3 : vW V l ≤ 3) : rng (vLn E V l w) := by
  have hn := hW.1
  have h := vFn_b (V := V) hW l (eN E) (Nat.le_refl _)
  have h2 : 0 ≤ vEn E V l ∧ vEn E V l ≤ eN E := cnt_b _ _
  unfold vLn vBo
  repeat' split
  all_goals first
    | exact rng_bi _
    | exact ⟨by omega, by omega⟩
theorem sPa_b {E : EE} : ∀ i, 0 ≤ ((cS E i).2.1 : Int) ∧ ((cS E i).2.1 : Int) ≤ (i : Int) := by
  intro i
  induction i with
  | zero => exact ⟨Int.le_refl _, Int.le_refl _⟩
  | succ i ih =>
    by_cases c : cT E i < nD E
    · rw [cS_yes c]
      show 0 ≤ (((cS E i).2.1 + 1 : Nat) : Int) ∧ (((cS E i).2.1 + 1 : Nat) : Int) ≤ ((i + 1 : Nat) : Int)
      omega
    · rw [cS_no (by omega)]
      omega
theorem sLs_r {E : EE} {w : Int} (hW : WF E) (h7 : W7 E) : rng (sLs E w) := by
  have hp : 0 ≤ sPa E ∧ sPa E ≤ (nB E : Int) := sPa_b (nB E)
  have hb : nB E ≤ 7 := h7.1
  have hn := hW.1
  have h0 := Vl_n hW (Nat.le_refl (eN E))
  have h0 : vN (sVz E) ≤ 18 := h0
  have h1 := sPw_r hW h7
  have h3 : 0 ≤ vDb E (sVz E) ∧ vDb E (sVz E) ≤ eN E := cnt_b _ _
  have h4 : 0 ≤ vHm E (sVz E) ∧ vHm E (sVz E) ≤ vN (sVz E) := cnt_b _ _
  have h5 : 0 ≤ vOm E (sVz E) ∧ vOm E (sVz E) ≤ vN (sVz E) := cnt_b _ _
  unfold sLs
  repeat' split
  all_goals exact ⟨by omega, by omega⟩
theorem zCount_r {A : AA} {w : Int} (hW : WFA A) (hr : rng (pR A)) (hs : rng (pS A)) : rng (zCount A w) := by
  have hp := hW.1
  have hn := hW.2.2.1.1
  have h1 := tPt_le (pE A) (eN (pE A))
  have h2 : eN (pE A) * eN (pE A) ≤ 18 * 18 := Nat.mul_le_mul hn hn
  have h3 := cK_le (pE A) (w - 1) (eN (pE A))
  unfold zCount
  repeat' split
  all_goals first
    | exact hr
    | exact hs
    | exact ⟨by omega, by omega⟩

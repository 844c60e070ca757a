/-! what the reference tells of lives -/
def vEn (E : EE) (V : VV) (l : Nat) : Int := cnt (fun k => decide (vO V k = (l : Int))) (eN E)
def vDb (E : EE) (V : VV) : Int := cnt (fun k => decide (vO V k = -1)) (eN E)
/-- another burial for the birth b, another birth for the burial d -/
def vH1 (E : EE) (b d n : Nat) : Bool := decide (eK E n = 2) && decide (n ≠ d) && sFt E b n && decide (sWo E b d - eB E 2 ≤ sWo E b n)
def vH2 (E : EE) (b d n : Nat) : Bool := decide (eK E n = 0) && decide (n ≠ b) && sFt E n d && decide (sWo E b d - eB E 2 ≤ sWo E n d)
def vHn (E : EE) (b d : Nat) : Nat → Bool
  | 0 => false
  | n + 1 => vHn E b d n || vH1 E b d n || vH2 E b d n
def vH (E : EE) (V : VV) (l : Nat) : Bool := decide (vB V l ≠ -1) && decide (vD V l ≠ -1) && vHn E (vB V l).toNat (vD V l).toNat (eN E)
def vHm (E : EE) (V : VV) : Int := cnt (fun l => vH E V l) (vN V)
def vOm (E : EE) (V : VV) : Int := cnt (fun l => decide (vEn E V l = 1)) (vN V)
def vFn (E : EE) (V : VV) (l : Nat) : Nat → Int
  | 0 => 0
  | n + 1 => if vO V n = (l : Int) then max (vFn E V l n) (sF E n) else vFn E V l n
def vTn (E : EE) (V : VV) (l : Nat) : Nat → Int
  | 0 => 100000
  | n + 1 => if vO V n = (l : Int) then min (vTn E V l n) (sL E n) else vTn E V l n
def vYn (E : EE) (V : VV) (l : Nat) : Nat → Int
  | 0 => 0
  | n + 1 => if vO V n = (l : Int) then max (vYn E V l n) (eY E n) else vYn E V l n
def vBo (E : EE) (V : VV) (l : Nat) (w : Int) : Int := if vTn E V l (eN E) < vFn E V l (eN E) then -1 else if w = 0 then vTn E V l (eN E) else vFn E V l (eN E)
def vLn (E : EE) (V : VV) (l : Nat) (w : Int) : Int := if w = 0 then vB V l else if w = 1 then vD V l else if w = 2 then vW V l else if w = 3 then vBo E V l 1 else if w = 4 then vBo E V l 0 else if w = 5 then bi (vH E V l) else if w = 6 then vEn E V l else vYn E V l (eN E)
def sLs (E : EE) (w : Int) : Int := if w = 0 then (vN (sVz E) : Int) else if w = 1 then sPa E else if w = 2 then sPw E else if w = 3 then vDb E (sVz E) else if w = 4 then vHm E (sVz E) else vOm E (sVz E)
def vPn (E : EE) (V : VV) (l : Nat) : Nat → Nat → Int → Int
  | 0, _, _ => -101
  | r + 1, k, left => if eK E k = 1 ∧ vO V k = (l : Int) then (if left = 0 then (k : Int) else vPn E V l r (k + 1) (left + (-1))) else vPn E V l r (k + 1) left
def vP (E : EE) (V : VV) (l : Nat) (p : Int) : Int := if p < 0 then -101 else vPn E V l (eN E) 0 p
def vEt (E : EE) (V : VV) (e : Nat) (w : Int) : Int := if w = 0 then eK E e else if w = 1 then eY E e else if w = 2 then eA E e else if w = 3 then eL E e else if w = 4 then sF E e else if w = 5 then sL E e else if w = 6 then vO V e else bi (decide (vO V e = -1))
theorem vO_b {E : EE} {V : VV} (hW : WF E) (hI : VI E V) (hvn : vN V ≤ 18) (e : Nat) : -1 ≤ vO V e ∧ vO V e < 18 := by
  rcases hI.1 e with c | ⟨-, x, hx, c⟩ <;> omega
theorem vFn_b {E : EE} {V : VV} (hW : WF E) (l : Nat) : ∀ n, n ≤ eN E → 0 ≤ vFn E V l n ∧ vFn E V l n ≤ 1910 ∧ 1400 ≤ vTn E V l n ∧ vTn E V l n ≤ 100000 ∧ 0 ≤ vYn E V l n ∧ vYn E V l n ≤ 1910 := by
  intro n
  induction n with
  | zero => intro _; unfold vFn vTn vYn; omega
  | succ n ih =>
    intro hn
    have h := ih (by omega)
    have h1 := sF_b hW (show n < eN E by omega)
    have h2 := sL_b hW (show n < eN E by omega)
    have h3 := (hW.2.1 n (by omega)).2.1
    unfold vFn vTn vYn
    split <;> omega
section MM
variable {E : EE} {P : Int → MS → Prop}
theorem M_entriesOf {V : VV} {m : MS} {l : Nat} (hR : RepM E m) (hW : WF E) (hV : VM E V m) (hI : VI E V) (hvn : vN V ≤ 18) (hl : l < 100) (hP : P (vEn E V l) m) : MMi mX10_entriesOf [vr 0, vi (l : Int)] m P := by
  have h18 := hW.1
  have loop : ∀ (t n : Nat), n + t = eN E → YYi mX10_entriesOf 4 [some (vr 0), some (vi (l : Int)), some (vi (cnt (fun k => decide (vO V k = (l : Int))) n)), some (vi (n : Int))] [] m P := by
    intro t
    induction t with
    | zero =>
      intro n hn
      have hn : n = eN E := by omega
      subst hn
      refine uX10_entriesOf_4 m _ _ _ ?_
      rw [hR.1]
      exact ⟨⟨by omega, by omega⟩, ⟨by omega, by omega⟩, fun _ => hP, fun z => by omega⟩
    | succ t ih =>
      intro n hn
      have := ih (n + 1) (by omega)
      rw [cnt] at this
      refine uX10_entriesOf_4 m _ _ _ ?_
      rw [hR.1]
      refine ⟨⟨by omega, by omega⟩, ⟨by omega, by omega⟩, fun z => by omega, fun _ => ?_⟩
      refine M_isOf hW hV hI hvn (by omega) hl (fun c => ⟨⟨by decide, by decide⟩, fun z => absurd z (by decide), fun _ => ?_⟩) (fun c => ⟨rng_0, fun _ => ?_, fun z => absurd rfl z⟩)
      · rw [if_pos (by simp [c])] at this
        exact this
      · rw [if_neg (by simp [c])] at this
        exact this
  exact uX10_entriesOf m l (loop (eN E) 0 (by omega))
theorem M_doubtful {V : VV} {m : MS} (hR : RepM E m) (hW : WF E) (hV : VM E V m) (hI : VI E V) (hvn : vN V ≤ 18) (hP : P (vDb E V) m) : MMi mX10_doubtful [vr 0] m P := by
  have h18 := hW.1
  have loop : ∀ (t n : Nat), n + t = eN E → YYi mX10_doubtful 4 [some (vr 0), some (vi (cnt (fun k => decide (vO V k = -1)) n)), some (vi (n : Int))] [] m P := by
    intro t
    induction t with
    | zero =>
      intro n hn
      have hn : n = eN E := by omega
      subst hn
      refine uX10_doubtful_4 m _ _ ?_
      rw [hR.1]
      exact ⟨⟨by omega, by omega⟩, ⟨by omega, by omega⟩, fun _ => hP, fun z => by omega⟩
    | succ t ih =>
      intro n hn
      have := ih (n + 1) (by omega)
      rw [cnt] at this
      have hb := vO_b hW hI hvn n
      refine uX10_doubtful_4 m _ _ ?_
      rw [hR.1]
      simp only [Int.toNat_natCast]
      rw [hV.2 n (by omega)]
      refine ⟨⟨by omega, by omega⟩, ⟨by omega, by omega⟩, fun z => by omega, fun _ => ⟨by omega, by omega, ⟨by omega, by omega⟩, fun c => ?_, fun c => ?_⟩⟩
      · rw [if_neg (by simp [c])] at this
        exact this
      · rw [if_pos (by simp [c])] at this
        exact this
  exact uX10_doubtful m (loop (eN E) 0 (by omega))
theorem M_onlyMany {V : VV} {m : MS} (hR : RepM E m) (hW : WF E) (hV : VM E V m) (hI : VI E V) (hvn : vN V ≤ 18) (hP : P (vOm E V) m) : MMi mX10_onlyMany [vr 0] m P := by
  have h18 := hW.1
  have loop : ∀ (t n : Nat), n + t = vN V → YYi mX10_onlyMany 4 [some (vr 0), some (vi (cnt (fun l => decide (vEn E V l = 1)) n)), some (vi (n : Int))] [] m P := by
    intro t
    induction t with
    | zero =>
      intro n hn
      have hn : n = vN V := by omega
      subst hn
      refine uX10_onlyMany_4 m _ _ ?_
      rw [hV.1.1]
      exact ⟨⟨by omega, by omega⟩, ⟨by omega, by omega⟩, fun _ => hP, fun z => by omega⟩
    | succ t ih =>
      intro n hn
      have := ih (n + 1) (by omega)
      rw [cnt] at this
      refine uX10_onlyMany_4 m _ _ ?_
      rw [hV.1.1]
      refine ⟨⟨by omega, by omega⟩, ⟨by omega, by omega⟩, fun z => by omega, fun _ => ?_⟩
      have hb := cnt_b (fun k => decide (vO V k = (n : Int))) (eN E)
      refine M_entriesOf hR hW hV hI hvn (by omega) ⟨⟨by unfold vEn; omega, by unfold vEn; omega⟩, fun c => ?_, fun c => ?_⟩
      · rw [if_neg (by simp [c])] at this
        exact this
      · rw [if_pos (by simp [c])] at this
        exact this
  exact uX10_onlyMany m (loop (vN V) 0 (by omega))
theorem M_bornOf {V : VV} {m : MS} {l : Nat} {w : Int} (hR : RepM E m) (hW : WF E) (hV : VM E V m) (hI : VI E V) (hvn : vN V ≤ 18) (hl : l < 100) (rw_ : rng w) (hP : P (vBo E V l w) m) : MMi mX10_bornOf [vr 0, vi (l : Int), vi w] m P := by
  have h18 := hW.1
  have loop : ∀ (t n : Nat), n + t = eN E → YYi mX10_bornOf 10 [some (vr 0), some (vi (l : Int)), some (vi w), some (vi (vFn E V l n)), some (vi (vTn E V l n)), some (vi (n : Int))] [] m P := by
    intro t
    induction t with
    | zero =>
      intro n hn
      have hn : n = eN E := by omega
      subst hn
      have hb := vFn_b (V := V) hW l (eN E) (Nat.le_refl _)
      unfold vBo at hP
      refine uX10_bornOf_10 m _ _ _ _ _ ?_
      rw [hR.1]
      refine ⟨⟨by omega, by omega⟩, ⟨by omega, by omega⟩, fun _ => ⟨⟨by omega, by omega⟩, ⟨by omega, by omega⟩, fun c => ⟨rw_, fun d => ?_, fun d => ?_⟩, fun c => ?_⟩, fun z => by omega⟩
      · rw [if_neg (by omega), if_pos d] at hP; exact hP
      · rw [if_neg (by omega), if_neg d] at hP; exact hP
      · rw [if_pos c] at hP; exact hP
    | succ t ih =>
      intro n hn
      have := ih (n + 1) (by omega)
      rw [vFn, vTn] at this
      have hb := vFn_b (V := V) hW l n (by omega)
      have h1 := sF_b hW (show n < eN E by omega)
      have h2 := sL_b hW (show n < eN E by omega)
      refine uX10_bornOf_10 m _ _ _ _ _ ?_
      rw [hR.1]
      refine ⟨⟨by omega, by omega⟩, ⟨by omega, by omega⟩, fun z => by omega, fun _ => ?_⟩
      refine M_isOf hW hV hI hvn (by omega) hl (fun c => ⟨⟨by decide, by decide⟩, fun z => absurd z (by decide), fun _ => ?_⟩) (fun c => ⟨rng_0, fun _ => ?_, fun z => absurd rfl z⟩)
      · rw [if_pos c, if_pos c] at this
        refine M_first hR hW (by omega) ?_
        refine M_greater ⟨by omega, by omega⟩ ⟨by omega, by omega⟩ ?_
        refine M_last hR hW (by omega) ?_
        refine M_lesser ⟨by omega, by omega⟩ ⟨by omega, by omega⟩ ?_
        exact this
      · rw [if_neg c, if_neg c] at this
        exact this
  exact uX10_bornOf m l w (loop (eN E) 0 (by omega))
theorem M_lastYear {V : VV} {m : MS} {l : Nat} (hR : RepM E m) (hW : WF E) (hV : VM E V m) (hI : VI E V) (hvn : vN V ≤ 18) (hl : l < 100) (hP : P (vYn E V l (eN E)) m) : MMi mX10_lastYear [vr 0, vi (l : Int)] m P := by
  have h18 := hW.1
  have loop : ∀ (t n : Nat), n + t = eN E → YYi mX10_lastYear 4 [some (vr 0), some (vi (l : Int)), some (vi (vYn E V l n)), some (vi (n : Int))] [] m P := by
    intro t
    induction t with
    | zero =>
      intro n hn
      have hn : n = eN E := by omega
      subst hn
      refine uX10_lastYear_4 m _ _ _ ?_
      rw [hR.1]
      exact ⟨⟨by omega, by omega⟩, ⟨by omega, by omega⟩, fun _ => hP, fun z => by omega⟩
    | succ t ih =>
      intro n hn
      have := ih (n + 1) (by omega)
      rw [vYn] at this
      have hb := vFn_b (V := V) hW l n (by omega)
      have h3 := (hW.2.1 n (by omega)).2.1
      obtain ⟨-, a2, -⟩ := hR.2.1 n (by omega)
      refine uX10_lastYear_4 m _ _ _ ?_
      rw [hR.1]
      refine ⟨⟨by omega, by omega⟩, ⟨by omega, by omega⟩, fun z => by omega, fun _ => ?_⟩
      simp only [Int.toNat_natCast, a2]
      refine M_isOf hW hV hI hvn (by omega) hl (fun c => ⟨⟨by decide, by decide⟩, fun z => absurd z (by decide), fun _ => ⟨by omega, by omega, ?_⟩⟩) (fun c => ⟨rng_0, fun _ => ?_, fun z => absurd rfl z⟩)
      · rw [if_pos c] at this
        rw [a2]
        exact M_greater ⟨by omega, by omega⟩ ⟨by omega, by omega⟩ this
      · rw [if_neg c] at this
        exact this
  exact uX10_lastYear m l (loop (eN E) 0 (by omega))
theorem M_weddingAt {V : VV} {m : MS} {l : Nat} {p : Int} (hR : RepM E m) (hW : WF E) (hV : VM E V m) (hI : VI E V) (hvn : vN V ≤ 18) (hl : l < 100) (rp : rng p) (hP : P (vP E V l p) m) : MMi mX10_weddingAt [vr 0, vi (l : Int), vi p] m P := by
  have h18 := hW.1
  unfold vP at hP
  by_cases c : p < 0
  · rw [if_pos c] at hP
    refine uX10_weddingAt m l p (uX10_weddingAt_5 m _ _ _ _ ?_)
    rw [hR.1]
    exact ⟨⟨by omega, by omega⟩, ⟨by omega, by omega⟩, fun _ => hP, fun _ => ⟨rp, fun _ => hP, fun z => by omega⟩⟩
  · rw [if_neg c] at hP
    have loop : ∀ (t n : Nat) (left : Int), n + t = eN E → 0 ≤ left → left ≤ p → P (vPn E V l t n left) m → YYi mX10_weddingAt 5 [some (vr 0), some (vi (l : Int)), some (vi p), some (vi left), some (vi (n : Int))] [] m P := by
      intro t
      induction t with
      | zero =>
        intro n left hn h0 h1 hP
        refine uX10_weddingAt_5 m _ _ _ _ ?_
        rw [hR.1]
        exact ⟨⟨by omega, by omega⟩, ⟨by omega, by omega⟩, fun _ => hP, fun z => by omega⟩
      | succ t ih =>
        intro n left hn h0 h1 hP
        rw [vPn] at hP
        obtain ⟨a1, -⟩ := hR.2.1 n (by omega)
        obtain ⟨w1, -⟩ := hW.2.1 n (by omega)
        have rl : rng left := ⟨by omega, by have := rp.2; omega⟩
        refine uX10_weddingAt_5 m _ _ _ _ ?_
        rw [hR.1]
        simp only [Int.toNat_natCast, a1]
        refine ⟨⟨by omega, by omega⟩, ⟨by omega, by omega⟩, fun z => by omega, fun _ => ⟨rp, fun z => by omega, fun _ => ⟨by omega, by omega, ⟨by omega, by omega⟩, fun d => ?_, fun d => ?_⟩⟩⟩
        · rw [if_neg (fun z => d z.1)] at hP
          exact ih (n + 1) left (by omega) h0 h1 hP
        · refine M_isOf hW hV hI hvn (by omega) hl (fun q => ⟨⟨by decide, by decide⟩, fun z => absurd z (by decide), fun _ => ⟨rl, fun y => ?_, fun y => ?_⟩⟩) (fun q => ⟨rng_0, fun _ => ?_, fun z => absurd rfl z⟩)
          · rw [if_pos ⟨d, q⟩, if_neg y] at hP
            exact ih (n + 1) _ (by omega) (by omega) (by omega) hP
          · rw [if_pos ⟨d, q⟩, if_pos y] at hP
            exact hP
          · rw [if_neg (fun z => q z.2)] at hP
            exact ih (n + 1) left (by omega) h0 h1 hP
    exact uX10_weddingAt m l p (loop (eN E) 0 p (by omega) (by omega) (by omega) hP)
theorem M_entryNow {V : VV} {m : MS} {e : Nat} {w : Int} (hR : RepM E m) (hW : WF E) (hV : VM E V m) (hI : VI E V) (hvn : vN V ≤ 18) (he : e < eN E) (hw : 0 ≤ w ∧ w ≤ 7) (hP : P (vEt E V e w) m) : MMi mX10_entryNow [vr 0, vi (e : Int), vi w] m P := by
  have h18 := hW.1
  obtain ⟨a1, a2, a3, a4, -⟩ := hR.2.1 e he
  have hb := vO_b hW hI hvn e
  unfold vEt at hP
  refine uX10_entryNow m e w ?_
  simp only [Int.toNat_natCast, a1, a2, a3, a4]
  rw [hV.2 e he]
  refine ⟨⟨by omega, by omega⟩, fun c => ⟨by omega, by omega, ⟨by omega, by omega⟩, fun d => ?_, fun d => ?_⟩, fun c => ⟨by omega, by omega, ?_⟩, fun c => ⟨by omega, by omega, ?_⟩, fun c => ⟨by omega, by omega, ?_⟩, fun c => ⟨by omega, by omega, ?_⟩, fun c => ?_, fun c => ?_, fun c => ⟨by omega, by omega, ?_⟩⟩
  · rw [show w = 7 by omega] at hP; simp [d, bi] at hP; exact hP
  · rw [show w = 7 by omega] at hP; simp [d, bi] at hP; exact hP
  · subst c; exact hP
  · subst c; exact hP
  · subst c; exact hP
  · subst c; exact hP
  · subst c; exact M_first hR hW he hP
  · subst c; exact M_last hR hW he hP
  · subst c; exact hP
end MM

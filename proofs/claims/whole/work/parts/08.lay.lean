/-! WHERE THINGS LIE: the class (157 cells), the reference (23 cells) -/
def TX : List (Nat × Nat) := [(9, 12), (5, 2), (20, 60), (7, 10), (20, 3), (4, 2), (20, 9), (20, 9), (8, 4), (21, 18), (20, 3), (0, 10), (20, 8), (20, 18), (0, 10), (20, 8), (20, 18), (0, 10), (20, 8), (20, 18), (0, 10), (20, 8), (20, 18), (0, 10), (20, 8), (20, 18), (0, 10), (20, 8), (20, 18), (0, 10), (20, 8), (20, 18), (0, 10), (20, 8), (20, 18), (0, 10), (20, 8), (20, 18), (0, 10), (20, 8), (20, 18), (0, 10), (20, 8), (20, 18), (0, 10), (20, 8), (20, 18), (0, 10), (20, 8), (20, 18), (0, 10), (20, 8), (20, 18), (0, 10), (20, 8), (20, 18), (0, 10), (20, 8), (20, 18), (0, 10), (20, 8), (20, 18), (0, 10), (20, 8), (20, 18), (6, 3), (23, 18), (20, 18), (20, 18), (20, 18), (20, 18), (20, 18), (20, 18), (20, 18), (20, 18), (20, 18), (20, 18), (20, 18), (20, 18), (20, 18), (20, 18), (20, 18), (20, 18), (20, 18), (20, 18), (23, 18), (20, 18), (20, 18), (20, 18), (20, 18), (20, 18), (20, 18), (20, 18), (20, 18), (20, 18), (20, 18), (20, 18), (20, 18), (20, 18), (20, 18), (20, 18), (20, 18), (20, 18), (20, 18), (3, 8), (20, 18), (20, 7), (20, 7), (23, 8), (20, 128), (20, 128), (20, 128), (20, 128), (20, 128), (20, 128), (20, 128), (20, 128), (2, 6), (22, 18), (20, 18), (20, 18), (1, 9), (20, 5), (1, 9), (20, 5), (1, 9), (20, 5), (1, 9), (20, 5), (1, 9), (20, 5), (1, 9), (20, 5), (1, 9), (20, 5), (1, 9), (20, 5), (1, 9), (20, 5), (1, 9), (20, 5), (1, 9), (20, 5), (1, 9), (20, 5), (1, 9), (20, 5), (1, 9), (20, 5), (1, 9), (20, 5), (1, 9), (20, 5), (1, 9), (20, 5), (1, 9), (20, 5)]
def TM : List (Nat × Nat) := [(10, 34), (20, 60), (20, 18), (20, 18), (20, 18), (20, 18), (20, 144), (20, 18), (20, 3), (20, 18), (20, 18), (20, 18), (20, 18), (20, 144), (20, 81), (20, 7), (20, 7), (20, 1024), (20, 18), (20, 18), (20, 18), (20, 18), (20, 18)]
/-- the class's state: ints by cell and place; the register's rows (slots); the two rows of Names (addresses) -/
abbrev GS : Type := (Nat → Nat → Int) × (Nat → Nat) × (Nat → Nat)
abbrev MS : Type := Nat → Nat → Int
def RX (ro nu : Nat → Nat) : Nat → Nat → Option Nat := fun a k =>
  if a = 0 then [1, 3, 5, 8, 65, 104, 117][k]?
  else if a = 1 then (if k = 0 then some 2 else none)
  else if a = 3 then (if k = 0 then some 4 else none)
  else if a = 5 then (if k < 2 then some (nu k) else none)
  else if a = 8 then [9, 10][k]?
  else if a = 9 then (if k < 18 then some (11 + 3 * ro k) else none)
  else if a < 11 then none
  else if a < 65 then (if a % 3 = 2 then (if k = 1 then some (a + 1) else if k = 2 then some (a + 2) else none) else none)
  else if a = 65 then [66, 85][k]?
  else if a = 66 then (if k < 18 then some (67 + k) else none)
  else if a = 85 then (if k < 18 then some (86 + k) else none)
  else if a = 104 then (if k = 0 then some 105 else if k = 3 then some 106 else if k = 4 then some 107 else if k = 7 then some 108 else none)
  else if a = 108 then (if k < 8 then some (109 + k) else none)
  else if a = 117 then (if k = 0 then some 118 else if k = 1 then some 119 else if k = 5 then some 120 else none)
  else if a = 118 then (if k < 18 then some (121 + 2 * k) else none)
  else if a < 121 then none
  else if a < 157 then (if a % 2 = 1 then (if k = 0 then some (a + 1) else none) else none)
  else none
def RM : Nat → Nat → Option Nat := fun a k => if a = 0 then if k = 1 then some 1 else if k = 3 then some 2 else if k = 4 then some 3 else if k = 5 then some 4 else if k = 6 then some 5 else if k = 7 then some 6 else if k = 8 then some 7 else if k = 9 then some 8 else if k = 14 then some 9 else if k = 15 then some 10 else if k = 16 then some 11 else if k = 17 then some 12 else if k = 18 then some 13 else if k = 19 then some 14 else if k = 22 then some 15 else if k = 23 then some 16 else if k = 24 then some 17 else if k = 25 then some 18 else if k = 29 then some 19 else if k = 30 then some 20 else if k = 31 then some 21 else if k = 32 then some 22 else none else none
abbrev hX (g : GS) : PH := (TX, g.1, RX g.2.1 g.2.2)
abbrev hM (m : MS) : PH := (TM, m, RM)
def gI (g : GS) (a k : Nat) (x : Int) : GS := (fun b j => if b = a ∧ j = k then x else g.1 b j, g.2)
def gW (g : GS) (k s : Nat) : GS := (g.1, fun j => if j = k then s else g.2.1 j, g.2.2)
def gN (g : GS) (k a : Nat) : GS := (g.1, g.2.1, fun j => if j = k then a else g.2.2 j)
def mI (m : MS) (a k : Nat) (x : Int) : MS := fun b j => if b = a ∧ j = k then x else m b j
theorem hX_I (g : GS) (a k : Nat) (x : Int) : px_upI (hX g) a k x = hX (gI g a k x) := rfl
theorem hM_I (m : MS) (a k : Nat) (x : Int) : px_upI (hM m) a k x = hM (mI m a k x) := rfl
theorem hX_W (g : GS) (k s : Nat) (hk : k < 18) : px_upR (hX g) 9 k (some (11 + 3 * s)) = hX (gW g k s) := by
  unfold px_upR hX gW
  refine congrArg (fun f => (TX, g.1, f)) (funext fun a => funext fun j => ?_)
  by_cases ha : a = 9
  · subst ha
    by_cases hj : j = k
    · subst hj
      simp [RX, hk]
    · simp [RX, hj]
  · simp [RX, ha]
theorem hX_N (g : GS) (k a : Nat) (hk : k < 2) : px_upR (hX g) 5 k (some a) = hX (gN g k a) := by
  unfold px_upR hX gN
  refine congrArg (fun f => (TX, g.1, f)) (funext fun b => funext fun j => ?_)
  by_cases hb : b = 5
  · subst hb
    by_cases hj : j = k
    · subst hj
      simp [RX, hk]
    · simp [RX, hj]
  · simp [RX, hb]
theorem ai_of {h : PH} {t a n : Nat} {i : Int} (hT : h.1[a]? = some (t, n)) (h0 : 0 ≤ i) (h1 : i < (n : Int)) (hn : n ≤ 2147483647) : AI h t a i := ⟨n, hT, h0, h1, by omega⟩
theorem txE : ∀ s, s < 18 → TX[11 + 3 * s]? = some (0, 10) := by decide +kernel
theorem txN : ∀ s, s < 18 → TX[12 + 3 * s]? = some (20, 8) := by decide +kernel
theorem txD : ∀ s, s < 18 → TX[13 + 3 * s]? = some (20, 18) := by decide +kernel
theorem txW : ∀ s, s < 18 → TX[67 + s]? = some (20, 18) := by decide +kernel
theorem txV : ∀ s, s < 18 → TX[86 + s]? = some (20, 18) := by decide +kernel
theorem txB : ∀ s, s < 8 → TX[109 + s]? = some (20, 128) := by decide +kernel
theorem txL : ∀ s, s < 18 → TX[121 + 2 * s]? = some (1, 9) := by decide +kernel
theorem txQ : ∀ s, s < 18 → TX[122 + 2 * s]? = some (20, 5) := by decide +kernel
theorem txR {a : Nat} (h : a = 6 ∨ a = 7) : TX[a]? = some (20, 9) := by rcases h with rfl | rfl <;> rfl
theorem obE {g : GS} {s : Nat} (h : s < 18) : OB (hX g) 0 (11 + 3 * s) := ⟨_, txE s h⟩
theorem obL {g : GS} {s : Nat} (h : s < 18) : OB (hX g) 1 (121 + 2 * s) := ⟨_, txL s h⟩
theorem ltN {i : Int} {n : Nat} (h0 : 0 ≤ i) (h1 : i < (n : Int)) : i.toNat < n := by omega
theorem rxN (g : GS) {s : Nat} (h : s < 18) : (hX g).2.2 (11 + 3 * s) 1 = some (12 + 3 * s) := by
  show RX g.2.1 g.2.2 _ _ = _
  simp only [RX]
  repeat (first | rw [if_neg (by omega)] | rw [if_pos (by omega)])
  exact congrArg some (by omega)
theorem rxD (g : GS) {s : Nat} (h : s < 18) : (hX g).2.2 (11 + 3 * s) 2 = some (13 + 3 * s) := by
  show RX g.2.1 g.2.2 _ _ = _
  simp only [RX]
  repeat (first | rw [if_neg (by omega)] | rw [if_pos (by omega)])
  exact congrArg some (by omega)
theorem rxM (g : GS) {s : Nat} (h : s < 18) : (hX g).2.2 (121 + 2 * s) 0 = some (122 + 2 * s) := by
  show RX g.2.1 g.2.2 _ _ = _
  simp only [RX]
  repeat (first | rw [if_neg (by omega)] | rw [if_pos (by omega)])
  exact congrArg some (by omega)
theorem rxR (g : GS) {k : Nat} (h : k < 18) : (hX g).2.2 9 k = some (11 + 3 * g.2.1 k) := by simp [RX, h]
theorem rxW (g : GS) {k : Nat} (h : k < 18) : (hX g).2.2 66 k = some (67 + k) := by simp [RX, h]
theorem rxV (g : GS) {k : Nat} (h : k < 18) : (hX g).2.2 85 k = some (86 + k) := by simp [RX, h]
theorem rxB (g : GS) {k : Nat} (h : k < 8) : (hX g).2.2 108 k = some (109 + k) := by simp [RX, h]
theorem rxA (g : GS) {k : Nat} (h : k < 18) : (hX g).2.2 118 k = some (121 + 2 * k) := by simp [RX, h]
theorem rx5 (g : GS) {k : Nat} (h : k < 2) : (hX g).2.2 5 k = some (g.2.2 k) := by simp [RX, h]
/-! contracts over the class's state (MX), over the reference's (MM) -/
abbrev MXi (M : MD) (av : List PV) (g : GS) (P : Int → GS → Prop) : Prop := METi M av (hX g) (fun y h => ∃ g', h = hX g' ∧ P y g')
abbrev MXl (M : MD) (av : List PV) (g : GS) (P : Int → GS → Prop) : Prop := METl M av (hX g) (fun y h => ∃ g', h = hX g' ∧ P y g')
abbrev MXv (M : MD) (av : List PV) (g : GS) (P : GS → Prop) : Prop := METv M av (hX g) (0, 0) (fun h => ∃ g', h = hX g' ∧ P g')
abbrev XXi (M : MD) (pc : Nat) (ls : List (Option PV)) (st : List PV) (g : GS) (P : Int → GS → Prop) : Prop := EXi M pc ls st (hX g) (fun y h => ∃ g', h = hX g' ∧ P y g')
abbrev XXl (M : MD) (pc : Nat) (ls : List (Option PV)) (st : List PV) (g : GS) (P : Int → GS → Prop) : Prop := EXl M pc ls st (hX g) (fun y h => ∃ g', h = hX g' ∧ P y g')
abbrev XXv (M : MD) (pc : Nat) (ls : List (Option PV)) (st : List PV) (g : GS) (P : GS → Prop) : Prop := EXv M pc ls st (hX g) (0, 0) (fun h => ∃ g', h = hX g' ∧ P g')
abbrev MMi (M : MD) (av : List PV) (g : MS) (P : Int → MS → Prop) : Prop := METi M av (hM g) (fun y h => ∃ g', h = hM g' ∧ P y g')
abbrev MMl (M : MD) (av : List PV) (g : MS) (P : Int → MS → Prop) : Prop := METl M av (hM g) (fun y h => ∃ g', h = hM g' ∧ P y g')
abbrev MMv (M : MD) (av : List PV) (g : MS) (P : MS → Prop) : Prop := METv M av (hM g) (0, 0) (fun h => ∃ g', h = hM g' ∧ P g')
abbrev YYi (M : MD) (pc : Nat) (ls : List (Option PV)) (st : List PV) (g : MS) (P : Int → MS → Prop) : Prop := EXi M pc ls st (hM g) (fun y h => ∃ g', h = hM g' ∧ P y g')
abbrev YYl (M : MD) (pc : Nat) (ls : List (Option PV)) (st : List PV) (g : MS) (P : Int → MS → Prop) : Prop := EXl M pc ls st (hM g) (fun y h => ∃ g', h = hM g' ∧ P y g')
abbrev YYv (M : MD) (pc : Nat) (ls : List (Option PV)) (st : List PV) (g : MS) (P : MS → Prop) : Prop := EXv M pc ls st (hM g) (0, 0) (fun h => ∃ g', h = hM g' ∧ P g')
theorem s_callVi {M N : MD} {pc : Nat} {ls : List (Option PV)} {st stk : List PV} {h : PH} {B : Nat × Nat} {Q : Option PV → PH → Prop} {idx n : Nat} {b c0 : Nat} {P : Int → PH → Prop} (av : List PV) (pc' : Nat) (hd : decode M.2.1 pc = .ok (.invokevirtual idx, 3)) (hp : pc' = pc + 3) (hV : CVV M.1.cls idx N n c0) (hk : stk = av.reverse ++ vr b :: st) (hn : av.length = n) (hfr : N.2.2.2.2.1 + 1 ≤ M.2.2.2.2.1 ∧ 8 + (N.2.2.1 + 11) + N.2.2.2.2.2 ≤ M.2.2.2.2.2) (hw : px_sum st ≤ 8) (hO : OB h c0 b)
    (hM : METi N (vr b :: av) h P) (k : ∀ x h1, P x h1 → EX M pc' ls (vi x :: st) h1 B Q) : EX M pc ls stk h B Q := by
  obtain ⟨v1, v2, q, v3, v4⟩ := hV
  exact ex_callVi av pc' hd hp v1 v2 v3 v4 hk hn hfr hw hO hM k
theorem s_callSi {M N : MD} {pc : Nat} {ls : List (Option PV)} {st stk : List PV} {h : PH} {B : Nat × Nat} {Q : Option PV → PH → Prop} {idx n : Nat} {P : Int → PH → Prop} (av : List PV) (pc' : Nat) (hd : decode M.2.1 pc = .ok (.invokestatic idx, 3)) (hp : pc' = pc + 3) (hV : CVS M.1.cls idx N n) (hk : stk = av.reverse ++ st) (hn : av.length = n) (hfr : N.2.2.2.2.1 + 1 ≤ M.2.2.2.2.1 ∧ 8 + (N.2.2.1 + 11) + N.2.2.2.2.2 ≤ M.2.2.2.2.2) (hw : px_sum st ≤ 8)
    (hM : METi N (av) h P) (k : ∀ x h1, P x h1 → EX M pc' ls (vi x :: st) h1 B Q) : EX M pc ls stk h B Q :=
  ex_callSi av pc' hd hp hV.1 hV.2 hk hn hfr hw hM k
theorem s_callVl {M N : MD} {pc : Nat} {ls : List (Option PV)} {st stk : List PV} {h : PH} {B : Nat × Nat} {Q : Option PV → PH → Prop} {idx n : Nat} {b c0 : Nat} {P : Int → PH → Prop} (av : List PV) (pc' : Nat) (hd : decode M.2.1 pc = .ok (.invokevirtual idx, 3)) (hp : pc' = pc + 3) (hV : CVV M.1.cls idx N n c0) (hk : stk = av.reverse ++ vr b :: st) (hn : av.length = n) (hfr : N.2.2.2.2.1 + 1 ≤ M.2.2.2.2.1 ∧ 8 + (N.2.2.1 + 11) + N.2.2.2.2.2 ≤ M.2.2.2.2.2) (hw : px_sum st ≤ 8) (hO : OB h c0 b)
    (hM : METl N (vr b :: av) h P) (k : ∀ x h1, P x h1 → EX M pc' ls (vl x :: st) h1 B Q) : EX M pc ls stk h B Q := by
  obtain ⟨v1, v2, q, v3, v4⟩ := hV
  exact ex_callVl av pc' hd hp v1 v2 v3 v4 hk hn hfr hw hO hM k
theorem s_callSl {M N : MD} {pc : Nat} {ls : List (Option PV)} {st stk : List PV} {h : PH} {B : Nat × Nat} {Q : Option PV → PH → Prop} {idx n : Nat} {P : Int → PH → Prop} (av : List PV) (pc' : Nat) (hd : decode M.2.1 pc = .ok (.invokestatic idx, 3)) (hp : pc' = pc + 3) (hV : CVS M.1.cls idx N n) (hk : stk = av.reverse ++ st) (hn : av.length = n) (hfr : N.2.2.2.2.1 + 1 ≤ M.2.2.2.2.1 ∧ 8 + (N.2.2.1 + 11) + N.2.2.2.2.2 ≤ M.2.2.2.2.2) (hw : px_sum st ≤ 8)
    (hM : METl N (av) h P) (k : ∀ x h1, P x h1 → EX M pc' ls (vl x :: st) h1 B Q) : EX M pc ls stk h B Q :=
  ex_callSl av pc' hd hp hV.1 hV.2 hk hn hfr hw hM k
theorem s_callVv {M N : MD} {pc : Nat} {ls : List (Option PV)} {st stk : List PV} {h : PH} {B : Nat × Nat} {Q : Option PV → PH → Prop} {idx n : Nat} {b c0 : Nat} {P : PH → Prop} (av : List PV) (pc' : Nat) (hd : decode M.2.1 pc = .ok (.invokevirtual idx, 3)) (hp : pc' = pc + 3) (hV : CVV M.1.cls idx N n c0) (hk : stk = av.reverse ++ vr b :: st) (hn : av.length = n) (hfr : N.2.2.2.2.1 + 1 ≤ M.2.2.2.2.1 ∧ 8 + (N.2.2.1 + 11) + N.2.2.2.2.2 ≤ M.2.2.2.2.2) (hw : px_sum st ≤ 8) (hO : OB h c0 b)
    (hM : METv N (vr b :: av) h (0, 0) P) (k : ∀ h1, P h1 → EX M pc' ls st h1 B Q) : EX M pc ls stk h B Q := by
  obtain ⟨v1, v2, q, v3, v4⟩ := hV
  exact ex_callVv av pc' hd hp v1 v2 v3 v4 hk hn hfr hw hO hM k
theorem s_callSv {M N : MD} {pc : Nat} {ls : List (Option PV)} {st stk : List PV} {h : PH} {B : Nat × Nat} {Q : Option PV → PH → Prop} {idx n : Nat} {P : PH → Prop} (av : List PV) (pc' : Nat) (hd : decode M.2.1 pc = .ok (.invokestatic idx, 3)) (hp : pc' = pc + 3) (hV : CVS M.1.cls idx N n) (hk : stk = av.reverse ++ st) (hn : av.length = n) (hfr : N.2.2.2.2.1 + 1 ≤ M.2.2.2.2.1 ∧ 8 + (N.2.2.1 + 11) + N.2.2.2.2.2 ≤ M.2.2.2.2.2) (hw : px_sum st ≤ 8)
    (hM : METv N (av) h (0, 0) P) (k : ∀ h1, P h1 → EX M pc' ls st h1 B Q) : EX M pc ls stk h B Q :=
  ex_callSv av pc' hd hp hV.1 hV.2 hk hn hfr hw hM k
theorem s_callNi {M N : MD} {pc : Nat} {ls : List (Option PV)} {st stk : List PV} {h : PH} {B : Nat × Nat} {Q : Option PV → PH → Prop} {idx n : Nat} {P : Int → PH → Prop} (av : List PV) (pc' : Nat) (hd : decode M.2.1 pc = .ok (.invokestatic idx, 3)) (hp : pc' = pc + 3) (hV : CVN M.1.cls idx N n) (hk : stk = av.reverse ++ st) (hn : av.length = n) (hfr : N.2.2.2.2.1 + 1 ≤ M.2.2.2.2.1 ∧ 8 + (N.2.2.1 + 11) + N.2.2.2.2.2 ≤ M.2.2.2.2.2) (hw : px_sum st ≤ 8)
    (hM : METi N av h P) (k : ∀ x h1, P x h1 → EX M pc' ls (vi x :: st) h1 B Q) : EX M pc ls stk h B Q :=
  ex_callSN (B1 := (0, 0)) (B2 := B) av pc' hd hp hV.1 hV.2.1 hV.2.2 hk hn hfr.1 hfr.2 hw (by simp) hM (fun v h1 hq => by obtain ⟨x, rfl, hq⟩ := hq; exact k x h1 hq)

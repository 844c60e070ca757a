/-! facts that move over a change of the heap -/
theorem OB.of {h h1 : PH} {c i : Nat} (e : h1.1 = h.1) (x : OB h c i) : OB h1 c i := by unfold OB; rw [e]; exact x
theorem AI.of {h h1 : PH} {t i : Nat} {k : Int} (e : h1.1 = h.1) (x : AI h t i k) : AI h1 t i k := by unfold AI; rw [e]; exact x
theorem KI {h h1 : PH} {i k : Nat} {x : Int} (e : h1 = px_upI h i k x) : h1.1 = h.1 := by rw [e]; rfl
theorem KR {h h1 : PH} {i k : Nat} {x : Option Nat} (e : h1 = px_upR h i k x) : h1.1 = h.1 := by rw [e]; rfl
theorem RI {h h1 : PH} {i k a j b : Nat} {x : Int} (e : h1 = px_upI h i k x) (f : h.2.2 a j = some b) : h1.2.2 a j = some b := by rw [e]; exact f
theorem ex_dropL {M : MD} {pc : Nat} {ls ls' : List (Option PV)} {st : List PV} {h : PH} {B : Nat × Nat} {Q : Option PV → PH → Prop} (j : Nat) (hs : ls.set j none = ls') (k : EX M pc ls' st h B Q) : EX M pc ls st h B Q := by
  subst hs
  intro p l e R s m args below meth c D cy ad T0 A H locs cells slots lsA C S L
  refine k p l e R s m args below meth c D cy ad T0 A H locs cells slots lsA C S ⟨L.1, L.2.1, fun i v hv => L.2.2 i v ?_⟩
  by_cases e : i = j
  · subst e
    by_cases hl : i < ls.length
    · rw [List.getElem?_set_self hl] at hv; cases hv
    · rw [List.getElem?_eq_none (by simpa using hl)] at hv; cases hv
  · rw [List.getElem?_set_ne (Ne.symm e)] at hv
    exact hv
def FI (own : String) (idx c0 k0 : Nat) : Prop := ∃ q : vw_C, vwCl[c0]? = some q ∧ k0 < q.2.2 ∧ Cond.fieldLink own idx (q.2.1 k0).1 (q.2.1 k0).2.1 (q.2.1 k0).2.2.1 ∈ WS
def FF (own : String) (c0 k0 : Nat) (b : Bool) : Prop := ∀ q : vw_C, vwCl[c0]? = some q → (q.2.1 k0).2.2.2 = b ∧ (q.2.1 k0).1 = own
def CVV (own : String) (idx : Nat) (N : MD) (n c0 : Nat) : Prop := Cond.methodLink own idx N.1 ∈ WS ∧ (NV N n ∧ Cond.instanceMethod N.1 ∈ WS ∧ Cond.selects N.1.cls N.1 N.1 ∈ WS) ∧ ∃ q : vw_C, vwCl[c0]? = some q ∧ q.1 = N.1.cls
def CVS (own : String) (idx : Nat) (N : MD) (n : Nat) : Prop := Cond.methodLink own idx N.1 ∈ WS ∧ NV N n ∧ Cond.static N.1 ∈ WS
def CVI (own : String) (idx : Nat) (N : MD) (n : Nat) : Prop := Cond.methodLink own idx N.1 ∈ WS ∧ NV N n ∧ Cond.instanceMethod N.1 ∈ WS ∧ N.1.name = "<init>" ∧ N.2.2.2.1 = none
theorem q_getI {M : MD} {pc : Nat} {ls : List (Option PV)} {st : List PV} {h : PH} {B : Nat × Nat} {Q : Option PV → PH → Prop} {i idx : Nat} (c0 k0 pc' : Nat) (hd : decode M.2.1 pc = .ok (.getfield idx, 3)) (hp : pc' = pc + 3) (hF : FI M.1.cls idx c0 k0) (hy : px_ty c0 k0 = .int ∨ px_ty c0 k0 = .boolean) (hO : OB h c0 i) (k : EX M pc' ls (vi (h.2.1 i k0) :: st) h B Q) : EX M pc ls (vr i :: st) h B Q := by
  obtain ⟨q, h1, h2, h3⟩ := hF
  exact ex_getI c0 k0 pc' hd hp h1 h2 h3 hy hO k
theorem q_getL {M : MD} {pc : Nat} {ls : List (Option PV)} {st : List PV} {h : PH} {B : Nat × Nat} {Q : Option PV → PH → Prop} {i idx : Nat} (c0 k0 pc' : Nat) (hd : decode M.2.1 pc = .ok (.getfield idx, 3)) (hp : pc' = pc + 3) (hF : FI M.1.cls idx c0 k0) (hy : px_ty c0 k0 = .long) (hO : OB h c0 i) (k : EX M pc' ls (vl (h.2.1 i k0) :: st) h B Q) : EX M pc ls (vr i :: st) h B Q := by
  obtain ⟨q, h1, h2, h3⟩ := hF
  exact ex_getL c0 k0 pc' hd hp h1 h2 h3 hy hO k
theorem q_getR {M : MD} {pc : Nat} {ls : List (Option PV)} {st : List PV} {h : PH} {B : Nat × Nat} {Q : Option PV → PH → Prop} {a : Nat} {i idx : Nat} (c0 k0 pc' : Nat) (hd : decode M.2.1 pc = .ok (.getfield idx, 3)) (hp : pc' = pc + 3) (hF : FI M.1.cls idx c0 k0) (hy : px_isR (px_ty c0 k0) = true) (hO : OB h c0 i) (ha : h.2.2 i k0 = some a) (k : EX M pc' ls (vr a :: st) h B Q) : EX M pc ls (vr i :: st) h B Q := by
  obtain ⟨q, h1, h2, h3⟩ := hF
  exact ex_getR c0 k0 pc' hd hp h1 h2 h3 hy hO ha k
theorem q_putI {M : MD} {pc : Nat} {ls : List (Option PV)} {st : List PV} {h : PH} {B : Nat × Nat} {Q : Option PV → PH → Prop} {x : Int} {i idx : Nat} (c0 k0 pc' : Nat) (hd : decode M.2.1 pc = .ok (.putfield idx, 3)) (hp : pc' = pc + 3) (hF : FI M.1.cls idx c0 k0) {own : String} (hG : FF own c0 k0 false) (hy : px_ty c0 k0 = .int) (hO : OB h c0 i) (k : ∀ h1, h1 = px_upI h i k0 x → EX M pc' ls st h1 B Q) : EX M pc ls (vi x :: vr i :: st) h B Q := by
  obtain ⟨q, h1, h2, h3⟩ := hF
  exact ex_putI c0 k0 pc' hd hp h1 h2 h3 (hG q h1).1 hy hO k
theorem q_putZ {M : MD} {pc : Nat} {ls : List (Option PV)} {st : List PV} {h : PH} {B : Nat × Nat} {Q : Option PV → PH → Prop} {x : Int} {i idx : Nat} (c0 k0 pc' : Nat) (hd : decode M.2.1 pc = .ok (.putfield idx, 3)) (hp : pc' = pc + 3) (hF : FI M.1.cls idx c0 k0) {own : String} (hG : FF own c0 k0 false) (hy : px_ty c0 k0 = .boolean) (hO : OB h c0 i) (hx : x = 0 ∨ x = 1) (k : ∀ h1, h1 = px_upI h i k0 x → EX M pc' ls st h1 B Q) : EX M pc ls (vi x :: vr i :: st) h B Q := by
  obtain ⟨q, h1, h2, h3⟩ := hF
  exact ex_putZ c0 k0 pc' hd hp h1 h2 h3 (hG q h1).1 hy hO hx k
theorem q_putL {M : MD} {pc : Nat} {ls : List (Option PV)} {st : List PV} {h : PH} {B : Nat × Nat} {Q : Option PV → PH → Prop} {x : Int} {i idx : Nat} (c0 k0 pc' : Nat) (hd : decode M.2.1 pc = .ok (.putfield idx, 3)) (hp : pc' = pc + 3) (hF : FI M.1.cls idx c0 k0) {own : String} (hG : FF own c0 k0 false) (hy : px_ty c0 k0 = .long) (hO : OB h c0 i) (k : ∀ h1, h1 = px_upI h i k0 x → EX M pc' ls st h1 B Q) : EX M pc ls (vl x :: vr i :: st) h B Q := by
  obtain ⟨q, h1, h2, h3⟩ := hF
  exact ex_putL c0 k0 pc' hd hp h1 h2 h3 (hG q h1).1 hy hO k
theorem q_putR {M : MD} {pc : Nat} {ls : List (Option PV)} {st : List PV} {h : PH} {B : Nat × Nat} {Q : Option PV → PH → Prop} {a : Nat} {i idx : Nat} (c0 k0 pc' : Nat) (hd : decode M.2.1 pc = .ok (.putfield idx, 3)) (hp : pc' = pc + 3) (hF : FI M.1.cls idx c0 k0) {own : String} (hG : FF own c0 k0 false) (hy : px_isR (px_ty c0 k0) = true) (hO : OB h c0 i) (k : ∀ h1, h1 = px_upR h i k0 (some a) → EX M pc' ls st h1 B Q) : EX M pc ls (vr a :: vr i :: st) h B Q := by
  obtain ⟨q, h1, h2, h3⟩ := hF
  exact ex_putR c0 k0 pc' hd hp h1 h2 h3 (hG q h1).1 hy hO k
theorem q_putIF {M : MD} {pc : Nat} {ls : List (Option PV)} {st : List PV} {h : PH} {B : Nat × Nat} {Q : Option PV → PH → Prop} {x : Int} {i idx : Nat} (c0 k0 pc' : Nat) (hd : decode M.2.1 pc = .ok (.putfield idx, 3)) (hp : pc' = pc + 3) (hF : FI M.1.cls idx c0 k0) (hG : FF M.1.cls c0 k0 true) (hM : M.1.name = "<init>") (hy : px_ty c0 k0 = .int) (hO : OB h c0 i) (k : ∀ h1, h1 = px_upI h i k0 x → EX M pc' ls st h1 B Q) : EX M pc ls (vi x :: vr i :: st) h B Q := by
  obtain ⟨q, h1, h2, h3⟩ := hF
  exact ex_putIF c0 k0 pc' hd hp h1 h2 h3 (hG q h1).1 hM (hG q h1).2 hy hO k
theorem q_putZF {M : MD} {pc : Nat} {ls : List (Option PV)} {st : List PV} {h : PH} {B : Nat × Nat} {Q : Option PV → PH → Prop} {x : Int} {i idx : Nat} (c0 k0 pc' : Nat) (hd : decode M.2.1 pc = .ok (.putfield idx, 3)) (hp : pc' = pc + 3) (hF : FI M.1.cls idx c0 k0) (hG : FF M.1.cls c0 k0 true) (hM : M.1.name = "<init>") (hy : px_ty c0 k0 = .boolean) (hO : OB h c0 i) (hx : x = 0 ∨ x = 1) (k : ∀ h1, h1 = px_upI h i k0 x → EX M pc' ls st h1 B Q) : EX M pc ls (vi x :: vr i :: st) h B Q := by
  obtain ⟨q, h1, h2, h3⟩ := hF
  exact ex_putZF c0 k0 pc' hd hp h1 h2 h3 (hG q h1).1 hM (hG q h1).2 hy hO hx k
theorem q_putLF {M : MD} {pc : Nat} {ls : List (Option PV)} {st : List PV} {h : PH} {B : Nat × Nat} {Q : Option PV → PH → Prop} {x : Int} {i idx : Nat} (c0 k0 pc' : Nat) (hd : decode M.2.1 pc = .ok (.putfield idx, 3)) (hp : pc' = pc + 3) (hF : FI M.1.cls idx c0 k0) (hG : FF M.1.cls c0 k0 true) (hM : M.1.name = "<init>") (hy : px_ty c0 k0 = .long) (hO : OB h c0 i) (k : ∀ h1, h1 = px_upI h i k0 x → EX M pc' ls st h1 B Q) : EX M pc ls (vl x :: vr i :: st) h B Q := by
  obtain ⟨q, h1, h2, h3⟩ := hF
  exact ex_putLF c0 k0 pc' hd hp h1 h2 h3 (hG q h1).1 hM (hG q h1).2 hy hO k
theorem q_putRF {M : MD} {pc : Nat} {ls : List (Option PV)} {st : List PV} {h : PH} {B : Nat × Nat} {Q : Option PV → PH → Prop} {a : Nat} {i idx : Nat} (c0 k0 pc' : Nat) (hd : decode M.2.1 pc = .ok (.putfield idx, 3)) (hp : pc' = pc + 3) (hF : FI M.1.cls idx c0 k0) (hG : FF M.1.cls c0 k0 true) (hM : M.1.name = "<init>") (hy : px_isR (px_ty c0 k0) = true) (hO : OB h c0 i) (k : ∀ h1, h1 = px_upR h i k0 (some a) → EX M pc' ls st h1 B Q) : EX M pc ls (vr a :: vr i :: st) h B Q := by
  obtain ⟨q, h1, h2, h3⟩ := hF
  exact ex_putRF c0 k0 pc' hd hp h1 h2 h3 (hG q h1).1 hM (hG q h1).2 hy hO k
theorem q_istore_n {M : MD} {pc : Nat} {ls : List (Option PV)} {st : List PV} {h : PH} {B : Nat × Nat} {Q : Option PV → PH → Prop} {i : Fin 4} {x : Int} (ls' : List (Option PV)) (pc' : Nat) (hd : decode M.2.1 pc = .ok (.istore_n i, 1)) (hp : pc' = pc + 1) (hi : (i : Nat) < M.2.2.1) (hk : px_ok ls i = true) (hs : ls.set (i : Nat) (some (vi x)) = ls') (k : EX M pc' ls' st h B Q) : EX M pc ls (vi x :: st) h B Q := by
  subst hs
  exact ex_istore_n pc' hd hp hi hk k
theorem q_istore {M : MD} {pc : Nat} {ls : List (Option PV)} {st : List PV} {h : PH} {B : Nat × Nat} {Q : Option PV → PH → Prop} {i : Nat} {x : Int} (ls' : List (Option PV)) (pc' : Nat) (hd : decode M.2.1 pc = .ok (.istore i, 2)) (hp : pc' = pc + 2) (hi : (i : Nat) < M.2.2.1) (hk : px_ok ls i = true) (hs : ls.set (i : Nat) (some (vi x)) = ls') (k : EX M pc' ls' st h B Q) : EX M pc ls (vi x :: st) h B Q := by
  subst hs
  exact ex_istore pc' hd hp hi hk k
theorem q_lstore_n {M : MD} {pc : Nat} {ls : List (Option PV)} {st : List PV} {h : PH} {B : Nat × Nat} {Q : Option PV → PH → Prop} {i : Fin 4} {x : Int} (ls' : List (Option PV)) (pc' : Nat) (hd : decode M.2.1 pc = .ok (.lstore_n i, 1)) (hp : pc' = pc + 1) (hi : (i : Nat) + 1 < M.2.2.1) (hk : px_ok ls i = true) (hs : (ls.set (i : Nat) (some (vl x))).set ((i : Nat) + 1) none = ls') (k : EX M pc' ls' st h B Q) : EX M pc ls (vl x :: st) h B Q := by
  subst hs
  exact ex_lstore_n pc' hd hp hi hk k
theorem q_astore_n {M : MD} {pc : Nat} {ls : List (Option PV)} {st : List PV} {h : PH} {B : Nat × Nat} {Q : Option PV → PH → Prop} {i : Fin 4} {x : Nat} (ls' : List (Option PV)) (pc' : Nat) (hd : decode M.2.1 pc = .ok (.astore_n i, 1)) (hp : pc' = pc + 1) (hi : (i : Nat) < M.2.2.1) (hk : px_ok ls i = true) (hs : ls.set (i : Nat) (some (vr x)) = ls') (k : EX M pc' ls' st h B Q) : EX M pc ls (vr x :: st) h B Q := by
  subst hs
  exact ex_astore_n pc' hd hp hi hk k
theorem q_astore {M : MD} {pc : Nat} {ls : List (Option PV)} {st : List PV} {h : PH} {B : Nat × Nat} {Q : Option PV → PH → Prop} {i : Nat} {x : Nat} (ls' : List (Option PV)) (pc' : Nat) (hd : decode M.2.1 pc = .ok (.astore i, 2)) (hp : pc' = pc + 2) (hi : (i : Nat) < M.2.2.1) (hk : px_ok ls i = true) (hs : ls.set (i : Nat) (some (vr x)) = ls') (k : EX M pc' ls' st h B Q) : EX M pc ls (vr x :: st) h B Q := by
  subst hs
  exact ex_astore pc' hd hp hi hk k
theorem q_iinc {M : MD} {pc : Nat} {ls : List (Option PV)} {st : List PV} {h : PH} {B : Nat × Nat} {Q : Option PV → PH → Prop} {i : Nat} {n x : Int} (ls' : List (Option PV)) (pc' : Nat) (hd : decode M.2.1 pc = .ok (.iinc i n, 3)) (hp : pc' = pc + 3) (hl : ls[i]? = some (some (vi x))) (hi : i < M.2.2.1) (hk : px_ok ls i = true) (hs : ls.set i (some (vi (x + n))) = ls') (k : EX M pc' ls' st h B Q) : EX M pc ls st h B Q := by
  subst hs
  exact ex_iinc pc' hd hp hl hi hk k
theorem q_callVi {M N : MD} {pc : Nat} {ls : List (Option PV)} {st stk : List PV} {h : PH} {B : Nat × Nat} {Q : Option PV → PH → Prop} {idx n : Nat} {b c0 : Nat} {P : Int → PH → Prop} (av : List PV) (pc' : Nat) (hd : decode M.2.1 pc = .ok (.invokevirtual idx, 3)) (hp : pc' = pc + 3) (hV : CVV M.1.cls idx N n c0) (hk : stk = av.reverse ++ vr b :: st) (hn : av.length = n) (hfr : N.2.2.2.2.1 + 1 ≤ M.2.2.2.2.1 ∧ 8 + (N.2.2.1 + 11) + N.2.2.2.2.2 ≤ M.2.2.2.2.2) (hw : px_sum st ≤ 8) (hO : OB h c0 b)
    (hM : METi N (vr b :: av) h (fun x h1 => h1.1 = h.1 → P x h1)) (k : ∀ x h1, h1.1 = h.1 → P x h1 → EX M pc' ls (vi x :: st) h1 B Q) : EX M pc ls stk h B Q := by
  obtain ⟨v1, v2, q, v3, v4⟩ := hV
  exact ex_callVi (P := fun x h1 => h1.1 = h.1 ∧ P x h1) av pc' hd hp v1 v2 v3 v4 hk hn hfr hw hO (hM.kinds.mono (fun v h1 hq => by obtain ⟨e, x, hx, hq⟩ := hq; exact ⟨x, hx, e, hq e⟩)) (fun x h1 hq => k x h1 hq.1 hq.2)
theorem q_callSi {M N : MD} {pc : Nat} {ls : List (Option PV)} {st stk : List PV} {h : PH} {B : Nat × Nat} {Q : Option PV → PH → Prop} {idx n : Nat} {P : Int → PH → Prop} (av : List PV) (pc' : Nat) (hd : decode M.2.1 pc = .ok (.invokestatic idx, 3)) (hp : pc' = pc + 3) (hV : CVS M.1.cls idx N n) (hk : stk = av.reverse ++ st) (hn : av.length = n) (hfr : N.2.2.2.2.1 + 1 ≤ M.2.2.2.2.1 ∧ 8 + (N.2.2.1 + 11) + N.2.2.2.2.2 ≤ M.2.2.2.2.2) (hw : px_sum st ≤ 8)
    (hM : METi N (av) h (fun x h1 => h1.1 = h.1 → P x h1)) (k : ∀ x h1, h1.1 = h.1 → P x h1 → EX M pc' ls (vi x :: st) h1 B Q) : EX M pc ls stk h B Q :=
  ex_callSi (P := fun x h1 => h1.1 = h.1 ∧ P x h1) av pc' hd hp hV.1 hV.2 hk hn hfr hw (hM.kinds.mono (fun v h1 hq => by obtain ⟨e, x, hx, hq⟩ := hq; exact ⟨x, hx, e, hq e⟩)) (fun x h1 hq => k x h1 hq.1 hq.2)
theorem q_callVl {M N : MD} {pc : Nat} {ls : List (Option PV)} {st stk : List PV} {h : PH} {B : Nat × Nat} {Q : Option PV → PH → Prop} {idx n : Nat} {b c0 : Nat} {P : Int → PH → Prop} (av : List PV) (pc' : Nat) (hd : decode M.2.1 pc = .ok (.invokevirtual idx, 3)) (hp : pc' = pc + 3) (hV : CVV M.1.cls idx N n c0) (hk : stk = av.reverse ++ vr b :: st) (hn : av.length = n) (hfr : N.2.2.2.2.1 + 1 ≤ M.2.2.2.2.1 ∧ 8 + (N.2.2.1 + 11) + N.2.2.2.2.2 ≤ M.2.2.2.2.2) (hw : px_sum st ≤ 8) (hO : OB h c0 b)
    (hM : METl N (vr b :: av) h (fun x h1 => h1.1 = h.1 → P x h1)) (k : ∀ x h1, h1.1 = h.1 → P x h1 → EX M pc' ls (vl x :: st) h1 B Q) : EX M pc ls stk h B Q := by
  obtain ⟨v1, v2, q, v3, v4⟩ := hV
  exact ex_callVl (P := fun x h1 => h1.1 = h.1 ∧ P x h1) av pc' hd hp v1 v2 v3 v4 hk hn hfr hw hO (hM.kinds.mono (fun v h1 hq => by obtain ⟨e, x, hx, hq⟩ := hq; exact ⟨x, hx, e, hq e⟩)) (fun x h1 hq => k x h1 hq.1 hq.2)
theorem q_callSl {M N : MD} {pc : Nat} {ls : List (Option PV)} {st stk : List PV} {h : PH} {B : Nat × Nat} {Q : Option PV → PH → Prop} {idx n : Nat} {P : Int → PH → Prop} (av : List PV) (pc' : Nat) (hd : decode M.2.1 pc = .ok (.invokestatic idx, 3)) (hp : pc' = pc + 3) (hV : CVS M.1.cls idx N n) (hk : stk = av.reverse ++ st) (hn : av.length = n) (hfr : N.2.2.2.2.1 + 1 ≤ M.2.2.2.2.1 ∧ 8 + (N.2.2.1 + 11) + N.2.2.2.2.2 ≤ M.2.2.2.2.2) (hw : px_sum st ≤ 8)
    (hM : METl N (av) h (fun x h1 => h1.1 = h.1 → P x h1)) (k : ∀ x h1, h1.1 = h.1 → P x h1 → EX M pc' ls (vl x :: st) h1 B Q) : EX M pc ls stk h B Q :=
  ex_callSl (P := fun x h1 => h1.1 = h.1 ∧ P x h1) av pc' hd hp hV.1 hV.2 hk hn hfr hw (hM.kinds.mono (fun v h1 hq => by obtain ⟨e, x, hx, hq⟩ := hq; exact ⟨x, hx, e, hq e⟩)) (fun x h1 hq => k x h1 hq.1 hq.2)
theorem q_callVv {M N : MD} {pc : Nat} {ls : List (Option PV)} {st stk : List PV} {h : PH} {B : Nat × Nat} {Q : Option PV → PH → Prop} {idx n : Nat} {b c0 : Nat} {P : PH → Prop} (av : List PV) (pc' : Nat) (hd : decode M.2.1 pc = .ok (.invokevirtual idx, 3)) (hp : pc' = pc + 3) (hV : CVV M.1.cls idx N n c0) (hk : stk = av.reverse ++ vr b :: st) (hn : av.length = n) (hfr : N.2.2.2.2.1 + 1 ≤ M.2.2.2.2.1 ∧ 8 + (N.2.2.1 + 11) + N.2.2.2.2.2 ≤ M.2.2.2.2.2) (hw : px_sum st ≤ 8) (hO : OB h c0 b)
    (hM : METv N (vr b :: av) h (0, 0) (fun h1 => h1.1 = h.1 → P h1)) (k : ∀ h1, h1.1 = h.1 → P h1 → EX M pc' ls st h1 B Q) : EX M pc ls stk h B Q := by
  obtain ⟨v1, v2, q, v3, v4⟩ := hV
  exact ex_callVv (P := fun h1 => h1.1 = h.1 ∧ P h1) av pc' hd hp v1 v2 v3 v4 hk hn hfr hw hO (hM.kinds.mono (fun v h1 hq => by obtain ⟨e, hx, hq⟩ := hq; exact ⟨hx, e, hq e⟩)) (fun h1 hq => k h1 hq.1 hq.2)
theorem q_callSv {M N : MD} {pc : Nat} {ls : List (Option PV)} {st stk : List PV} {h : PH} {B : Nat × Nat} {Q : Option PV → PH → Prop} {idx n : Nat} {P : PH → Prop} (av : List PV) (pc' : Nat) (hd : decode M.2.1 pc = .ok (.invokestatic idx, 3)) (hp : pc' = pc + 3) (hV : CVS M.1.cls idx N n) (hk : stk = av.reverse ++ st) (hn : av.length = n) (hfr : N.2.2.2.2.1 + 1 ≤ M.2.2.2.2.1 ∧ 8 + (N.2.2.1 + 11) + N.2.2.2.2.2 ≤ M.2.2.2.2.2) (hw : px_sum st ≤ 8)
    (hM : METv N (av) h (0, 0) (fun h1 => h1.1 = h.1 → P h1)) (k : ∀ h1, h1.1 = h.1 → P h1 → EX M pc' ls st h1 B Q) : EX M pc ls stk h B Q :=
  ex_callSv (P := fun h1 => h1.1 = h.1 ∧ P h1) av pc' hd hp hV.1 hV.2 hk hn hfr hw (hM.kinds.mono (fun v h1 hq => by obtain ⟨e, hx, hq⟩ := hq; exact ⟨hx, e, hq e⟩)) (fun h1 hq => k h1 hq.1 hq.2)
def CVN (own : String) (idx : Nat) (N : MD) (n : Nat) : Prop := (own, idx, N.1) ∈ nestL ∧ NV N n ∧ Cond.static N.1 ∈ WS
def CVNI (own : String) (idx : Nat) (N : MD) (n : Nat) : Prop := (own, idx, N.1) ∈ nestL ∧ NV N n ∧ Cond.instanceMethod N.1 ∈ WS ∧ N.1.name = "<init>" ∧ N.2.2.2.1 = none
theorem q_callNi {M N : MD} {pc : Nat} {ls : List (Option PV)} {st stk : List PV} {h : PH} {B : Nat × Nat} {Q : Option PV → PH → Prop} {idx n : Nat} {P : Int → PH → Prop} (av : List PV) (pc' : Nat) (hd : decode M.2.1 pc = .ok (.invokestatic idx, 3)) (hp : pc' = pc + 3) (hV : CVN M.1.cls idx N n) (hk : stk = av.reverse ++ st) (hn : av.length = n) (hfr : N.2.2.2.2.1 + 1 ≤ M.2.2.2.2.1 ∧ 8 + (N.2.2.1 + 11) + N.2.2.2.2.2 ≤ M.2.2.2.2.2) (hw : px_sum st ≤ 8)
    (hM : METi N av h (fun x h1 => h1.1 = h.1 → P x h1)) (k : ∀ x h1, h1.1 = h.1 → P x h1 → EX M pc' ls (vi x :: st) h1 B Q) : EX M pc ls stk h B Q :=
  ex_callSN (B1 := (0, 0)) (B2 := B) av pc' hd hp hV.1 hV.2.1 hV.2.2 hk hn hfr.1 hfr.2 hw (by simp) hM.kinds (fun v h1 hq => by obtain ⟨e, x, rfl, hq⟩ := hq; exact k x h1 e (hq e))
theorem q_callIv {M N : MD} {pc : Nat} {ls : List (Option PV)} {st stk : List PV} {h : PH} {B B1 B2 : Nat × Nat} {Q : Option PV → PH → Prop} {idx n : Nat} {b : Nat} {P : PH → Prop} (av : List PV) (pc' : Nat) (hd : decode M.2.1 pc = .ok (.invokespecial idx, 3)) (hp : pc' = pc + 3) (hV : CVI M.1.cls idx N n) (hk : stk = av.reverse ++ vr b :: st) (hn : av.length = n) (hfr : N.2.2.2.2.1 + 1 ≤ M.2.2.2.2.1 ∧ 8 + (N.2.2.1 + 11) + N.2.2.2.2.2 ≤ M.2.2.2.2.2) (hw : px_sum st ≤ 8) (hB : B = (B1.1 + B2.1, B1.2 + B2.2))
    (hM : METv N (vr b :: av) h B1 P) (k : ∀ h1, P h1 → EX M pc' ls st h1 B2 Q) : EX M pc ls stk h B Q :=
  ex_callI av pc' hd hp hV.1 hV.2.1 hV.2.2.1 hV.2.2.2.1 hV.2.2.2.2 hk hn hfr.1 hfr.2 hw hB hM (fun v h1 hq => by obtain ⟨rfl, hq⟩ := hq; exact k h1 hq)
theorem q_callINv {M N : MD} {pc : Nat} {ls : List (Option PV)} {st stk : List PV} {h : PH} {B B1 B2 : Nat × Nat} {Q : Option PV → PH → Prop} {idx n : Nat} {b : Nat} {P : PH → Prop} (av : List PV) (pc' : Nat) (hd : decode M.2.1 pc = .ok (.invokespecial idx, 3)) (hp : pc' = pc + 3) (hV : CVNI M.1.cls idx N n) (hk : stk = av.reverse ++ vr b :: st) (hn : av.length = n) (hfr : N.2.2.2.2.1 + 1 ≤ M.2.2.2.2.1 ∧ 8 + (N.2.2.1 + 11) + N.2.2.2.2.2 ≤ M.2.2.2.2.2) (hw : px_sum st ≤ 8) (hB : B = (B1.1 + B2.1, B1.2 + B2.2))
    (hM : METv N (vr b :: av) h B1 P) (k : ∀ h1, P h1 → EX M pc' ls st h1 B2 Q) : EX M pc ls stk h B Q :=
  ex_callIN av pc' hd hp hV.1 hV.2.1 hV.2.2.1 hV.2.2.2.1 hV.2.2.2.2 hk hn hfr.1 hfr.2 hw hB hM (fun v h1 hq => by obtain ⟨rfl, hq⟩ := hq; exact k h1 hq)
theorem mw_max : Cond.static Lib.Math.max.name ∈ WS ∧ Cond.initialized "java/lang/Math" ∈ WS ∧ Cond.code Lib.Math.max.name Lib.Math.max.code 2 (some .int) ∈ WS := ⟨wt3 79 rfl rfl, wt1 16 rfl rfl, wt3 80 rfl rfl⟩
theorem q_max {M : MD} {pc : Nat} {ls : List (Option PV)} {st : List PV} {h : PH} {B : Nat × Nat} {Q : Option PV → PH → Prop} {x y : Int} {idx : Nat} (pc' : Nat) (hd : decode M.2.1 pc = .ok (.invokestatic idx, 3)) (hp : pc' = pc + 3) (hl : Cond.methodLink M.1.cls idx Lib.Math.max.name ∈ WS) (hr : 1 ≤ M.2.2.2.2.1 ∧ px_sum st + 13 ≤ M.2.2.2.2.2) (rx : rng x) (ry : rng y) (k : EX M pc' ls (vi (max x y) :: st) h B Q) : EX M pc ls (vi y :: vi x :: st) h B Q := by
  subst hp
  intro p l e R s m args below meth c D cy ad T0 A H locs cells slots lsA C S L
  have k := k p l e R s m args below meth c D cy ad T0 A H locs cells slots lsA C S L
  refine va_mmax C.1 C.2.1 (by rw [C.2.2.2.1]; exact L.1.symm) C.2.2.2.2.1 (C.2.2.2.2.2.1 _ hl) (C.2.2.2.2.2.1 _ mw_max.1) (C.2.2.2.2.2.1 _ mw_max.2.1) (C.2.2.2.2.2.1 _ mw_max.2.2) (by rw [C.2.2.2.2.2.2.2.2.1]; exact hr.1) (by rw [C.2.2.2.2.2.2.2.2.2.1, px_sum_eq]; exact hr.2) (by have := S.2.2.2.2.1; omega) (by have := S.2.2.2.2.2.1; omega) hd ?_
  have e : (if Int32.ofInt x < Int32.ofInt y then Int32.ofInt y else Int32.ofInt x) = Int32.ofInt (max x y) ∧ (if Int32.ofInt y < Int32.ofInt x then Int32.ofInt y else Int32.ofInt x) = Int32.ofInt (min x y) := by
    constructor
    · by_cases hxy : x < y
      · rw [if_pos ((rng_lt rx ry).mpr hxy), show max x y = y by omega]
      · rw [if_neg (fun z => hxy ((rng_lt rx ry).mp z)), show max x y = x by omega]
    · by_cases hxy : y < x
      · rw [if_pos ((rng_lt ry rx).mpr hxy), show min x y = y by omega]
      · rw [if_neg (fun z => hxy ((rng_lt ry rx).mp z)), show min x y = x by omega]
  rw [e.1]
  exact k
theorem mw_min : Cond.static Lib.Math.min.name ∈ WS ∧ Cond.initialized "java/lang/Math" ∈ WS ∧ Cond.code Lib.Math.min.name Lib.Math.min.code 2 (some .int) ∈ WS := ⟨wt3 32 rfl rfl, wt1 16 rfl rfl, wt3 33 rfl rfl⟩
theorem q_min {M : MD} {pc : Nat} {ls : List (Option PV)} {st : List PV} {h : PH} {B : Nat × Nat} {Q : Option PV → PH → Prop} {x y : Int} {idx : Nat} (pc' : Nat) (hd : decode M.2.1 pc = .ok (.invokestatic idx, 3)) (hp : pc' = pc + 3) (hl : Cond.methodLink M.1.cls idx Lib.Math.min.name ∈ WS) (hr : 1 ≤ M.2.2.2.2.1 ∧ px_sum st + 13 ≤ M.2.2.2.2.2) (rx : rng x) (ry : rng y) (k : EX M pc' ls (vi (min x y) :: st) h B Q) : EX M pc ls (vi y :: vi x :: st) h B Q := by
  subst hp
  intro p l e R s m args below meth c D cy ad T0 A H locs cells slots lsA C S L
  have k := k p l e R s m args below meth c D cy ad T0 A H locs cells slots lsA C S L
  refine va_mmin C.1 C.2.1 (by rw [C.2.2.2.1]; exact L.1.symm) C.2.2.2.2.1 (C.2.2.2.2.2.1 _ hl) (C.2.2.2.2.2.1 _ mw_min.1) (C.2.2.2.2.2.1 _ mw_min.2.1) (C.2.2.2.2.2.1 _ mw_min.2.2) (by rw [C.2.2.2.2.2.2.2.2.1]; exact hr.1) (by rw [C.2.2.2.2.2.2.2.2.2.1, px_sum_eq]; exact hr.2) (by have := S.2.2.2.2.1; omega) (by have := S.2.2.2.2.2.1; omega) hd ?_
  have e : (if Int32.ofInt x < Int32.ofInt y then Int32.ofInt y else Int32.ofInt x) = Int32.ofInt (max x y) ∧ (if Int32.ofInt y < Int32.ofInt x then Int32.ofInt y else Int32.ofInt x) = Int32.ofInt (min x y) := by
    constructor
    · by_cases hxy : x < y
      · rw [if_pos ((rng_lt rx ry).mpr hxy), show max x y = y by omega]
      · rw [if_neg (fun z => hxy ((rng_lt rx ry).mp z)), show max x y = x by omega]
    · by_cases hxy : y < x
      · rw [if_pos ((rng_lt ry rx).mpr hxy), show min x y = y by omega]
      · rw [if_neg (fun z => hxy ((rng_lt ry rx).mp z)), show min x y = x by omega]
  rw [e.2]
  exact k

/-! CONSTRUCTORS with loops: the register, the lives -/
def st8 (h : PH) (L a i : Nat) : PH := px_upR (fX0 (pxn h L 0 10) (L + 1) L (i : Int)) a i (some L)
def it8 (h : PH) (L a : Nat) : Nat → PH
  | 0 => h
  | i + 1 => st8 (it8 h L a i) (L + 3 * i) a i
def fX8 (h : PH) (L b : Nat) : PH := it8 (pnA (pnR h L b 0 21 18) (L + 1) b 1 3) (L + 1 + 1) L 18
theorem st8_T (h : PH) (L a i : Nat) : (st8 h L a i).1 = h.1 ++ [(0, 10), (20, 8), (20, 18)] := by
  simp [st8, fX0, pnA, pxn, px_upR, px_upI]
theorem it8_T (h : PH) (L a : Nat) : ∀ i, ∃ r, (it8 h L a i).1 = h.1 ++ r ∧ r.length = 3 * i := by
  intro i
  induction i with
  | zero => exact ⟨[], (List.append_nil _).symm, rfl⟩
  | succ i ih =>
    obtain ⟨r, h1, h2⟩ := ih
    refine ⟨r ++ [(0, 10), (20, 8), (20, 18)], ?_, by rw [List.length_append, h2]; show _ + 3 = _; omega⟩
    show (st8 (it8 h L a i) (L + 3 * i) a i).1 = _
    rw [st8_T, h1, List.append_assoc]
theorem it8_R {h : PH} {L a b k : Nat} (hb : b < L) (hn : b ≠ a) : ∀ i, (it8 h L a i).2.2 b k = h.2.2 b k := by
  intro i
  induction i with
  | zero => rfl
  | succ i ih =>
    show (st8 (it8 h L a i) (L + 3 * i) a i).2.2 b k = _
    rw [← ih]
    have n1 : b ≠ L + 3 * i := by omega
    have n2 : b ≠ L + 3 * i + 1 := by omega
    have n3 : b ≠ L + 3 * i + 1 + 1 := by omega
    simp [st8, fX0, pnA, pxn, px_upR, px_upI, hn, n1, n2, n3]
theorem lX8 {h : PH} {L b a : Nat} (hO : OB h 8 b) (hL : h.1.length = L) (ha : h.2.2 b 0 = some a) (hA : h.1[a]? = some (21, 18)) (hn : b ≠ a) : ∀ (n i : Nat), i + n = 18 → EX mX8_init 22 [some (vr b), some (vi ((i : Nat) : Int))] [] (it8 h L a i) (3 * n, 36 * n) (fun v h1 => v = none ∧ h1 = it8 h L a 18) := by
  have hb : b < L := by rw [← hL]; obtain ⟨x, hx⟩ := hO; exact (List.getElem?_eq_some_iff.mp hx).1
  intro n
  induction n with
  | zero =>
    intro i hi
    have e : i = 18 := by omega
    subst e
    refine ex_iload_n 23 dX8_init_22 rfl rfl ?_
    refine ex_bipush 25 dX8_init_23 rfl ⟨by decide, by decide⟩ ?_
    refine ex_icmp_ge 48 28 dX8_init_25 rfl rfl ⟨by decide, by decide⟩ ⟨by decide, by decide⟩ (fun _ => ?_) (fun z => absurd z (by decide))
    exact ex_vret dX8_init_48 rfl ⟨rfl, rfl⟩
  | succ n ih =>
    intro i hi
    obtain ⟨r, hr, hrl⟩ := it8_T h L a i
    have hLi : (it8 h L a i).1.length = L + 3 * i := by rw [hr, List.length_append, hrl, hL]
    have hOi : OB (it8 h L a i) 8 b := hO.app hr
    have hAi : (it8 h L a i).1[a]? = some (21, 18) := by rw [hr, List.getElem?_append_left (List.getElem?_eq_some_iff.mp hA).1]; exact hA
    have hRi : (it8 h L a i).2.2 b 0 = some a := (it8_R hb hn i).trans ha
    refine ex_iload_n 23 dX8_init_22 rfl rfl ?_
    refine ex_bipush 25 dX8_init_23 rfl ⟨by decide, by decide⟩ ?_
    refine ex_icmp_ge 48 28 dX8_init_25 rfl rfl ⟨by omega, by omega⟩ ⟨by decide, by decide⟩ (fun z => by omega) (fun _ => ?_)
    refine ex_aload_n 29 dX8_init_28 rfl rfl ?_
    refine q_getR 8 0 32 dX8_init_29 rfl fiX8_11 rfl hOi hRi ?_
    refine ex_iload_n 33 dX8_init_32 rfl rfl ?_
    refine ex_new 0 36 (3 * n + 2, 36 * n + 26) dX8_init_33 rfl rfl (wt1 108 rfl rfl) (wt1 110 rfl rfl) (wt1 6 rfl rfl) rfl (by show (3 * (n + 1), 36 * (n + 1)) = (3 * n + 2 + 1, 36 * n + 26 + 10); rw [Prod.mk.injEq]; omega) (fun h1 e1 => ?_)
    subst e1
    rw [hLi, pxn_eq hLi]
    refine ex_dup 37 dX8_init_36 rfl rfl ?_
    refine ex_iload_n 38 dX8_init_37 rfl rfl ?_
    refine q_callIv (B1 := (2, 26)) (B2 := (3 * n, 36 * n)) (st := [vr (L + 3 * i), vi (i : Int), vr a]) [vi (i : Int)] 41 dX8_init_38 rfl cvX8_21 rfl rfl ⟨(Nat.le_of_ble_eq_true rfl), (Nat.le_of_ble_eq_true rfl)⟩ (Nat.le_of_ble_eq_true rfl) (by rw [Prod.mk.injEq]; omega) (iX0 (OBn _ _ _ _ hLi) (pxn_len hLi)) (fun h1 e1 => ?_)
    subst e1
    refine ex_aast (c0 := 0) 21 42 dX8_init_41 rfl (by decide) ⟨18, ?_, by omega, by omega, by omega⟩ ?_ (fun h1 e1 => ?_)
    · rw [show (fX0 (pxn (it8 h L a i) (L + 3 * i) 0 10) (L + 3 * i + 1) (L + 3 * i) (i : Int)).1 = (it8 h L a i).1 ++ [(0, 10), (20, 8), (20, 18)] from by simp [fX0, pnA, pxn, px_upR, px_upI]]
      rw [List.getElem?_append_left (List.getElem?_eq_some_iff.mp hAi).1]
      exact hAi
    · exact ((OBn _ _ _ _ hLi).pnA.pnA.upI)
    rw [Int.toNat_natCast] at e1
    replace e1 : h1 = it8 h L a (i + 1) := e1
    subst e1
    refine q_iinc [some (vr b), some (vi (((i + 1 : Nat) : Int)))] 45 dX8_init_42 rfl rfl (Nat.le_of_ble_eq_true rfl) rfl (by simp) ?_
    refine ex_goto 22 dX8_init_45 rfl ?_
    exact ih (i + 1) (by omega)
theorem iX8 {h : PH} {L b : Nat} (hO : OB h 8 b) (hL : h.1.length = L) : METv mX8_init [vr b] h (56, 669) (fun h1 => h1 = fX8 h L b) := by
  refine met_of_ex (by decide +kernel) (Nat.le_of_ble_eq_true rfl) ?_
  show EX mX8_init 0 [some (vr b), none] [] h (56, 669) _
  refine ex_aload_n 1 dX8_init_0 rfl rfl ?_
  refine ex_objInit 4 dX8_init_1 rfl (wt1 107 rfl rfl) (wt1 24 rfl rfl) (wt1 25 rfl rfl) (Nat.le_of_ble_eq_true rfl) (Nat.le_of_ble_eq_true rfl) ?_
  refine ex_aload_n 5 dX8_init_4 rfl rfl ?_
  refine ex_bipush 7 dX8_init_5 rfl ⟨by decide, by decide⟩ ?_
  refine ex_anew (N := 18) (c0 := 0) 21 10 (55, 651) dX8_init_7 rfl (Or.inl ⟨rfl, rfl⟩) rfl (wt1 108 rfl rfl) rfl (by decide) rfl (fun h1 e1 => ?_)
  subst e1
  refine q_putRF 8 0 13 dX8_init_10 rfl fiX8_11 ff8_0 rfl rfl hO.new (fun h1 e1 => ?_)
  replace e1 := e1.trans (pnR_eq hL)
  subst e1
  refine ex_aload_n 14 dX8_init_13 rfl rfl ?_
  refine ex_iconst 15 dX8_init_14 rfl ?_
  refine ex_newa (N := 3) 17 (54, 648) dX8_init_15 rfl (wt1 43 rfl rfl) rfl (by decide) rfl (fun h1 e1 => ?_)
  subst e1
  refine q_putRF 8 1 20 dX8_init_17 rfl fiX8_17 ff8_1 rfl rfl (hO.pnR).new (fun h1 e1 => ?_)
  replace e1 := e1.trans (pnA_eq (pnR_len hL))
  subst e1
  refine ex_iconst 21 dX8_init_20 rfl ?_
  refine q_istore_n [some (vr b), some (vi ((0 : Nat) : Int))] 22 dX8_init_21 rfl (Nat.le_of_ble_eq_true rfl) rfl rfl ?_
  have hb : b < L := by rw [← hL]; obtain ⟨x, hx⟩ := hO; exact (List.getElem?_eq_some_iff.mp hx).1
  refine lX8 hO.pnR.pnA (pnA_len (pnR_len hL)) ?_ ?_ (by omega) 18 0 rfl
  · have n1 : b ≠ L := by omega
    have n2 : b ≠ L + 1 := by omega
    have n3 : b ≠ L + 1 + 1 := by omega
    simp [pnA, pnR, pxn, px_upR, n1, n2, n3]
  · show ((h.1 ++ [(21, 18)]) ++ _)[L]? = _
    rw [List.append_assoc, List.getElem?_append_right (by omega), hL, Nat.sub_self]
    rfl
def st2 (h : PH) (L a i : Nat) : PH := px_upR (fX1 (pxn h L 1 9) (L + 1) L) a i (some L)
def it2 (h : PH) (L a : Nat) : Nat → PH
  | 0 => h
  | i + 1 => st2 (it2 h L a i) (L + 2 * i) a i
def fX2 (h : PH) (L b : Nat) : PH := it2 (pnA (pnA (pnR h L b 0 22 18) (L + 1) b 1 18) (L + 1 + 1) b 5 18) (L + 1 + 1 + 1) L 18
theorem st2_T (h : PH) (L a i : Nat) : (st2 h L a i).1 = h.1 ++ [(1, 9), (20, 5)] := by
  simp [st2, fX1, pnA, pxn, px_upR, px_upI]
theorem it2_T (h : PH) (L a : Nat) : ∀ i, ∃ r, (it2 h L a i).1 = h.1 ++ r ∧ r.length = 2 * i := by
  intro i
  induction i with
  | zero => exact ⟨[], (List.append_nil _).symm, rfl⟩
  | succ i ih =>
    obtain ⟨r, h1, h2⟩ := ih
    refine ⟨r ++ [(1, 9), (20, 5)], ?_, by rw [List.length_append, h2]; show _ + 2 = _; omega⟩
    show (st2 (it2 h L a i) (L + 2 * i) a i).1 = _
    rw [st2_T, h1, List.append_assoc]
theorem it2_R {h : PH} {L a b k : Nat} (hb : b < L) (hn : b ≠ a) : ∀ i, (it2 h L a i).2.2 b k = h.2.2 b k := by
  intro i
  induction i with
  | zero => rfl
  | succ i ih =>
    show (st2 (it2 h L a i) (L + 2 * i) a i).2.2 b k = _
    rw [← ih]
    have n1 : b ≠ L + 2 * i := by omega
    have n2 : b ≠ L + 2 * i + 1 := by omega
    have n3 : b ≠ L + 2 * i + 1 + 1 := by omega
    simp [st2, fX1, pnA, pxn, px_upR, px_upI, hn, n1, n2, n3]
theorem lX2 {h : PH} {L b a : Nat} (hO : OB h 2 b) (hL : h.1.length = L) (ha : h.2.2 b 0 = some a) (hA : h.1[a]? = some (22, 18)) (hn : b ≠ a) : ∀ (n i : Nat), i + n = 18 → EX mX2_init 31 [some (vr b), some (vi ((i : Nat) : Int))] [] (it2 h L a i) (2 * n, 14 * n) (fun v h1 => v = none ∧ h1 = it2 h L a 18) := by
  have hb : b < L := by rw [← hL]; obtain ⟨x, hx⟩ := hO; exact (List.getElem?_eq_some_iff.mp hx).1
  intro n
  induction n with
  | zero =>
    intro i hi
    have e : i = 18 := by omega
    subst e
    refine ex_iload_n 32 dX2_init_31 rfl rfl ?_
    refine ex_bipush 34 dX2_init_32 rfl ⟨by decide, by decide⟩ ?_
    refine ex_icmp_ge 56 37 dX2_init_34 rfl rfl ⟨by decide, by decide⟩ ⟨by decide, by decide⟩ (fun _ => ?_) (fun z => absurd z (by decide))
    exact ex_vret dX2_init_56 rfl ⟨rfl, rfl⟩
  | succ n ih =>
    intro i hi
    obtain ⟨r, hr, hrl⟩ := it2_T h L a i
    have hLi : (it2 h L a i).1.length = L + 2 * i := by rw [hr, List.length_append, hrl, hL]
    have hOi : OB (it2 h L a i) 2 b := hO.app hr
    have hAi : (it2 h L a i).1[a]? = some (22, 18) := by rw [hr, List.getElem?_append_left (List.getElem?_eq_some_iff.mp hA).1]; exact hA
    have hRi : (it2 h L a i).2.2 b 0 = some a := (it2_R hb hn i).trans ha
    refine ex_iload_n 32 dX2_init_31 rfl rfl ?_
    refine ex_bipush 34 dX2_init_32 rfl ⟨by decide, by decide⟩ ?_
    refine ex_icmp_ge 56 37 dX2_init_34 rfl rfl ⟨by omega, by omega⟩ ⟨by decide, by decide⟩ (fun z => by omega) (fun _ => ?_)
    refine ex_aload_n 38 dX2_init_37 rfl rfl ?_
    refine q_getR 2 0 41 dX2_init_38 rfl fiX2_11 rfl hOi hRi ?_
    refine ex_iload_n 42 dX2_init_41 rfl rfl ?_
    refine ex_new 1 45 (2 * n + 1, 14 * n + 5) dX2_init_42 rfl rfl (wt2 13 rfl rfl) (wt2 15 rfl rfl) (wt1 10 rfl rfl) rfl (by show (2 * (n + 1), 14 * (n + 1)) = (2 * n + 1 + 1, 14 * n + 5 + 9); rw [Prod.mk.injEq]; omega) (fun h1 e1 => ?_)
    subst e1
    rw [hLi, pxn_eq hLi]
    refine ex_dup 46 dX2_init_45 rfl rfl ?_
    refine q_callINv (B1 := (1, 5)) (B2 := (2 * n, 14 * n)) (st := [vr (L + 2 * i), vi (i : Int), vr a]) [] 49 dX2_init_46 rfl cvX2_24 rfl rfl ⟨(Nat.le_of_ble_eq_true rfl), (Nat.le_of_ble_eq_true rfl)⟩ (Nat.le_of_ble_eq_true rfl) (by rw [Prod.mk.injEq]; omega) (iX1 (OBn _ _ _ _ hLi) (pxn_len hLi)) (fun h1 e1 => ?_)
    subst e1
    refine ex_aast (c0 := 1) 22 50 dX2_init_49 rfl (by decide) ⟨18, ?_, by omega, by omega, by omega⟩ ?_ (fun h1 e1 => ?_)
    · rw [show (fX1 (pxn (it2 h L a i) (L + 2 * i) 1 9) (L + 2 * i + 1) (L + 2 * i)).1 = (it2 h L a i).1 ++ [(1, 9), (20, 5)] from by simp [fX1, pnA, pxn, px_upR, px_upI]]
      rw [List.getElem?_append_left (List.getElem?_eq_some_iff.mp hAi).1]
      exact hAi
    · exact ((OBn _ _ _ _ hLi).pnA)
    rw [Int.toNat_natCast] at e1
    replace e1 : h1 = it2 h L a (i + 1) := e1
    subst e1
    refine q_iinc [some (vr b), some (vi (((i + 1 : Nat) : Int)))] 53 dX2_init_50 rfl rfl (Nat.le_of_ble_eq_true rfl) rfl (by simp) ?_
    refine ex_goto 31 dX2_init_53 rfl ?_
    exact ih (i + 1) (by omega)
theorem iX2 {h : PH} {L b : Nat} (hO : OB h 2 b) (hL : h.1.length = L) : METv mX2_init [vr b] h (39, 306) (fun h1 => h1 = fX2 h L b) := by
  refine met_of_ex (by decide +kernel) (Nat.le_of_ble_eq_true rfl) ?_
  show EX mX2_init 0 [some (vr b), none] [] h (39, 306) _
  refine ex_aload_n 1 dX2_init_0 rfl rfl ?_
  refine ex_objInit 4 dX2_init_1 rfl (wt2 12 rfl rfl) (wt1 24 rfl rfl) (wt1 25 rfl rfl) (Nat.le_of_ble_eq_true rfl) (Nat.le_of_ble_eq_true rfl) ?_
  refine ex_aload_n 5 dX2_init_4 rfl rfl ?_
  refine ex_bipush 7 dX2_init_5 rfl ⟨by decide, by decide⟩ ?_
  refine ex_anew (N := 18) (c0 := 1) 22 10 (38, 288) dX2_init_7 rfl (Or.inr ⟨rfl, rfl⟩) rfl (wt2 13 rfl rfl) rfl (by decide) rfl (fun h1 e1 => ?_)
  subst e1
  refine q_putRF 2 0 13 dX2_init_10 rfl fiX2_11 ff2_0 rfl rfl hO.new (fun h1 e1 => ?_)
  replace e1 := e1.trans (pnR_eq hL)
  subst e1
  refine ex_aload_n 14 dX2_init_13 rfl rfl ?_
  refine ex_bipush 16 dX2_init_14 rfl ⟨by decide, by decide⟩ ?_
  refine ex_newa (N := 18) 18 (37, 270) dX2_init_16 rfl (wt1 43 rfl rfl) rfl (by decide) rfl (fun h1 e1 => ?_)
  subst e1
  refine q_putRF 2 1 21 dX2_init_18 rfl fiX2_17 ff2_1 rfl rfl (hO.pnR).new (fun h1 e1 => ?_)
  replace e1 := e1.trans (pnA_eq (pnR_len hL))
  subst e1
  refine ex_aload_n 22 dX2_init_21 rfl rfl ?_
  refine ex_bipush 24 dX2_init_22 rfl ⟨by decide, by decide⟩ ?_
  refine ex_newa (N := 18) 26 (36, 252) dX2_init_24 rfl (wt1 43 rfl rfl) rfl (by decide) rfl (fun h1 e1 => ?_)
  subst e1
  refine q_putRF 2 5 29 dX2_init_26 rfl fiX2_21 ff2_5 rfl rfl ((hO.pnR).pnA).new (fun h1 e1 => ?_)
  replace e1 := e1.trans (pnA_eq (pnA_len (pnR_len hL)))
  subst e1
  refine ex_iconst 30 dX2_init_29 rfl ?_
  refine q_istore_n [some (vr b), some (vi ((0 : Nat) : Int))] 31 dX2_init_30 rfl (Nat.le_of_ble_eq_true rfl) rfl rfl ?_
  have hb : b < L := by rw [← hL]; obtain ⟨x, hx⟩ := hO; exact (List.getElem?_eq_some_iff.mp hx).1
  refine lX2 hO.pnR.pnA.pnA (pnA_len (pnA_len (pnR_len hL))) ?_ ?_ (by omega) 18 0 rfl
  · have n1 : b ≠ L := by omega
    have n2 : b ≠ L + 1 := by omega
    have n3 : b ≠ L + 1 + 1 := by omega
    simp [pnA, pnR, pxn, px_upR, n1, n2, n3]
  · show ((h.1 ++ [(22, 18)]) ++ _ ++ _)[L]? = _
    rw [List.append_assoc, List.append_assoc, List.getElem?_append_right (by omega), hL, Nat.sub_self]
    rfl

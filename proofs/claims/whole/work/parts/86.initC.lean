/-! CONSTRUCTORS: the class -/
theorem fX5_T (h : PH) (L b : Nat) : ∃ r, (fX5 h L b).1 = h.1 ++ r ∧ r.length = 1 := by
  refine ⟨_, (by simp [fX5, pnA, pnG, pxn, pxg, px_upR, List.append_assoc]; first | done | rfl), ?_⟩
  simp
def pnO5 (h : PH) (L b f : Nat) : PH := px_upR (fX5 (pxn h L 5 2) (L + 1) L) b f (some L)
theorem pnO5_len {h : PH} {L b f : Nat} (hL : h.1.length = L) : (pnO5 h L b f).1.length = L + 1 + 1 := by
  obtain ⟨r, h1, h2⟩ := fX5_T (pxn h L 5 2) (L + 1) L
  show (fX5 (pxn h L 5 2) (L + 1) L).1.length = _
  rw [h1, List.length_append, pxn_len hL, h2]
theorem OB.f5 {h : PH} {L b c i : Nat} (hO : OB h c i) : OB (fX5 h L b) c i := by
  obtain ⟨r, h1, h2⟩ := fX5_T h L b
  exact hO.app h1
theorem OB.pnO5 {h : PH} {L b f c i : Nat} (hO : OB h c i) : OB (pnO5 h L b f) c i := OB.f5 (L := L + 1) (b := L) hO.pxn
theorem fX7_T (h : PH) (L b : Nat) : ∃ r, (fX7 h L b).1 = h.1 ++ r ∧ r.length = 1 := by
  refine ⟨_, (by simp [fX7, pnA, pnG, pxn, pxg, px_upR, List.append_assoc]; first | done | rfl), ?_⟩
  simp
def pnO7 (h : PH) (L b f : Nat) : PH := px_upR (fX7 (pxn h L 7 10) (L + 1) L) b f (some L)
theorem pnO7_len {h : PH} {L b f : Nat} (hL : h.1.length = L) : (pnO7 h L b f).1.length = L + 1 + 1 := by
  obtain ⟨r, h1, h2⟩ := fX7_T (pxn h L 7 10) (L + 1) L
  show (fX7 (pxn h L 7 10) (L + 1) L).1.length = _
  rw [h1, List.length_append, pxn_len hL, h2]
theorem OB.f7 {h : PH} {L b c i : Nat} (hO : OB h c i) : OB (fX7 h L b) c i := by
  obtain ⟨r, h1, h2⟩ := fX7_T h L b
  exact hO.app h1
theorem OB.pnO7 {h : PH} {L b f c i : Nat} (hO : OB h c i) : OB (pnO7 h L b f) c i := OB.f7 (L := L + 1) (b := L) hO.pxn
theorem fX4_T (h : PH) (L b : Nat) : ∃ r, (fX4 h L b).1 = h.1 ++ r ∧ r.length = 2 := by
  refine ⟨_, (by simp [fX4, pnA, pnG, pxn, pxg, px_upR, List.append_assoc]; first | done | rfl), ?_⟩
  simp
def pnO4 (h : PH) (L b f : Nat) : PH := px_upR (fX4 (pxn h L 4 2) (L + 1) L) b f (some L)
theorem pnO4_len {h : PH} {L b f : Nat} (hL : h.1.length = L) : (pnO4 h L b f).1.length = L + 1 + 2 := by
  obtain ⟨r, h1, h2⟩ := fX4_T (pxn h L 4 2) (L + 1) L
  show (fX4 (pxn h L 4 2) (L + 1) L).1.length = _
  rw [h1, List.length_append, pxn_len hL, h2]
theorem OB.f4 {h : PH} {L b c i : Nat} (hO : OB h c i) : OB (fX4 h L b) c i := by
  obtain ⟨r, h1, h2⟩ := fX4_T h L b
  exact hO.app h1
theorem OB.pnO4 {h : PH} {L b f c i : Nat} (hO : OB h c i) : OB (pnO4 h L b f) c i := OB.f4 (L := L + 1) (b := L) hO.pxn
theorem fX8_T (h : PH) (L b : Nat) : ∃ r, (fX8 h L b).1 = h.1 ++ r ∧ r.length = 56 := by
  obtain ⟨r, h1, h2⟩ := it8_T (pnA (pnR h L b 0 21 18) (L + 1) b 1 3) (L + 1 + 1) L 18
  refine ⟨[(21, 18), (20, 3)] ++ r, ?_, by rw [List.length_append, h2]; rfl⟩
  show (it8 _ _ _ 18).1 = _
  rw [h1]
  simp [pnA, pnR, pxn, px_upR]
def pnO8 (h : PH) (L b f : Nat) : PH := px_upR (fX8 (pxn h L 8 4) (L + 1) L) b f (some L)
theorem pnO8_len {h : PH} {L b f : Nat} (hL : h.1.length = L) : (pnO8 h L b f).1.length = L + 1 + 56 := by
  obtain ⟨r, h1, h2⟩ := fX8_T (pxn h L 8 4) (L + 1) L
  show (fX8 (pxn h L 8 4) (L + 1) L).1.length = _
  rw [h1, List.length_append, pxn_len hL, h2]
theorem OB.f8 {h : PH} {L b c i : Nat} (hO : OB h c i) : OB (fX8 h L b) c i := by
  obtain ⟨r, h1, h2⟩ := fX8_T h L b
  exact hO.app h1
theorem OB.pnO8 {h : PH} {L b f c i : Nat} (hO : OB h c i) : OB (pnO8 h L b f) c i := OB.f8 (L := L + 1) (b := L) hO.pxn
theorem fX6_T (h : PH) (L b : Nat) : ∃ r, (fX6 h L b).1 = h.1 ++ r ∧ r.length = 38 := by
  refine ⟨_, (by simp [fX6, pnA, pnG, pxn, pxg, px_upR, List.append_assoc]; first | done | rfl), ?_⟩
  simp
def pnO6 (h : PH) (L b f : Nat) : PH := px_upR (fX6 (pxn h L 6 3) (L + 1) L) b f (some L)
theorem pnO6_len {h : PH} {L b f : Nat} (hL : h.1.length = L) : (pnO6 h L b f).1.length = L + 1 + 38 := by
  obtain ⟨r, h1, h2⟩ := fX6_T (pxn h L 6 3) (L + 1) L
  show (fX6 (pxn h L 6 3) (L + 1) L).1.length = _
  rw [h1, List.length_append, pxn_len hL, h2]
theorem OB.f6 {h : PH} {L b c i : Nat} (hO : OB h c i) : OB (fX6 h L b) c i := by
  obtain ⟨r, h1, h2⟩ := fX6_T h L b
  exact hO.app h1
theorem OB.pnO6 {h : PH} {L b f c i : Nat} (hO : OB h c i) : OB (pnO6 h L b f) c i := OB.f6 (L := L + 1) (b := L) hO.pxn
theorem fX3_T (h : PH) (L b : Nat) : ∃ r, (fX3 h L b).1 = h.1 ++ r ∧ r.length = 12 := by
  refine ⟨_, (by simp [fX3, pnA, pnG, pxn, pxg, px_upR, List.append_assoc]; first | done | rfl), ?_⟩
  simp
def pnO3 (h : PH) (L b f : Nat) : PH := px_upR (fX3 (pxn h L 3 8) (L + 1) L) b f (some L)
theorem pnO3_len {h : PH} {L b f : Nat} (hL : h.1.length = L) : (pnO3 h L b f).1.length = L + 1 + 12 := by
  obtain ⟨r, h1, h2⟩ := fX3_T (pxn h L 3 8) (L + 1) L
  show (fX3 (pxn h L 3 8) (L + 1) L).1.length = _
  rw [h1, List.length_append, pxn_len hL, h2]
theorem OB.f3 {h : PH} {L b c i : Nat} (hO : OB h c i) : OB (fX3 h L b) c i := by
  obtain ⟨r, h1, h2⟩ := fX3_T h L b
  exact hO.app h1
theorem OB.pnO3 {h : PH} {L b f c i : Nat} (hO : OB h c i) : OB (pnO3 h L b f) c i := OB.f3 (L := L + 1) (b := L) hO.pxn
theorem fX2_T (h : PH) (L b : Nat) : ∃ r, (fX2 h L b).1 = h.1 ++ r ∧ r.length = 39 := by
  obtain ⟨r, h1, h2⟩ := it2_T (pnA (pnA (pnR h L b 0 22 18) (L + 1) b 1 18) (L + 1 + 1) b 5 18) (L + 1 + 1 + 1) L 18
  refine ⟨[(22, 18), (20, 18), (20, 18)] ++ r, ?_, by rw [List.length_append, h2]; rfl⟩
  show (it2 _ _ _ 18).1 = _
  rw [h1]
  simp [pnA, pnR, pxn, px_upR]
def pnO2 (h : PH) (L b f : Nat) : PH := px_upR (fX2 (pxn h L 2 6) (L + 1) L) b f (some L)
theorem pnO2_len {h : PH} {L b f : Nat} (hL : h.1.length = L) : (pnO2 h L b f).1.length = L + 1 + 39 := by
  obtain ⟨r, h1, h2⟩ := fX2_T (pxn h L 2 6) (L + 1) L
  show (fX2 (pxn h L 2 6) (L + 1) L).1.length = _
  rw [h1, List.length_append, pxn_len hL, h2]
theorem OB.f2 {h : PH} {L b c i : Nat} (hO : OB h c i) : OB (fX2 h L b) c i := by
  obtain ⟨r, h1, h2⟩ := fX2_T h L b
  exact hO.app h1
theorem OB.pnO2 {h : PH} {L b f c i : Nat} (hO : OB h c i) : OB (pnO2 h L b f) c i := OB.f2 (L := L + 1) (b := L) hO.pxn
def fX9 (h : PH) (L b : Nat) : PH := (px_upI (px_upI (px_upI (px_upI (pnO2 (pnO3 (pnO6 (pnO8 (pnO4 (pnO7 (pnO5 h (L) b 0) (L + 1 + 1) b 1) (L + 1 + 1 + 1 + 1) b 2) (L + 1 + 1 + 1 + 1 + 1 + 2) b 3) (L + 1 + 1 + 1 + 1 + 1 + 2 + 1 + 56) b 4) (L + 1 + 1 + 1 + 1 + 1 + 2 + 1 + 56 + 1 + 38) b 5) (L + 1 + 1 + 1 + 1 + 1 + 2 + 1 + 56 + 1 + 38 + 1 + 12) b 6) b 7 600) b 8 1) b 9 40) b 11 1)
theorem iX9 {h : PH} {L b : Nat} (hO : OB h 9 b) (hL : h.1.length = L) : METv mX9_init [vr b] h (156, 2839) (fun h1 => h1 = fX9 h L b) := by
  refine met_of_ex (by decide +kernel) (Nat.le_of_ble_eq_true rfl) ?_
  show EX mX9_init 0 [some (vr b)] [] h (156, 2839) _
  refine ex_aload_n 1 dX9_init_0 rfl rfl ?_
  refine ex_objInit 4 dX9_init_1 rfl (wt1 23 rfl rfl) (wt1 24 rfl rfl) (wt1 25 rfl rfl) (Nat.le_of_ble_eq_true rfl) (Nat.le_of_ble_eq_true rfl) ?_
  refine ex_aload_n 5 dX9_init_4 rfl rfl ?_
  refine ex_new 5 8 (155, 2837) dX9_init_5 rfl rfl (wt1 26 rfl rfl) (wt1 27 rfl rfl) (wt1 2 rfl rfl) rfl rfl (fun h1 e1 => ?_)
  subst e1
  rw [pxn_eq hL, hL]
  refine ex_dup 9 dX9_init_8 rfl rfl ?_
  refine q_callINv (B1 := (1, 60)) (B2 := (154, 2777)) (st := [vr _, vr b]) [] 12 dX9_init_9 rfl cvX9_9 rfl rfl ⟨(Nat.le_of_ble_eq_true rfl), (Nat.le_of_ble_eq_true rfl)⟩ (Nat.le_of_ble_eq_true rfl) rfl (iX5 (OBn _ _ _ _ hL) (pxn_len hL)) (fun h1 e1 => ?_)
  subst e1
  refine q_putRF 9 0 15 dX9_init_12 rfl fiX9_10 ff9_0 rfl rfl (OB.f5 hO.pxn) (fun h1 e1 => ?_)
  replace e1 : h1 = pnO5 _ _ _ _ := e1
  subst e1
  refine ex_aload_n 16 dX9_init_15 rfl rfl ?_
  refine ex_new 7 19 (153, 2767) dX9_init_16 rfl rfl (wt1 44 rfl rfl) (wt1 45 rfl rfl) (wt1 3 rfl rfl) rfl rfl (fun h1 e1 => ?_)
  subst e1
  rw [pxn_eq (pnO5_len hL), (pnO5_len hL)]
  refine ex_dup 20 dX9_init_19 rfl rfl ?_
  refine q_callINv (B1 := (1, 3)) (B2 := (152, 2764)) (st := [vr _, vr b]) [] 23 dX9_init_20 rfl cvX9_18 rfl rfl ⟨(Nat.le_of_ble_eq_true rfl), (Nat.le_of_ble_eq_true rfl)⟩ (Nat.le_of_ble_eq_true rfl) rfl (iX7 (OBn _ _ _ _ (pnO5_len hL)) (pxn_len (pnO5_len hL))) (fun h1 e1 => ?_)
  subst e1
  refine q_putRF 9 1 26 dX9_init_23 rfl fiX9_19 ff9_1 rfl rfl (OB.f7 (hO.pnO5).pxn) (fun h1 e1 => ?_)
  replace e1 : h1 = pnO7 _ _ _ _ := e1
  subst e1
  refine ex_aload_n 27 dX9_init_26 rfl rfl ?_
  refine ex_new 4 30 (151, 2762) dX9_init_27 rfl rfl (wt1 89 rfl rfl) (wt1 90 rfl rfl) (wt1 4 rfl rfl) rfl rfl (fun h1 e1 => ?_)
  subst e1
  rw [pxn_eq (pnO7_len (pnO5_len hL)), (pnO7_len (pnO5_len hL))]
  refine ex_dup 31 dX9_init_30 rfl rfl ?_
  refine q_callINv (B1 := (2, 18)) (B2 := (149, 2744)) (st := [vr _, vr b]) [] 34 dX9_init_31 rfl cvX9_25 rfl rfl ⟨(Nat.le_of_ble_eq_true rfl), (Nat.le_of_ble_eq_true rfl)⟩ (Nat.le_of_ble_eq_true rfl) rfl (iX4 (OBn _ _ _ _ (pnO7_len (pnO5_len hL))) (pxn_len (pnO7_len (pnO5_len hL)))) (fun h1 e1 => ?_)
  subst e1
  refine q_putRF 9 2 37 dX9_init_34 rfl fiX9_26 ff9_2 rfl rfl (OB.f4 ((hO.pnO5).pnO7).pxn) (fun h1 e1 => ?_)
  replace e1 : h1 = pnO4 _ _ _ _ := e1
  subst e1
  refine ex_aload_n 38 dX9_init_37 rfl rfl ?_
  refine ex_new 8 41 (148, 2740) dX9_init_38 rfl rfl (wt1 102 rfl rfl) (wt1 103 rfl rfl) (wt1 5 rfl rfl) rfl rfl (fun h1 e1 => ?_)
  subst e1
  rw [pxn_eq (pnO4_len (pnO7_len (pnO5_len hL))), (pnO4_len (pnO7_len (pnO5_len hL)))]
  refine ex_dup 42 dX9_init_41 rfl rfl ?_
  refine q_callIv (B1 := (56, 669)) (B2 := (92, 2071)) (st := [vr _, vr b]) [] 45 dX9_init_42 rfl cvX9_32 rfl rfl ⟨(Nat.le_of_ble_eq_true rfl), (Nat.le_of_ble_eq_true rfl)⟩ (Nat.le_of_ble_eq_true rfl) rfl (iX8 (OBn _ _ _ _ (pnO4_len (pnO7_len (pnO5_len hL)))) (pxn_len (pnO4_len (pnO7_len (pnO5_len hL))))) (fun h1 e1 => ?_)
  subst e1
  refine q_putRF 9 3 48 dX9_init_45 rfl fiX9_33 ff9_3 rfl rfl (OB.f8 (((hO.pnO5).pnO7).pnO4).pxn) (fun h1 e1 => ?_)
  replace e1 : h1 = pnO8 _ _ _ _ := e1
  subst e1
  refine ex_aload_n 49 dX9_init_48 rfl rfl ?_
  refine ex_new 6 52 (91, 2068) dX9_init_49 rfl rfl (wt1 189 rfl rfl) (wt1 190 rfl rfl) (wt1 7 rfl rfl) rfl rfl (fun h1 e1 => ?_)
  subst e1
  rw [pxn_eq (pnO8_len (pnO4_len (pnO7_len (pnO5_len hL)))), (pnO8_len (pnO4_len (pnO7_len (pnO5_len hL))))]
  refine ex_dup 53 dX9_init_52 rfl rfl ?_
  refine q_callINv (B1 := (38, 684)) (B2 := (53, 1384)) (st := [vr _, vr b]) [] 56 dX9_init_53 rfl cvX9_39 rfl rfl ⟨(Nat.le_of_ble_eq_true rfl), (Nat.le_of_ble_eq_true rfl)⟩ (Nat.le_of_ble_eq_true rfl) rfl (iX6 (OBn _ _ _ _ (pnO8_len (pnO4_len (pnO7_len (pnO5_len hL))))) (pxn_len (pnO8_len (pnO4_len (pnO7_len (pnO5_len hL)))))) (fun h1 e1 => ?_)
  subst e1
  refine q_putRF 9 4 59 dX9_init_56 rfl fiX9_40 ff9_4 rfl rfl (OB.f6 ((((hO.pnO5).pnO7).pnO4).pnO8).pxn) (fun h1 e1 => ?_)
  replace e1 : h1 = pnO6 _ _ _ _ := e1
  subst e1
  refine ex_aload_n 60 dX9_init_59 rfl rfl ?_
  refine ex_new 3 63 (52, 1376) dX9_init_60 rfl rfl (wt1 211 rfl rfl) (wt1 212 rfl rfl) (wt1 8 rfl rfl) rfl rfl (fun h1 e1 => ?_)
  subst e1
  rw [pxn_eq (pnO6_len (pnO8_len (pnO4_len (pnO7_len (pnO5_len hL))))), (pnO6_len (pnO8_len (pnO4_len (pnO7_len (pnO5_len hL)))))]
  refine ex_dup 64 dX9_init_63 rfl rfl ?_
  refine q_callINv (B1 := (12, 1064)) (B2 := (40, 312)) (st := [vr _, vr b]) [] 67 dX9_init_64 rfl cvX9_46 rfl rfl ⟨(Nat.le_of_ble_eq_true rfl), (Nat.le_of_ble_eq_true rfl)⟩ (Nat.le_of_ble_eq_true rfl) rfl (iX3 (OBn _ _ _ _ (pnO6_len (pnO8_len (pnO4_len (pnO7_len (pnO5_len hL)))))) (pxn_len (pnO6_len (pnO8_len (pnO4_len (pnO7_len (pnO5_len hL))))))) (fun h1 e1 => ?_)
  subst e1
  refine q_putRF 9 5 70 dX9_init_67 rfl fiX9_47 ff9_5 rfl rfl (OB.f3 (((((hO.pnO5).pnO7).pnO4).pnO8).pnO6).pxn) (fun h1 e1 => ?_)
  replace e1 : h1 = pnO3 _ _ _ _ := e1
  subst e1
  refine ex_aload_n 71 dX9_init_70 rfl rfl ?_
  refine ex_new 2 74 (39, 306) dX9_init_71 rfl rfl (wt2 7 rfl rfl) (wt2 8 rfl rfl) (wt1 9 rfl rfl) rfl rfl (fun h1 e1 => ?_)
  subst e1
  rw [pxn_eq (pnO3_len (pnO6_len (pnO8_len (pnO4_len (pnO7_len (pnO5_len hL)))))), (pnO3_len (pnO6_len (pnO8_len (pnO4_len (pnO7_len (pnO5_len hL))))))]
  refine ex_dup 75 dX9_init_74 rfl rfl ?_
  refine q_callIv (B1 := (39, 306)) (B2 := (0, 0)) (st := [vr _, vr b]) [] 78 dX9_init_75 rfl cvX9_53 rfl rfl ⟨(Nat.le_of_ble_eq_true rfl), (Nat.le_of_ble_eq_true rfl)⟩ (Nat.le_of_ble_eq_true rfl) rfl (iX2 (OBn _ _ _ _ (pnO3_len (pnO6_len (pnO8_len (pnO4_len (pnO7_len (pnO5_len hL))))))) (pxn_len (pnO3_len (pnO6_len (pnO8_len (pnO4_len (pnO7_len (pnO5_len hL)))))))) (fun h1 e1 => ?_)
  subst e1
  refine q_putRF 9 6 81 dX9_init_78 rfl fiX9_54 ff9_6 rfl rfl (OB.f2 ((((((hO.pnO5).pnO7).pnO4).pnO8).pnO6).pnO3).pxn) (fun h1 e1 => ?_)
  replace e1 : h1 = pnO2 _ _ _ _ := e1
  subst e1
  refine ex_aload_n 82 dX9_init_81 rfl rfl ?_
  refine ex_sipush 85 dX9_init_82 rfl ⟨by decide, by decide⟩ ?_
  refine q_putI 9 7 88 dX9_init_85 rfl fiX9_58 ff9_7 rfl (((((((hO.pnO5).pnO7).pnO4).pnO8).pnO6).pnO3).pnO2) (fun h1 e1 => ?_)
  subst e1
  refine ex_aload_n 89 dX9_init_88 rfl rfl ?_
  refine ex_iconst 90 dX9_init_89 rfl ?_
  refine q_putI 9 8 93 dX9_init_90 rfl fiX9_62 ff9_8 rfl ((((((((hO.pnO5).pnO7).pnO4).pnO8).pnO6).pnO3).pnO2).upI) (fun h1 e1 => ?_)
  subst e1
  refine ex_aload_n 94 dX9_init_93 rfl rfl ?_
  refine ex_bipush 96 dX9_init_94 rfl ⟨by decide, by decide⟩ ?_
  refine q_putI 9 9 99 dX9_init_96 rfl fiX9_65 ff9_9 rfl (((((((((hO.pnO5).pnO7).pnO4).pnO8).pnO6).pnO3).pnO2).upI).upI) (fun h1 e1 => ?_)
  subst e1
  refine ex_aload_n 100 dX9_init_99 rfl rfl ?_
  refine ex_iconst 101 dX9_init_100 rfl ?_
  refine q_putZ 9 11 104 dX9_init_101 rfl fiX9_68 ff9_11 rfl ((((((((((hO.pnO5).pnO7).pnO4).pnO8).pnO6).pnO3).pnO2).upI).upI).upI) (Or.inr rfl) (fun h1 e1 => ?_)
  subst e1
  exact ex_vret dX9_init_104 rfl ⟨rfl, rfl⟩

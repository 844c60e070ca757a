set_option maxRecDepth 4000 in
theorem uX2_settle {P : GS → Prop} (g0 : GS) (x4 : Int) (hyp : ∀ g2 : GS, g2 = gI g0 117 2 0 → (∀ g5 : GS, g5 = gI g2 117 4 0 → (MXv mX2_openByMatch [vr 117, vr 8, vr 104] g5 (fun g7 => ∀ g9 : GS, g9 = gI g7 117 3 (g7.1 117 2) → (XXv mX2_settle 27 [some (vr 117), some (vr 8), some (vr 65), none, some (vi x4), some (vi 0)] [] g9 P))))) : MXv mX2_settle [vr 117, vr 8, vr 65, vr 104, vi x4] g0 P := by
  refine met_of_ex (by decide +kernel) (Nat.le_of_ble_eq_true rfl) ?_
  show EX mX2_settle 0 [some (vr 117), some (vr 8), some (vr 65), some (vr 104), some (vi x4), none] [] (hX g0) (0, 0) _
  refine ex_aload_n 1 dX2_settle_0 rfl rfl ?_
  refine ex_iconst 2 dX2_settle_1 rfl ?_
  refine q_putI 2 2 5 dX2_settle_2 rfl fiX2_25 ff2_2 rfl ⟨_, rfl⟩ (fun h1 e1 => ?_)
  obtain ⟨g2, eg3⟩ : ∃ z : GS, z = gI g0 117 2 0 := ⟨_, rfl⟩
  have hyp := hyp g2 eg3
  obtain rfl : h1 = hX g2 := by rw [e1, eg3]; exact rfl
  clear e1
  refine ex_aload_n 6 dX2_settle_5 rfl rfl ?_
  refine ex_iconst 7 dX2_settle_6 rfl ?_
  refine q_putI 2 4 10 dX2_settle_7 rfl fiX2_29 ff2_4 rfl ⟨_, rfl⟩ (fun h1 e4 => ?_)
  obtain ⟨g5, eg6⟩ : ∃ z : GS, z = gI g2 117 4 0 := ⟨_, rfl⟩
  have hyp := hyp g5 eg6
  obtain rfl : h1 = hX g5 := by rw [e4, eg6]; exact rfl
  clear e4
  refine ex_aload_n 11 dX2_settle_10 rfl rfl ?_
  refine ex_aload_n 12 dX2_settle_11 rfl rfl ?_
  refine ex_aload_n 13 dX2_settle_12 rfl rfl ?_
  refine s_callVv [vr 8, vr 104] 16 dX2_settle_13 rfl cvX2_32 rfl rfl ⟨Nat.le_of_ble_eq_true rfl, Nat.le_of_ble_eq_true rfl⟩ (Nat.le_of_ble_eq_true rfl) ⟨_, rfl⟩ hyp (fun h1 hq => ?_)
  obtain ⟨g7, rfl, hyp⟩ := hq
  refine ex_aload_n 17 dX2_settle_16 rfl rfl ?_
  refine ex_aload_n 18 dX2_settle_17 rfl rfl ?_
  refine q_getI 2 2 21 dX2_settle_18 rfl fiX2_25 (Or.inl rfl) ⟨_, rfl⟩ ?_
  refine q_putI 2 3 24 dX2_settle_21 rfl fiX2_36 ff2_3 rfl ⟨_, rfl⟩ (fun h1 e8 => ?_)
  obtain ⟨g9, eg10⟩ : ∃ z : GS, z = gI g7 117 3 (g7.1 117 2) := ⟨_, rfl⟩
  have hyp := hyp g9 eg10
  obtain rfl : h1 = hX g9 := by rw [e8, eg10]; exact rfl
  clear e8
  refine ex_iconst 25 dX2_settle_24 rfl ?_
  refine q_istore [some (vr 117), some (vr 8), some (vr 65), some (vr 104), some (vi x4), some (vi 0)] 27 dX2_settle_25 rfl (Nat.le_of_ble_eq_true rfl) rfl rfl ?_
  refine ex_dropL (ls' := [some (vr 117), some (vr 8), some (vr 65), none, some (vi x4), some (vi 0)]) 3 rfl ?_
  exact hyp
set_option maxRecDepth 4000 in
theorem uX2_settle_27 {P : GS → Prop} (g0 : GS) (x4 : Int) (x5 : Int) (hyp : rng x5 ∧ rng (g0.1 117 3) ∧ (g0.1 117 3 ≤ x5 → (XXv mX2_settle 69 [some (vr 117), some (vr 8), some (vr 65), none, some (vi x4), some (vi 0)] [] g0 P)) ∧ (x5 < g0.1 117 3 → (0 ≤ x5 ∧ x5 < 18 ∧ MXi mX2_isShaky [vr (121 + 2 * (x5).toNat), vr 8, vr 65, vi x4] g0 (fun y6 g5 => (y6 = 0 ∨ y6 = 1) ∧ ∀ g9 : GS, g9 = gI g5 (121 + 2 * (x5).toNat) 8 y6 → (XXv mX2_settle 27 [some (vr 117), some (vr 8), some (vr 65), none, some (vi x4), some (vi (x5 + 1))] [] g9 P))))) : XXv mX2_settle 27 [some (vr 117), some (vr 8), some (vr 65), none, some (vi x4), some (vi x5)] [] g0 P := by
  refine ex_iload 29 dX2_settle_27 rfl rfl ?_
  refine ex_aload_n 30 dX2_settle_29 rfl rfl ?_
  refine q_getI 2 3 33 dX2_settle_30 rfl fiX2_36 (Or.inl rfl) ⟨_, rfl⟩ ?_
  obtain ⟨o1, hyp⟩ := hyp
  obtain ⟨o2, hyp⟩ := hyp
  obtain ⟨ht, hf⟩ := hyp
  refine ex_icmp_ge 66 36 dX2_settle_33 (by decide) rfl o1 o2 (fun c11 => ?_) (fun c11 => ?_)
  · have hyp := ht c11
    clear ht hf
    refine ex_iconst 67 dX2_settle_66 rfl ?_
    refine q_istore [some (vr 117), some (vr 8), some (vr 65), none, some (vi x4), some (vi 0)] 69 dX2_settle_67 rfl (Nat.le_of_ble_eq_true rfl) rfl rfl ?_
    exact hyp
  · have hyp := hf c11
    clear ht hf
    refine ex_aload_n 37 dX2_settle_36 rfl rfl ?_
    refine q_getR (a := 118) 2 0 40 dX2_settle_37 rfl fiX2_11 rfl ⟨_, rfl⟩ rfl ?_
    refine ex_iload 42 dX2_settle_40 rfl rfl ?_
    obtain ⟨o3, hyp⟩ := hyp
    obtain ⟨o4, hyp⟩ := hyp
    refine ex_aald (a := (121 + 2 * (x5).toNat)) 22 43 dX2_settle_42 rfl (by decide) (ai_of (n := 18) rfl o3 o4 (by decide)) (rxA g0 (ltN (n := 18) o3 o4)) ?_
    refine ex_aload_n 44 dX2_settle_43 rfl rfl ?_
    refine q_getR (a := 118) 2 0 47 dX2_settle_44 rfl fiX2_11 rfl ⟨_, rfl⟩ rfl ?_
    refine ex_iload 49 dX2_settle_47 rfl rfl ?_
    refine ex_aald (a := (121 + 2 * (x5).toNat)) 22 50 dX2_settle_49 rfl (by decide) (ai_of (n := 18) rfl o3 o4 (by decide)) (rxA g0 (ltN (n := 18) o3 o4)) ?_
    refine ex_aload_n 51 dX2_settle_50 rfl rfl ?_
    refine ex_aload_n 52 dX2_settle_51 rfl rfl ?_
    refine ex_iload 54 dX2_settle_52 rfl rfl ?_
    refine s_callSi [vr (121 + 2 * (x5).toNat), vr 8, vr 65, vi x4] 57 dX2_settle_54 rfl cvX2_39 rfl rfl ⟨Nat.le_of_ble_eq_true rfl, Nat.le_of_ble_eq_true rfl⟩ (Nat.le_of_ble_eq_true rfl) hyp (fun y6 h1 hq => ?_)
    obtain ⟨g5, rfl, hyp⟩ := hq
    obtain ⟨o8, hyp⟩ := hyp
    refine q_putZ 1 8 60 dX2_settle_57 rfl fiX2_43 ff1_8 rfl (obL (ltN (n := 18) o3 o4)) o8 (fun h1 e7 => ?_)
    obtain ⟨g9, eg10⟩ : ∃ z : GS, z = gI g5 (121 + 2 * (x5).toNat) 8 y6 := ⟨_, rfl⟩
    have hyp := hyp g9 eg10
    obtain rfl : h1 = hX g9 := by rw [e7, eg10]; exact rfl
    clear e7
    refine q_iinc [some (vr 117), some (vr 8), some (vr 65), none, some (vi x4), some (vi (x5 + 1))] 63 dX2_settle_60 rfl rfl (Nat.le_of_ble_eq_true rfl) rfl rfl ?_
    refine ex_goto 27 dX2_settle_63 (by decide) ?_
    exact hyp
set_option maxRecDepth 4000 in
theorem uX2_settle_69 {P : GS → Prop} (g0 : GS) (x4 : Int) (x5 : Int) (hyp : rng x5 ∧ rng (g0.1 8 2) ∧ (g0.1 8 2 ≤ x5 → (P g0)) ∧ (x5 < g0.1 8 2 → (0 ≤ x5 ∧ x5 < 18 ∧ g0.2.1 (x5).toNat < 18 ∧ rng (g0.1 (11 + 3 * (g0.2.1 (x5).toNat)) 4) ∧ (¬ g0.1 (11 + 3 * (g0.2.1 (x5).toNat)) 4 = 1 → (XXv mX2_settle 69 [some (vr 117), some (vr 8), some (vr 65), none, some (vi x4), some (vi (x5 + 1))] [] g0 P)) ∧ (g0.1 (11 + 3 * (g0.2.1 (x5).toNat)) 4 = 1 → (MXv mX2_layWedding [vr 117, vi x5, vr 8, vr 65, vi x4] g0 (fun g7 => XXv mX2_settle 69 [some (vr 117), some (vr 8), some (vr 65), none, some (vi x4), some (vi (x5 + 1))] [] g7 P)))))) : XXv mX2_settle 69 [some (vr 117), some (vr 8), some (vr 65), none, some (vi x4), some (vi x5)] [] g0 P := by
  refine ex_iload 71 dX2_settle_69 rfl rfl ?_
  refine ex_aload_n 72 dX2_settle_71 rfl rfl ?_
  refine q_getI 8 2 75 dX2_settle_72 rfl fiX2_47 (Or.inl rfl) ⟨_, rfl⟩ ?_
  obtain ⟨o1, hyp⟩ := hyp
  obtain ⟨o2, hyp⟩ := hyp
  obtain ⟨ht, hf⟩ := hyp
  refine ex_icmp_ge 108 78 dX2_settle_75 (by decide) rfl o1 o2 (fun c9 => ?_) (fun c9 => ?_)
  · have hyp := ht c9
    clear ht hf
    exact ex_vret dX2_settle_108 rfl ⟨rfl, _, rfl, hyp⟩
  · have hyp := hf c9
    clear ht hf
    refine ex_aload_n 79 dX2_settle_78 rfl rfl ?_
    refine q_getR (a := 9) 8 0 82 dX2_settle_79 rfl fiX2_50 rfl ⟨_, rfl⟩ rfl ?_
    refine ex_iload 84 dX2_settle_82 rfl rfl ?_
    obtain ⟨o3, hyp⟩ := hyp
    obtain ⟨o4, hyp⟩ := hyp
    obtain ⟨o5, hyp⟩ := hyp
    refine ex_aald (a := (11 + 3 * (g0.2.1 (x5).toNat))) 21 85 dX2_settle_84 rfl (by decide) (ai_of (n := 18) rfl o3 o4 (by decide)) (rxR g0 (ltN (n := 18) o3 o4)) ?_
    refine q_getI 0 4 88 dX2_settle_85 rfl fiX2_54 (Or.inl rfl) (obE o5) ?_
    refine ex_iconst 89 dX2_settle_88 rfl ?_
    obtain ⟨o6, hyp⟩ := hyp
    obtain ⟨ht, hf⟩ := hyp
    refine ex_icmp_ne 102 92 dX2_settle_89 (by decide) rfl o6 ⟨by decide, by decide⟩ (fun c8 => ?_) (fun c8 => ?_)
    · have hyp := ht c8
      clear ht hf
      refine q_iinc [some (vr 117), some (vr 8), some (vr 65), none, some (vi x4), some (vi (x5 + 1))] 105 dX2_settle_102 rfl rfl (Nat.le_of_ble_eq_true rfl) rfl rfl ?_
      refine ex_goto 69 dX2_settle_105 (by decide) ?_
      exact hyp
    · have hyp := hf c8
      clear ht hf
      refine ex_aload_n 93 dX2_settle_92 rfl rfl ?_
      refine ex_iload 95 dX2_settle_93 rfl rfl ?_
      refine ex_aload_n 96 dX2_settle_95 rfl rfl ?_
      refine ex_aload_n 97 dX2_settle_96 rfl rfl ?_
      refine ex_iload 99 dX2_settle_97 rfl rfl ?_
      refine s_callVv [vi x5, vr 8, vr 65, vi x4] 102 dX2_settle_99 rfl cvX2_59 rfl rfl ⟨Nat.le_of_ble_eq_true rfl, Nat.le_of_ble_eq_true rfl⟩ (Nat.le_of_ble_eq_true rfl) ⟨_, rfl⟩ hyp (fun h1 hq => ?_)
      obtain ⟨g7, rfl, hyp⟩ := hq
      refine q_iinc [some (vr 117), some (vr 8), some (vr 65), none, some (vi x4), some (vi (x5 + 1))] 105 dX2_settle_102 rfl rfl (Nat.le_of_ble_eq_true rfl) rfl rfl ?_
      refine ex_goto 69 dX2_settle_105 (by decide) ?_
      exact hyp
set_option maxRecDepth 4000 in
theorem uX2_has {P : Int → GS → Prop} (g0 : GS) (x1 : Int) (hyp : rng x1 ∧ (x1 < 0 → (P 0 g0)) ∧ (0 ≤ x1 → (rng (g0.1 117 2) ∧ (g0.1 117 2 ≤ x1 → (P 0 g0)) ∧ (x1 < g0.1 117 2 → (P 1 g0))))) : MXi mX2_has [vr 117, vi x1] g0 P := by
  refine met_of_ex (by decide +kernel) (Nat.le_of_ble_eq_true rfl) ?_
  show EX mX2_has 0 [some (vr 117), some (vi x1)] [] (hX g0) (0, 0) _
  refine ex_iload_n 1 dX2_has_0 rfl rfl ?_
  obtain ⟨o1, hyp⟩ := hyp
  obtain ⟨ht, hf⟩ := hyp
  refine ex_if_lt 16 4 dX2_has_1 (by decide) rfl o1 (fun c4 => ?_) (fun c4 => ?_)
  · have hyp := ht c4
    clear ht hf
    refine ex_iconst 17 dX2_has_16 rfl ?_
    exact ex_iret dX2_has_17 (Or.inr ⟨rfl, Or.inl rfl⟩) ⟨_, rfl, _, rfl, hyp⟩
  · have hyp := hf c4
    clear ht hf
    refine ex_iload_n 5 dX2_has_4 rfl rfl ?_
    refine ex_aload_n 6 dX2_has_5 rfl rfl ?_
    refine q_getI 2 2 9 dX2_has_6 rfl fiX2_25 (Or.inl rfl) ⟨_, rfl⟩ ?_
    obtain ⟨o2, hyp⟩ := hyp
    obtain ⟨ht, hf⟩ := hyp
    refine ex_icmp_ge 16 12 dX2_has_9 (by decide) rfl o1 o2 (fun c3 => ?_) (fun c3 => ?_)
    · have hyp := ht c3
      clear ht hf
      refine ex_iconst 17 dX2_has_16 rfl ?_
      exact ex_iret dX2_has_17 (Or.inr ⟨rfl, Or.inl rfl⟩) ⟨_, rfl, _, rfl, hyp⟩
    · have hyp := hf c3
      clear ht hf
      refine ex_iconst 13 dX2_has_12 rfl ?_
      refine ex_goto 17 dX2_has_13 (by decide) ?_
      exact ex_iret dX2_has_17 (Or.inr ⟨rfl, Or.inr rfl⟩) ⟨_, rfl, _, rfl, hyp⟩
set_option maxRecDepth 4000 in
theorem uX2_countShaky {P : Int → GS → Prop} (g0 : GS)  (hyp : XXi mX2_countShaky 4 [some (vr 117), some (vi 0), some (vi 0)] [] g0 P) : MXi mX2_countShaky [vr 117] g0 P := by
  refine met_of_ex (by decide +kernel) (Nat.le_of_ble_eq_true rfl) ?_
  show EX mX2_countShaky 0 [some (vr 117), none, none] [] (hX g0) (0, 0) _
  refine ex_iconst 1 dX2_countShaky_0 rfl ?_
  refine q_istore_n [some (vr 117), some (vi 0), none] 2 dX2_countShaky_1 rfl (Nat.le_of_ble_eq_true rfl) rfl rfl ?_
  refine ex_iconst 3 dX2_countShaky_2 rfl ?_
  refine q_istore_n [some (vr 117), some (vi 0), some (vi 0)] 4 dX2_countShaky_3 rfl (Nat.le_of_ble_eq_true rfl) rfl rfl ?_
  exact hyp
set_option maxRecDepth 4000 in
theorem uX2_countShaky_4 {P : Int → GS → Prop} (g0 : GS) (x1 : Int) (x2 : Int) (hyp : rng x2 ∧ rng (g0.1 117 2) ∧ (g0.1 117 2 ≤ x2 → (P x1 g0)) ∧ (x2 < g0.1 117 2 → (0 ≤ x2 ∧ x2 < 18 ∧ rng (g0.1 (121 + 2 * (x2).toNat) 8) ∧ (g0.1 (121 + 2 * (x2).toNat) 8 = 0 → (XXi mX2_countShaky 4 [some (vr 117), some (vi (x1 + 0)), some (vi (x2 + 1))] [] g0 P)) ∧ (¬ g0.1 (121 + 2 * (x2).toNat) 8 = 0 → (XXi mX2_countShaky 4 [some (vr 117), some (vi (x1 + 1)), some (vi (x2 + 1))] [] g0 P))))) : XXi mX2_countShaky 4 [some (vr 117), some (vi x1), some (vi x2)] [] g0 P := by
  refine ex_iload_n 5 dX2_countShaky_4 rfl rfl ?_
  refine ex_aload_n 6 dX2_countShaky_5 rfl rfl ?_
  refine q_getI 2 2 9 dX2_countShaky_6 rfl fiX2_25 (Or.inl rfl) ⟨_, rfl⟩ ?_
  obtain ⟨o1, hyp⟩ := hyp
  obtain ⟨o2, hyp⟩ := hyp
  obtain ⟨ht, hf⟩ := hyp
  refine ex_icmp_ge 38 12 dX2_countShaky_9 (by decide) rfl o1 o2 (fun c7 => ?_) (fun c7 => ?_)
  · have hyp := ht c7
    clear ht hf
    refine ex_iload_n 39 dX2_countShaky_38 rfl rfl ?_
    exact ex_iret dX2_countShaky_39 (Or.inl rfl) ⟨_, rfl, _, rfl, hyp⟩
  · have hyp := hf c7
    clear ht hf
    refine ex_iload_n 13 dX2_countShaky_12 rfl rfl ?_
    refine ex_aload_n 14 dX2_countShaky_13 rfl rfl ?_
    refine q_getR (a := 118) 2 0 17 dX2_countShaky_14 rfl fiX2_11 rfl ⟨_, rfl⟩ rfl ?_
    refine ex_iload_n 18 dX2_countShaky_17 rfl rfl ?_
    obtain ⟨o3, hyp⟩ := hyp
    obtain ⟨o4, hyp⟩ := hyp
    refine ex_aald (a := (121 + 2 * (x2).toNat)) 22 19 dX2_countShaky_18 rfl (by decide) (ai_of (n := 18) rfl o3 o4 (by decide)) (rxA g0 (ltN (n := 18) o3 o4)) ?_
    refine q_getI 1 8 22 dX2_countShaky_19 rfl fiX2_43 (Or.inr rfl) (obL (ltN (n := 18) o3 o4)) ?_
    obtain ⟨o5, hyp⟩ := hyp
    obtain ⟨ht, hf⟩ := hyp
    refine ex_if_eq 29 25 dX2_countShaky_22 (by decide) rfl o5 (fun c6 => ?_) (fun c6 => ?_)
    · have hyp := ht c6
      clear ht hf
      refine ex_iconst 30 dX2_countShaky_29 rfl ?_
      refine ex_iadd 31 dX2_countShaky_30 rfl ?_
      refine q_istore_n [some (vr 117), some (vi (x1 + 0)), some (vi x2)] 32 dX2_countShaky_31 rfl (Nat.le_of_ble_eq_true rfl) rfl rfl ?_
      refine q_iinc [some (vr 117), some (vi (x1 + 0)), some (vi (x2 + 1))] 35 dX2_countShaky_32 rfl rfl (Nat.le_of_ble_eq_true rfl) rfl rfl ?_
      refine ex_goto 4 dX2_countShaky_35 (by decide) ?_
      exact hyp
    · have hyp := hf c6
      clear ht hf
      refine ex_iconst 26 dX2_countShaky_25 rfl ?_
      refine ex_goto 30 dX2_countShaky_26 (by decide) ?_
      refine ex_iadd 31 dX2_countShaky_30 rfl ?_
      refine q_istore_n [some (vr 117), some (vi (x1 + 1)), some (vi x2)] 32 dX2_countShaky_31 rfl (Nat.le_of_ble_eq_true rfl) rfl rfl ?_
      refine q_iinc [some (vr 117), some (vi (x1 + 1)), some (vi (x2 + 1))] 35 dX2_countShaky_32 rfl rfl (Nat.le_of_ble_eq_true rfl) rfl rfl ?_
      refine ex_goto 4 dX2_countShaky_35 (by decide) ?_
      exact hyp
set_option maxRecDepth 4000 in
theorem uX2_countSingle {P : Int → GS → Prop} (g0 : GS)  (hyp : XXi mX2_countSingle 4 [some (vr 117), some (vi 0), some (vi 0)] [] g0 P) : MXi mX2_countSingle [vr 117] g0 P := by
  refine met_of_ex (by decide +kernel) (Nat.le_of_ble_eq_true rfl) ?_
  show EX mX2_countSingle 0 [some (vr 117), none, none] [] (hX g0) (0, 0) _
  refine ex_iconst 1 dX2_countSingle_0 rfl ?_
  refine q_istore_n [some (vr 117), some (vi 0), none] 2 dX2_countSingle_1 rfl (Nat.le_of_ble_eq_true rfl) rfl rfl ?_
  refine ex_iconst 3 dX2_countSingle_2 rfl ?_
  refine q_istore_n [some (vr 117), some (vi 0), some (vi 0)] 4 dX2_countSingle_3 rfl (Nat.le_of_ble_eq_true rfl) rfl rfl ?_
  exact hyp
set_option maxRecDepth 4000 in
theorem uX2_countSingle_4 {P : Int → GS → Prop} (g0 : GS) (x1 : Int) (x2 : Int) (hyp : rng x2 ∧ rng (g0.1 117 2) ∧ (g0.1 117 2 ≤ x2 → (P x1 g0)) ∧ (x2 < g0.1 117 2 → (0 ≤ x2 ∧ x2 < 18 ∧ rng (g0.1 (121 + 2 * (x2).toNat) 1) ∧ (¬ g0.1 (121 + 2 * (x2).toNat) 1 = 1 → (XXi mX2_countSingle 4 [some (vr 117), some (vi (x1 + 0)), some (vi (x2 + 1))] [] g0 P)) ∧ (g0.1 (121 + 2 * (x2).toNat) 1 = 1 → (XXi mX2_countSingle 4 [some (vr 117), some (vi (x1 + 1)), some (vi (x2 + 1))] [] g0 P))))) : XXi mX2_countSingle 4 [some (vr 117), some (vi x1), some (vi x2)] [] g0 P := by
  refine ex_iload_n 5 dX2_countSingle_4 rfl rfl ?_
  refine ex_aload_n 6 dX2_countSingle_5 rfl rfl ?_
  refine q_getI 2 2 9 dX2_countSingle_6 rfl fiX2_25 (Or.inl rfl) ⟨_, rfl⟩ ?_
  obtain ⟨o1, hyp⟩ := hyp
  obtain ⟨o2, hyp⟩ := hyp
  obtain ⟨ht, hf⟩ := hyp
  refine ex_icmp_ge 39 12 dX2_countSingle_9 (by decide) rfl o1 o2 (fun c7 => ?_) (fun c7 => ?_)
  · have hyp := ht c7
    clear ht hf
    refine ex_iload_n 40 dX2_countSingle_39 rfl rfl ?_
    exact ex_iret dX2_countSingle_40 (Or.inl rfl) ⟨_, rfl, _, rfl, hyp⟩
  · have hyp := hf c7
    clear ht hf
    refine ex_iload_n 13 dX2_countSingle_12 rfl rfl ?_
    refine ex_aload_n 14 dX2_countSingle_13 rfl rfl ?_
    refine q_getR (a := 118) 2 0 17 dX2_countSingle_14 rfl fiX2_11 rfl ⟨_, rfl⟩ rfl ?_
    refine ex_iload_n 18 dX2_countSingle_17 rfl rfl ?_
    obtain ⟨o3, hyp⟩ := hyp
    obtain ⟨o4, hyp⟩ := hyp
    refine ex_aald (a := (121 + 2 * (x2).toNat)) 22 19 dX2_countSingle_18 rfl (by decide) (ai_of (n := 18) rfl o3 o4 (by decide)) (rxA g0 (ltN (n := 18) o3 o4)) ?_
    refine q_getI 1 1 22 dX2_countSingle_19 rfl fiX2_63 (Or.inl rfl) (obL (ltN (n := 18) o3 o4)) ?_
    refine ex_iconst 23 dX2_countSingle_22 rfl ?_
    obtain ⟨o5, hyp⟩ := hyp
    obtain ⟨ht, hf⟩ := hyp
    refine ex_icmp_ne 30 26 dX2_countSingle_23 (by decide) rfl o5 ⟨by decide, by decide⟩ (fun c6 => ?_) (fun c6 => ?_)
    · have hyp := ht c6
      clear ht hf
      refine ex_iconst 31 dX2_countSingle_30 rfl ?_
      refine ex_iadd 32 dX2_countSingle_31 rfl ?_
      refine q_istore_n [some (vr 117), some (vi (x1 + 0)), some (vi x2)] 33 dX2_countSingle_32 rfl (Nat.le_of_ble_eq_true rfl) rfl rfl ?_
      refine q_iinc [some (vr 117), some (vi (x1 + 0)), some (vi (x2 + 1))] 36 dX2_countSingle_33 rfl rfl (Nat.le_of_ble_eq_true rfl) rfl rfl ?_
      refine ex_goto 4 dX2_countSingle_36 (by decide) ?_
      exact hyp
    · have hyp := hf c6
      clear ht hf
      refine ex_iconst 27 dX2_countSingle_26 rfl ?_
      refine ex_goto 31 dX2_countSingle_27 (by decide) ?_
      refine ex_iadd 32 dX2_countSingle_31 rfl ?_
      refine q_istore_n [some (vr 117), some (vi (x1 + 1)), some (vi x2)] 33 dX2_countSingle_32 rfl (Nat.le_of_ble_eq_true rfl) rfl rfl ?_
      refine q_iinc [some (vr 117), some (vi (x1 + 1)), some (vi (x2 + 1))] 36 dX2_countSingle_33 rfl rfl (Nat.le_of_ble_eq_true rfl) rfl rfl ?_
      refine ex_goto 4 dX2_countSingle_36 (by decide) ?_
      exact hyp
set_option maxRecDepth 4000 in
theorem uX2_openByMatch {P : GS → Prop} (g0 : GS)  (hyp : XXv mX2_openByMatch 2 [some (vr 117), some (vr 8), some (vr 104), some (vi 0), none, none] [] g0 P) : MXv mX2_openByMatch [vr 117, vr 8, vr 104] g0 P := by
  refine met_of_ex (by decide +kernel) (Nat.le_of_ble_eq_true rfl) ?_
  show EX mX2_openByMatch 0 [some (vr 117), some (vr 8), some (vr 104), none, none, none] [] (hX g0) (0, 0) _
  refine ex_iconst 1 dX2_openByMatch_0 rfl ?_
  refine q_istore_n [some (vr 117), some (vr 8), some (vr 104), some (vi 0), none, none] 2 dX2_openByMatch_1 rfl (Nat.le_of_ble_eq_true rfl) rfl rfl ?_
  exact hyp
set_option maxRecDepth 4000 in
theorem uX2_openByMatch_2 {P : GS → Prop} (g0 : GS) (x3 : Int) (hyp : rng x3 ∧ rng (g0.1 8 2) ∧ (g0.1 8 2 ≤ x3 → (XXv mX2_openByMatch 67 [some (vr 117), some (vr 8), some (vr 104), some (vi 0), none, none] [] g0 P)) ∧ (x3 < g0.1 8 2 → (0 ≤ x3 ∧ x3 < 18 ∧ g0.2.1 (x3).toNat < 18 ∧ rng (g0.1 (11 + 3 * (g0.2.1 (x3).toNat)) 4) ∧ (¬ g0.1 (11 + 3 * (g0.2.1 (x3).toNat)) 4 = 0 → (XXv mX2_openByMatch 2 [some (vr 117), some (vr 8), some (vr 104), some (vi (x3 + 1)), none, none] [] g0 P)) ∧ (g0.1 (11 + 3 * (g0.2.1 (x3).toNat)) 4 = 0 → (MXi mX2_open [vr 117] g0 (fun y8 g7 => MXv mX2_add [vr 117, vi x3, vi y8, vr 8] g7 (fun g9 => rng (g9.1 105 (x3).toNat) ∧ (g9.1 105 (x3).toNat = (-1) → (XXv mX2_openByMatch 2 [some (vr 117), some (vr 8), some (vr 104), some (vi (x3 + 1)), none, none] [] g9 P)) ∧ (¬ g9.1 105 (x3).toNat = (-1) → (MXv mX2_add [vr 117, vi (g9.1 105 (x3).toNat), vi y8, vr 8] g9 (fun g11 => XXv mX2_openByMatch 2 [some (vr 117), some (vr 8), some (vr 104), some (vi (x3 + 1)), none, none] [] g11 P)))))))))) : XXv mX2_openByMatch 2 [some (vr 117), some (vr 8), some (vr 104), some (vi x3), none, none] [] g0 P := by
  refine ex_iload_n 3 dX2_openByMatch_2 rfl rfl ?_
  refine ex_aload_n 4 dX2_openByMatch_3 rfl rfl ?_
  refine q_getI 8 2 7 dX2_openByMatch_4 rfl fiX2_47 (Or.inl rfl) ⟨_, rfl⟩ ?_
  obtain ⟨o1, hyp⟩ := hyp
  obtain ⟨o2, hyp⟩ := hyp
  obtain ⟨ht, hf⟩ := hyp
  refine ex_icmp_ge 65 10 dX2_openByMatch_7 (by decide) rfl o1 o2 (fun c14 => ?_) (fun c14 => ?_)
  · have hyp := ht c14
    clear ht hf
    refine ex_iconst 66 dX2_openByMatch_65 rfl ?_
    refine q_istore_n [some (vr 117), some (vr 8), some (vr 104), some (vi 0), none, none] 67 dX2_openByMatch_66 rfl (Nat.le_of_ble_eq_true rfl) rfl rfl ?_
    exact hyp
  · have hyp := hf c14
    clear ht hf
    refine ex_aload_n 11 dX2_openByMatch_10 rfl rfl ?_
    refine q_getR (a := 9) 8 0 14 dX2_openByMatch_11 rfl fiX2_50 rfl ⟨_, rfl⟩ rfl ?_
    refine ex_iload_n 15 dX2_openByMatch_14 rfl rfl ?_
    obtain ⟨o3, hyp⟩ := hyp
    obtain ⟨o4, hyp⟩ := hyp
    obtain ⟨o5, hyp⟩ := hyp
    refine ex_aald (a := (11 + 3 * (g0.2.1 (x3).toNat))) 21 16 dX2_openByMatch_15 rfl (by decide) (ai_of (n := 18) rfl o3 o4 (by decide)) (rxR g0 (ltN (n := 18) o3 o4)) ?_
    refine q_getI 0 4 19 dX2_openByMatch_16 rfl fiX2_54 (Or.inl rfl) (obE o5) ?_
    obtain ⟨o6, hyp⟩ := hyp
    obtain ⟨ht, hf⟩ := hyp
    refine ex_if_ne 59 22 dX2_openByMatch_19 (by decide) rfl o6 (fun c13 => ?_) (fun c13 => ?_)
    · have hyp := ht c13
      clear ht hf
      refine q_iinc [some (vr 117), some (vr 8), some (vr 104), some (vi (x3 + 1)), none, none] 62 dX2_openByMatch_59 rfl rfl (Nat.le_of_ble_eq_true rfl) rfl rfl ?_
      refine ex_goto 2 dX2_openByMatch_62 (by decide) ?_
      exact hyp
    · have hyp := hf c13
      clear ht hf
      refine ex_aload_n 23 dX2_openByMatch_22 rfl rfl ?_
      refine s_callVi [] 26 dX2_openByMatch_23 rfl cvX2_64 rfl rfl ⟨Nat.le_of_ble_eq_true rfl, Nat.le_of_ble_eq_true rfl⟩ (Nat.le_of_ble_eq_true rfl) ⟨_, rfl⟩ hyp (fun y8 h1 hq => ?_)
      obtain ⟨g7, rfl, hyp⟩ := hq
      refine q_istore [some (vr 117), some (vr 8), some (vr 104), some (vi x3), some (vi y8), none] 28 dX2_openByMatch_26 rfl (Nat.le_of_ble_eq_true rfl) rfl rfl ?_
      refine ex_aload_n 29 dX2_openByMatch_28 rfl rfl ?_
      refine ex_iload_n 30 dX2_openByMatch_29 rfl rfl ?_
      refine ex_iload 32 dX2_openByMatch_30 rfl rfl ?_
      refine ex_aload_n 33 dX2_openByMatch_32 rfl rfl ?_
      refine s_callVv [vi x3, vi y8, vr 8] 36 dX2_openByMatch_33 rfl cvX2_68 rfl rfl ⟨Nat.le_of_ble_eq_true rfl, Nat.le_of_ble_eq_true rfl⟩ (Nat.le_of_ble_eq_true rfl) ⟨_, rfl⟩ hyp (fun h1 hq => ?_)
      obtain ⟨g9, rfl, hyp⟩ := hq
      refine ex_aload_n 37 dX2_openByMatch_36 rfl rfl ?_
      refine q_getR (a := 105) 3 0 40 dX2_openByMatch_37 rfl fiX2_72 rfl ⟨_, rfl⟩ rfl ?_
      refine ex_iload_n 41 dX2_openByMatch_40 rfl rfl ?_
      refine ex_iald 42 dX2_openByMatch_41 rfl (ai_of (n := 18) rfl o3 o4 (by decide)) ?_
      refine q_istore [some (vr 117), some (vr 8), some (vr 104), some (vi x3), some (vi y8), some (vi (g9.1 105 (x3).toNat))] 44 dX2_openByMatch_42 rfl (Nat.le_of_ble_eq_true rfl) rfl rfl ?_
      refine ex_iload 46 dX2_openByMatch_44 rfl rfl ?_
      refine ex_iconst 47 dX2_openByMatch_46 rfl ?_
      obtain ⟨o10, hyp⟩ := hyp
      obtain ⟨ht, hf⟩ := hyp
      refine ex_icmp_eq 59 50 dX2_openByMatch_47 (by decide) rfl o10 ⟨by decide, by decide⟩ (fun c12 => ?_) (fun c12 => ?_)
      · have hyp := ht c12
        clear ht hf
        refine q_iinc [some (vr 117), some (vr 8), some (vr 104), some (vi (x3 + 1)), some (vi y8), some (vi (g9.1 105 (x3).toNat))] 62 dX2_openByMatch_59 rfl rfl (Nat.le_of_ble_eq_true rfl) rfl rfl ?_
        refine ex_goto 2 dX2_openByMatch_62 (by decide) ?_
        refine ex_dropL (ls' := [some (vr 117), some (vr 8), some (vr 104), some (vi (x3 + 1)), none, some (vi (g9.1 105 (x3).toNat))]) 4 rfl ?_
        refine ex_dropL (ls' := [some (vr 117), some (vr 8), some (vr 104), some (vi (x3 + 1)), none, none]) 5 rfl ?_
        exact hyp
      · have hyp := hf c12
        clear ht hf
        refine ex_aload_n 51 dX2_openByMatch_50 rfl rfl ?_
        refine ex_iload 53 dX2_openByMatch_51 rfl rfl ?_
        refine ex_iload 55 dX2_openByMatch_53 rfl rfl ?_
        refine ex_aload_n 56 dX2_openByMatch_55 rfl rfl ?_
        refine s_callVv [vi (g9.1 105 (x3).toNat), vi y8, vr 8] 59 dX2_openByMatch_56 rfl cvX2_68 rfl rfl ⟨Nat.le_of_ble_eq_true rfl, Nat.le_of_ble_eq_true rfl⟩ (Nat.le_of_ble_eq_true rfl) ⟨_, rfl⟩ hyp (fun h1 hq => ?_)
        obtain ⟨g11, rfl, hyp⟩ := hq
        refine q_iinc [some (vr 117), some (vr 8), some (vr 104), some (vi (x3 + 1)), some (vi y8), some (vi (g9.1 105 (x3).toNat))] 62 dX2_openByMatch_59 rfl rfl (Nat.le_of_ble_eq_true rfl) rfl rfl ?_
        refine ex_goto 2 dX2_openByMatch_62 (by decide) ?_
        refine ex_dropL (ls' := [some (vr 117), some (vr 8), some (vr 104), some (vi (x3 + 1)), none, some (vi (g9.1 105 (x3).toNat))]) 4 rfl ?_
        refine ex_dropL (ls' := [some (vr 117), some (vr 8), some (vr 104), some (vi (x3 + 1)), none, none]) 5 rfl ?_
        exact hyp
set_option maxRecDepth 4000 in
theorem uX2_openByMatch_67 {P : GS → Prop} (g0 : GS) (x3 : Int) (hyp : rng x3 ∧ rng (g0.1 8 2) ∧ (g0.1 8 2 ≤ x3 → (P g0)) ∧ (x3 < g0.1 8 2 → (0 ≤ x3 ∧ x3 < 18 ∧ g0.2.1 (x3).toNat < 18 ∧ rng (g0.1 (11 + 3 * (g0.2.1 (x3).toNat)) 4) ∧ (¬ g0.1 (11 + 3 * (g0.2.1 (x3).toNat)) 4 = 2 → (XXv mX2_openByMatch 67 [some (vr 117), some (vr 8), some (vr 104), some (vi (x3 + 1)), none, none] [] g0 P)) ∧ (g0.1 (11 + 3 * (g0.2.1 (x3).toNat)) 4 = 2 → (rng (g0.1 105 (x3).toNat) ∧ (¬ g0.1 105 (x3).toNat = (-1) → (XXv mX2_openByMatch 67 [some (vr 117), some (vr 8), some (vr 104), some (vi (x3 + 1)), none, none] [] g0 P)) ∧ (g0.1 105 (x3).toNat = (-1) → (MXi mX2_open [vr 117] g0 (fun y9 g8 => MXv mX2_add [vr 117, vi x3, vi y9, vr 8] g8 (fun g10 => XXv mX2_openByMatch 67 [some (vr 117), some (vr 8), some (vr 104), some (vi (x3 + 1)), none, none] [] g10 P))))))))) : XXv mX2_openByMatch 67 [some (vr 117), some (vr 8), some (vr 104), some (vi x3), none, none] [] g0 P := by
  refine ex_iload_n 68 dX2_openByMatch_67 rfl rfl ?_
  refine ex_aload_n 69 dX2_openByMatch_68 rfl rfl ?_
  refine q_getI 8 2 72 dX2_openByMatch_69 rfl fiX2_47 (Or.inl rfl) ⟨_, rfl⟩ ?_
  obtain ⟨o1, hyp⟩ := hyp
  obtain ⟨o2, hyp⟩ := hyp
  obtain ⟨ht, hf⟩ := hyp
  refine ex_icmp_ge 114 75 dX2_openByMatch_72 (by decide) rfl o1 o2 (fun c13 => ?_) (fun c13 => ?_)
  · have hyp := ht c13
    clear ht hf
    exact ex_vret dX2_openByMatch_114 rfl ⟨rfl, _, rfl, hyp⟩
  · have hyp := hf c13
    clear ht hf
    refine ex_aload_n 76 dX2_openByMatch_75 rfl rfl ?_
    refine q_getR (a := 9) 8 0 79 dX2_openByMatch_76 rfl fiX2_50 rfl ⟨_, rfl⟩ rfl ?_
    refine ex_iload_n 80 dX2_openByMatch_79 rfl rfl ?_
    obtain ⟨o3, hyp⟩ := hyp
    obtain ⟨o4, hyp⟩ := hyp
    obtain ⟨o5, hyp⟩ := hyp
    refine ex_aald (a := (11 + 3 * (g0.2.1 (x3).toNat))) 21 81 dX2_openByMatch_80 rfl (by decide) (ai_of (n := 18) rfl o3 o4 (by decide)) (rxR g0 (ltN (n := 18) o3 o4)) ?_
    refine q_getI 0 4 84 dX2_openByMatch_81 rfl fiX2_54 (Or.inl rfl) (obE o5) ?_
    refine ex_iconst 85 dX2_openByMatch_84 rfl ?_
    obtain ⟨o6, hyp⟩ := hyp
    obtain ⟨ht, hf⟩ := hyp
    refine ex_icmp_ne 108 88 dX2_openByMatch_85 (by decide) rfl o6 ⟨by decide, by decide⟩ (fun c12 => ?_) (fun c12 => ?_)
    · have hyp := ht c12
      clear ht hf
      refine q_iinc [some (vr 117), some (vr 8), some (vr 104), some (vi (x3 + 1)), none, none] 111 dX2_openByMatch_108 rfl rfl (Nat.le_of_ble_eq_true rfl) rfl rfl ?_
      refine ex_goto 67 dX2_openByMatch_111 (by decide) ?_
      exact hyp
    · have hyp := hf c12
      clear ht hf
      refine ex_aload_n 89 dX2_openByMatch_88 rfl rfl ?_
      refine q_getR (a := 105) 3 0 92 dX2_openByMatch_89 rfl fiX2_72 rfl ⟨_, rfl⟩ rfl ?_
      refine ex_iload_n 93 dX2_openByMatch_92 rfl rfl ?_
      refine ex_iald 94 dX2_openByMatch_93 rfl (ai_of (n := 18) rfl o3 o4 (by decide)) ?_
      refine ex_iconst 95 dX2_openByMatch_94 rfl ?_
      obtain ⟨o7, hyp⟩ := hyp
      obtain ⟨ht, hf⟩ := hyp
      refine ex_icmp_ne 108 98 dX2_openByMatch_95 (by decide) rfl o7 ⟨by decide, by decide⟩ (fun c11 => ?_) (fun c11 => ?_)
      · have hyp := ht c11
        clear ht hf
        refine q_iinc [some (vr 117), some (vr 8), some (vr 104), some (vi (x3 + 1)), none, none] 111 dX2_openByMatch_108 rfl rfl (Nat.le_of_ble_eq_true rfl) rfl rfl ?_
        refine ex_goto 67 dX2_openByMatch_111 (by decide) ?_
        exact hyp
      · have hyp := hf c11
        clear ht hf
        refine ex_aload_n 99 dX2_openByMatch_98 rfl rfl ?_
        refine ex_iload_n 100 dX2_openByMatch_99 rfl rfl ?_
        refine ex_aload_n 101 dX2_openByMatch_100 rfl rfl ?_
        refine s_callVi [] 104 dX2_openByMatch_101 rfl cvX2_64 rfl rfl ⟨Nat.le_of_ble_eq_true rfl, Nat.le_of_ble_eq_true rfl⟩ (Nat.le_of_ble_eq_true rfl) ⟨_, rfl⟩ hyp (fun y9 h1 hq => ?_)
        obtain ⟨g8, rfl, hyp⟩ := hq
        refine ex_aload_n 105 dX2_openByMatch_104 rfl rfl ?_
        refine s_callVv [vi x3, vi y9, vr 8] 108 dX2_openByMatch_105 rfl cvX2_68 rfl rfl ⟨Nat.le_of_ble_eq_true rfl, Nat.le_of_ble_eq_true rfl⟩ (Nat.le_of_ble_eq_true rfl) ⟨_, rfl⟩ hyp (fun h1 hq => ?_)
        obtain ⟨g10, rfl, hyp⟩ := hq
        refine q_iinc [some (vr 117), some (vr 8), some (vr 104), some (vi (x3 + 1)), none, none] 111 dX2_openByMatch_108 rfl rfl (Nat.le_of_ble_eq_true rfl) rfl rfl ?_
        refine ex_goto 67 dX2_openByMatch_111 (by decide) ?_
        exact hyp
set_option maxRecDepth 4000 in
theorem uX2_open {P : Int → GS → Prop} (g0 : GS)  (hyp : rng (g0.1 117 2) ∧ (18 ≤ g0.1 117 2 → (P ((g0.1 117 2) - 1) g0)) ∧ (g0.1 117 2 < 18 → (0 ≤ g0.1 117 2 ∧ g0.1 117 2 < 18 ∧ MXv mX1_clear [vr (121 + 2 * (g0.1 117 2).toNat)] g0 (fun g4 => ∀ g6 : GS, g6 = gI g4 117 2 ((g4.1 117 2) + 1) → (P ((g6.1 117 2) - 1) g6))))) : MXi mX2_open [vr 117] g0 P := by
  refine met_of_ex (by decide +kernel) (Nat.le_of_ble_eq_true rfl) ?_
  show EX mX2_open 0 [some (vr 117)] [] (hX g0) (0, 0) _
  refine ex_aload_n 1 dX2_open_0 rfl rfl ?_
  refine q_getI 2 2 4 dX2_open_1 rfl fiX2_25 (Or.inl rfl) ⟨_, rfl⟩ ?_
  refine ex_bipush 6 dX2_open_4 rfl ⟨by decide, by decide⟩ ?_
  obtain ⟨o1, hyp⟩ := hyp
  obtain ⟨ht, hf⟩ := hyp
  refine ex_icmp_ge 31 9 dX2_open_6 (by decide) rfl o1 ⟨by decide, by decide⟩ (fun c8 => ?_) (fun c8 => ?_)
  · have hyp := ht c8
    clear ht hf
    refine ex_aload_n 32 dX2_open_31 rfl rfl ?_
    refine q_getI 2 2 35 dX2_open_32 rfl fiX2_25 (Or.inl rfl) ⟨_, rfl⟩ ?_
    refine ex_iconst 36 dX2_open_35 rfl ?_
    refine ex_isub 37 dX2_open_36 rfl ?_
    exact ex_iret dX2_open_37 (Or.inl rfl) ⟨_, rfl, _, rfl, hyp⟩
  · have hyp := hf c8
    clear ht hf
    refine ex_aload_n 10 dX2_open_9 rfl rfl ?_
    refine q_getR (a := 118) 2 0 13 dX2_open_10 rfl fiX2_11 rfl ⟨_, rfl⟩ rfl ?_
    refine ex_aload_n 14 dX2_open_13 rfl rfl ?_
    refine q_getI 2 2 17 dX2_open_14 rfl fiX2_25 (Or.inl rfl) ⟨_, rfl⟩ ?_
    obtain ⟨o2, hyp⟩ := hyp
    obtain ⟨o3, hyp⟩ := hyp
    refine ex_aald (a := (121 + 2 * (g0.1 117 2).toNat)) 22 18 dX2_open_17 rfl (by decide) (ai_of (n := 18) rfl o2 o3 (by decide)) (rxA g0 (ltN (n := 18) o2 o3)) ?_
    refine s_callVv [] 21 dX2_open_18 rfl cvX2_77 rfl rfl ⟨Nat.le_of_ble_eq_true rfl, Nat.le_of_ble_eq_true rfl⟩ (Nat.le_of_ble_eq_true rfl) (obL (ltN (n := 18) o2 o3)) hyp (fun h1 hq => ?_)
    obtain ⟨g4, rfl, hyp⟩ := hq
    refine ex_aload_n 22 dX2_open_21 rfl rfl ?_
    refine ex_dup 23 dX2_open_22 rfl rfl ?_
    refine q_getI 2 2 26 dX2_open_23 rfl fiX2_25 (Or.inl rfl) ⟨_, rfl⟩ ?_
    refine ex_iconst 27 dX2_open_26 rfl ?_
    refine ex_iadd 28 dX2_open_27 rfl ?_
    refine q_putI 2 2 31 dX2_open_28 rfl fiX2_25 ff2_2 rfl ⟨_, rfl⟩ (fun h1 e5 => ?_)
    obtain ⟨g6, eg7⟩ : ∃ z : GS, z = gI g4 117 2 ((g4.1 117 2) + 1) := ⟨_, rfl⟩
    have hyp := hyp g6 eg7
    obtain rfl : h1 = hX g6 := by rw [e5, eg7]; exact rfl
    clear e5
    refine ex_aload_n 32 dX2_open_31 rfl rfl ?_
    refine q_getI 2 2 35 dX2_open_32 rfl fiX2_25 (Or.inl rfl) ⟨_, rfl⟩ ?_
    refine ex_iconst 36 dX2_open_35 rfl ?_
    refine ex_isub 37 dX2_open_36 rfl ?_
    exact ex_iret dX2_open_37 (Or.inl rfl) ⟨_, rfl, _, rfl, hyp⟩
set_option maxRecDepth 4000 in
theorem uX2_add {P : GS → Prop} (g0 : GS) (x1 : Int) (x2 : Int) (hyp : MXi mX2_has [vr 117, vi x2] g0 (fun y2 g1 => rng y2 ∧ (y2 = 0 → (P g1)) ∧ (¬ y2 = 0 → (0 ≤ x2 ∧ x2 < 18 ∧ 0 ≤ x1 ∧ x1 < 18 ∧ g1.2.1 (x1).toNat < 18 ∧ MXv mX1_add [vr (121 + 2 * (x2).toNat), vi x1, vr (11 + 3 * (g1.2.1 (x1).toNat))] g1 (fun g9 => ∀ g11 : GS, g11 = gI g9 119 (x1).toNat x2 → (P g11)))))) : MXv mX2_add [vr 117, vi x1, vi x2, vr 8] g0 P := by
  refine met_of_ex (by decide +kernel) (Nat.le_of_ble_eq_true rfl) ?_
  show EX mX2_add 0 [some (vr 117), some (vi x1), some (vi x2), some (vr 8)] [] (hX g0) (0, 0) _
  refine ex_aload_n 1 dX2_add_0 rfl rfl ?_
  refine ex_iload_n 2 dX2_add_1 rfl rfl ?_
  refine s_callVi [vi x2] 5 dX2_add_2 rfl cvX2_80 rfl rfl ⟨Nat.le_of_ble_eq_true rfl, Nat.le_of_ble_eq_true rfl⟩ (Nat.le_of_ble_eq_true rfl) ⟨_, rfl⟩ hyp (fun y2 h1 hq => ?_)
  obtain ⟨g1, rfl, hyp⟩ := hq
  obtain ⟨o3, hyp⟩ := hyp
  obtain ⟨ht, hf⟩ := hyp
  refine ex_if_eq 31 8 dX2_add_5 (by decide) rfl o3 (fun c13 => ?_) (fun c13 => ?_)
  · have hyp := ht c13
    clear ht hf
    exact ex_vret dX2_add_31 rfl ⟨rfl, _, rfl, hyp⟩
  · have hyp := hf c13
    clear ht hf
    refine ex_aload_n 9 dX2_add_8 rfl rfl ?_
    refine q_getR (a := 118) 2 0 12 dX2_add_9 rfl fiX2_11 rfl ⟨_, rfl⟩ rfl ?_
    refine ex_iload_n 13 dX2_add_12 rfl rfl ?_
    obtain ⟨o4, hyp⟩ := hyp
    obtain ⟨o5, hyp⟩ := hyp
    refine ex_aald (a := (121 + 2 * (x2).toNat)) 22 14 dX2_add_13 rfl (by decide) (ai_of (n := 18) rfl o4 o5 (by decide)) (rxA g1 (ltN (n := 18) o4 o5)) ?_
    refine ex_iload_n 15 dX2_add_14 rfl rfl ?_
    refine ex_aload_n 16 dX2_add_15 rfl rfl ?_
    refine q_getR (a := 9) 8 0 19 dX2_add_16 rfl fiX2_50 rfl ⟨_, rfl⟩ rfl ?_
    refine ex_iload_n 20 dX2_add_19 rfl rfl ?_
    obtain ⟨o6, hyp⟩ := hyp
    obtain ⟨o7, hyp⟩ := hyp
    obtain ⟨o8, hyp⟩ := hyp
    refine ex_aald (a := (11 + 3 * (g1.2.1 (x1).toNat))) 21 21 dX2_add_20 rfl (by decide) (ai_of (n := 18) rfl o6 o7 (by decide)) (rxR g1 (ltN (n := 18) o6 o7)) ?_
    refine s_callVv [vi x1, vr (11 + 3 * (g1.2.1 (x1).toNat))] 24 dX2_add_21 rfl cvX2_84 rfl rfl ⟨Nat.le_of_ble_eq_true rfl, Nat.le_of_ble_eq_true rfl⟩ (Nat.le_of_ble_eq_true rfl) (obL (ltN (n := 18) o4 o5)) hyp (fun h1 hq => ?_)
    obtain ⟨g9, rfl, hyp⟩ := hq
    refine ex_aload_n 25 dX2_add_24 rfl rfl ?_
    refine q_getR (a := 119) 2 1 28 dX2_add_25 rfl fiX2_17 rfl ⟨_, rfl⟩ rfl ?_
    refine ex_iload_n 29 dX2_add_28 rfl rfl ?_
    refine ex_iload_n 30 dX2_add_29 rfl rfl ?_
    refine ex_iast 31 dX2_add_30 rfl (ai_of (n := 18) rfl o6 o7 (by decide)) (fun h1 e10 => ?_)
    obtain ⟨g11, eg12⟩ : ∃ z : GS, z = gI g9 119 (x1).toNat x2 := ⟨_, rfl⟩
    have hyp := hyp g11 eg12
    obtain rfl : h1 = hX g11 := by rw [e10, eg12]; exact rfl
    clear e10
    exact ex_vret dX2_add_31 rfl ⟨rfl, _, rfl, hyp⟩
set_option maxRecDepth 4000 in
theorem uX2_isShaky {P : Int → GS → Prop} (g0 : GS) (s0 : Nat) (hs0 : s0 < 18) (x3 : Int) (hyp : rng (g0.1 (121 + 2 * s0) 3) ∧ (g0.1 (121 + 2 * s0) 3 = (-1) → (P 0 g0)) ∧ (¬ g0.1 (121 + 2 * s0) 3 = (-1) → (rng (g0.1 (121 + 2 * s0) 4) ∧ (¬ g0.1 (121 + 2 * s0) 4 = (-1) → (0 ≤ g0.1 (121 + 2 * s0) 3 ∧ g0.1 (121 + 2 * s0) 3 < 18 ∧ 0 ≤ g0.1 (121 + 2 * s0) 4 ∧ g0.1 (121 + 2 * s0) 4 < 18 ∧ XXi mX2_isShaky 37 [some (vr (121 + 2 * s0)), some (vr 8), some (vr 65), some (vi x3), some (vi (g0.1 (86 + (g0.1 (121 + 2 * s0) 3).toNat) (g0.1 (121 + 2 * s0) 4).toNat)), some (vi 0), none, none, none] [] g0 P)) ∧ (g0.1 (121 + 2 * s0) 4 = (-1) → (P 0 g0))))) : MXi mX2_isShaky [vr (121 + 2 * s0), vr 8, vr 65, vi x3] g0 P := by
  refine met_of_ex (by decide +kernel) (Nat.le_of_ble_eq_true rfl) ?_
  show EX mX2_isShaky 0 [some (vr (121 + 2 * s0)), some (vr 8), some (vr 65), some (vi x3), none, none, none, none, none] [] (hX g0) (0, 0) _
  refine ex_aload_n 1 dX2_isShaky_0 rfl rfl ?_
  refine q_getI 1 3 4 dX2_isShaky_1 rfl fiX2_87 (Or.inl rfl) (obL hs0) ?_
  refine ex_iconst 5 dX2_isShaky_4 rfl ?_
  obtain ⟨o1, hyp⟩ := hyp
  obtain ⟨ht, hf⟩ := hyp
  refine ex_icmp_eq 16 8 dX2_isShaky_5 (by decide) rfl o1 ⟨by decide, by decide⟩ (fun c8 => ?_) (fun c8 => ?_)
  · have hyp := ht c8
    clear ht hf
    refine ex_iconst 17 dX2_isShaky_16 rfl ?_
    exact ex_iret dX2_isShaky_17 (Or.inr ⟨rfl, Or.inl rfl⟩) ⟨_, rfl, _, rfl, hyp⟩
  · have hyp := hf c8
    clear ht hf
    refine ex_aload_n 9 dX2_isShaky_8 rfl rfl ?_
    refine q_getI 1 4 12 dX2_isShaky_9 rfl fiX2_90 (Or.inl rfl) (obL hs0) ?_
    refine ex_iconst 13 dX2_isShaky_12 rfl ?_
    obtain ⟨o2, hyp⟩ := hyp
    obtain ⟨ht, hf⟩ := hyp
    refine ex_icmp_ne 18 16 dX2_isShaky_13 (by decide) rfl o2 ⟨by decide, by decide⟩ (fun c7 => ?_) (fun c7 => ?_)
    · have hyp := ht c7
      clear ht hf
      refine ex_aload_n 19 dX2_isShaky_18 rfl rfl ?_
      refine q_getR (a := 85) 6 1 22 dX2_isShaky_19 rfl fiX2_93 rfl ⟨_, rfl⟩ rfl ?_
      refine ex_aload_n 23 dX2_isShaky_22 rfl rfl ?_
      refine q_getI 1 3 26 dX2_isShaky_23 rfl fiX2_87 (Or.inl rfl) (obL hs0) ?_
      obtain ⟨o3, hyp⟩ := hyp
      obtain ⟨o4, hyp⟩ := hyp
      refine ex_aald (a := (86 + (g0.1 (121 + 2 * s0) 3).toNat)) 23 27 dX2_isShaky_26 rfl (by decide) (ai_of (n := 18) rfl o3 o4 (by decide)) (rxV g0 (ltN (n := 18) o3 o4)) ?_
      refine ex_aload_n 28 dX2_isShaky_27 rfl rfl ?_
      refine q_getI 1 4 31 dX2_isShaky_28 rfl fiX2_90 (Or.inl rfl) (obL hs0) ?_
      obtain ⟨o5, hyp⟩ := hyp
      obtain ⟨o6, hyp⟩ := hyp
      refine ex_iald 32 dX2_isShaky_31 rfl (ai_of (n := 18) (txV _ (ltN (n := 18) o3 o4)) o5 o6 (by decide)) ?_
      refine q_istore [some (vr (121 + 2 * s0)), some (vr 8), some (vr 65), some (vi x3), some (vi (g0.1 (86 + (g0.1 (121 + 2 * s0) 3).toNat) (g0.1 (121 + 2 * s0) 4).toNat)), none, none, none, none] 34 dX2_isShaky_32 rfl (Nat.le_of_ble_eq_true rfl) rfl rfl ?_
      refine ex_iconst 35 dX2_isShaky_34 rfl ?_
      refine q_istore [some (vr (121 + 2 * s0)), some (vr 8), some (vr 65), some (vi x3), some (vi (g0.1 (86 + (g0.1 (121 + 2 * s0) 3).toNat) (g0.1 (121 + 2 * s0) 4).toNat)), some (vi 0), none, none, none] 37 dX2_isShaky_35 rfl (Nat.le_of_ble_eq_true rfl) rfl rfl ?_
      exact hyp
    · have hyp := hf c7
      clear ht hf
      refine ex_iconst 17 dX2_isShaky_16 rfl ?_
      exact ex_iret dX2_isShaky_17 (Or.inr ⟨rfl, Or.inl rfl⟩) ⟨_, rfl, _, rfl, hyp⟩
set_option maxRecDepth 4000 in
theorem uX2_isShaky_37 {P : Int → GS → Prop} (g0 : GS) (s0 : Nat) (hs0 : s0 < 18) (x3 : Int) (x4 : Int) (x5 : Int) (hyp : rng x5 ∧ rng (g0.1 8 2) ∧ (g0.1 8 2 ≤ x5 → (P 0 g0)) ∧ (x5 < g0.1 8 2 → (0 ≤ x5 ∧ x5 < 18 ∧ g0.2.1 (x5).toNat < 18 ∧ rng (g0.1 (11 + 3 * (g0.2.1 (x5).toNat)) 4) ∧ (¬ g0.1 (11 + 3 * (g0.2.1 (x5).toNat)) 4 = 2 → ((¬ g0.1 (11 + 3 * (g0.2.1 (x5).toNat)) 4 = 0 → (XXi mX2_isShaky 84 [some (vr (121 + 2 * s0)), some (vr 8), some (vr 65), some (vi x3), some (vi x4), some (vi x5), none, none, none] [vi (-1)] g0 P)) ∧ (g0.1 (11 + 3 * (g0.2.1 (x5).toNat)) 4 = 0 → (XXi mX2_isShaky 84 [some (vr (121 + 2 * s0)), some (vr 8), some (vr 65), some (vi x3), some (vi x4), some (vi x5), none, none, none] [vi (g0.1 (121 + 2 * s0) 4)] g0 P)))) ∧ (g0.1 (11 + 3 * (g0.2.1 (x5).toNat)) 4 = 2 → (XXi mX2_isShaky 84 [some (vr (121 + 2 * s0)), some (vr 8), some (vr 65), some (vi x3), some (vi x4), some (vi x5), none, none, none] [vi (g0.1 (121 + 2 * s0) 3)] g0 P))))) : XXi mX2_isShaky 37 [some (vr (121 + 2 * s0)), some (vr 8), some (vr 65), some (vi x3), some (vi x4), some (vi x5), none, none, none] [] g0 P := by
  refine ex_iload 39 dX2_isShaky_37 rfl rfl ?_
  refine ex_aload_n 40 dX2_isShaky_39 rfl rfl ?_
  refine q_getI 8 2 43 dX2_isShaky_40 rfl fiX2_47 (Or.inl rfl) ⟨_, rfl⟩ ?_
  obtain ⟨o1, hyp⟩ := hyp
  obtain ⟨o2, hyp⟩ := hyp
  obtain ⟨ht, hf⟩ := hyp
  refine ex_icmp_ge 158 46 dX2_isShaky_43 (by decide) rfl o1 o2 (fun c9 => ?_) (fun c9 => ?_)
  · have hyp := ht c9
    clear ht hf
    refine ex_iconst 159 dX2_isShaky_158 rfl ?_
    exact ex_iret dX2_isShaky_159 (Or.inr ⟨rfl, Or.inl rfl⟩) ⟨_, rfl, _, rfl, hyp⟩
  · have hyp := hf c9
    clear ht hf
    refine ex_aload_n 47 dX2_isShaky_46 rfl rfl ?_
    refine q_getR (a := 9) 8 0 50 dX2_isShaky_47 rfl fiX2_50 rfl ⟨_, rfl⟩ rfl ?_
    refine ex_iload 52 dX2_isShaky_50 rfl rfl ?_
    obtain ⟨o3, hyp⟩ := hyp
    obtain ⟨o4, hyp⟩ := hyp
    obtain ⟨o5, hyp⟩ := hyp
    refine ex_aald (a := (11 + 3 * (g0.2.1 (x5).toNat))) 21 53 dX2_isShaky_52 rfl (by decide) (ai_of (n := 18) rfl o3 o4 (by decide)) (rxR g0 (ltN (n := 18) o3 o4)) ?_
    refine q_getI 0 4 56 dX2_isShaky_53 rfl fiX2_54 (Or.inl rfl) (obE o5) ?_
    refine q_istore [some (vr (121 + 2 * s0)), some (vr 8), some (vr 65), some (vi x3), some (vi x4), some (vi x5), some (vi (g0.1 (11 + 3 * (g0.2.1 (x5).toNat)) 4)), none, none] 58 dX2_isShaky_56 rfl (Nat.le_of_ble_eq_true rfl) rfl rfl ?_
    refine ex_iload 60 dX2_isShaky_58 rfl rfl ?_
    refine ex_iconst 61 dX2_isShaky_60 rfl ?_
    obtain ⟨o6, hyp⟩ := hyp
    obtain ⟨ht, hf⟩ := hyp
    refine ex_icmp_ne 71 64 dX2_isShaky_61 (by decide) rfl o6 ⟨by decide, by decide⟩ (fun c8 => ?_) (fun c8 => ?_)
    · have hyp := ht c8
      clear ht hf
      refine ex_iload 73 dX2_isShaky_71 rfl rfl ?_
      obtain ⟨ht, hf⟩ := hyp
      refine ex_if_ne 83 76 dX2_isShaky_73 (by decide) rfl o6 (fun c7 => ?_) (fun c7 => ?_)
      · have hyp := ht c7
        clear ht hf
        refine ex_iconst 84 dX2_isShaky_83 rfl ?_
        refine ex_dropL (ls' := [some (vr (121 + 2 * s0)), some (vr 8), some (vr 65), some (vi x3), some (vi x4), some (vi x5), none, none, none]) 6 rfl ?_
        exact hyp
      · have hyp := hf c7
        clear ht hf
        refine ex_aload_n 77 dX2_isShaky_76 rfl rfl ?_
        refine q_getI 1 4 80 dX2_isShaky_77 rfl fiX2_90 (Or.inl rfl) (obL hs0) ?_
        refine ex_goto 84 dX2_isShaky_80 (by decide) ?_
        refine ex_dropL (ls' := [some (vr (121 + 2 * s0)), some (vr 8), some (vr 65), some (vi x3), some (vi x4), some (vi x5), none, none, none]) 6 rfl ?_
        exact hyp
    · have hyp := hf c8
      clear ht hf
      refine ex_aload_n 65 dX2_isShaky_64 rfl rfl ?_
      refine q_getI 1 3 68 dX2_isShaky_65 rfl fiX2_87 (Or.inl rfl) (obL hs0) ?_
      refine ex_goto 84 dX2_isShaky_68 (by decide) ?_
      refine ex_dropL (ls' := [some (vr (121 + 2 * s0)), some (vr 8), some (vr 65), some (vi x3), some (vi x4), some (vi x5), none, none, none]) 6 rfl ?_
      exact hyp
set_option maxRecDepth 4000 in
theorem uX2_isShaky_84 {P : Int → GS → Prop} (g0 : GS) (s0 : Nat) (hs0 : s0 < 18) (x3 : Int) (x4 : Int) (x5 : Int) (xs0 : Int) (hyp : rng xs0 ∧ (xs0 = (-1) → (XXi mX2_isShaky 37 [some (vr (121 + 2 * s0)), some (vr 8), some (vr 65), some (vi x3), some (vi x4), some (vi (x5 + 1)), none, none, none] [] g0 P)) ∧ (¬ xs0 = (-1) → (rng x5 ∧ rng (g0.1 (121 + 2 * s0) 3) ∧ (x5 = g0.1 (121 + 2 * s0) 3 → (XXi mX2_isShaky 37 [some (vr (121 + 2 * s0)), some (vr 8), some (vr 65), some (vi x3), some (vi x4), some (vi (x5 + 1)), none, none, none] [] g0 P)) ∧ (¬ x5 = g0.1 (121 + 2 * s0) 3 → (rng (g0.1 (121 + 2 * s0) 4) ∧ (x5 = g0.1 (121 + 2 * s0) 4 → (XXi mX2_isShaky 37 [some (vr (121 + 2 * s0)), some (vr 8), some (vr 65), some (vi x3), some (vi x4), some (vi (x5 + 1)), none, none, none] [] g0 P)) ∧ (¬ x5 = g0.1 (121 + 2 * s0) 4 → (MXi mX6_fit [vr 65, vi xs0, vi x5] g0 (fun y6 g5 => rng y6 ∧ (y6 = 0 → (XXi mX2_isShaky 37 [some (vr (121 + 2 * s0)), some (vr 8), some (vr 65), some (vi x3), some (vi x4), some (vi (x5 + 1)), none, none, none] [] g5 P)) ∧ (¬ y6 = 0 → (0 ≤ xs0 ∧ xs0 < 18 ∧ 0 ≤ x5 ∧ x5 < 18 ∧ rng (x4 - (g5.1 (86 + (xs0).toNat) (x5).toNat)) ∧ rng x3 ∧ (x3 < x4 - (g5.1 (86 + (xs0).toNat) (x5).toNat) → (XXi mX2_isShaky 37 [some (vr (121 + 2 * s0)), some (vr 8), some (vr 65), some (vi x3), some (vi x4), some (vi (x5 + 1)), none, none, none] [] g5 P)) ∧ (x4 - (g5.1 (86 + (xs0).toNat) (x5).toNat) ≤ x3 → (P 1 g5)))))))))))) : XXi mX2_isShaky 84 [some (vr (121 + 2 * s0)), some (vr 8), some (vr 65), some (vi x3), some (vi x4), some (vi x5), none, none, none] [vi xs0] g0 P := by
  refine q_istore [some (vr (121 + 2 * s0)), some (vr 8), some (vr 65), some (vi x3), some (vi x4), some (vi x5), none, some (vi xs0), none] 86 dX2_isShaky_84 rfl (Nat.le_of_ble_eq_true rfl) rfl rfl ?_
  refine ex_iload 88 dX2_isShaky_86 rfl rfl ?_
  refine ex_iconst 89 dX2_isShaky_88 rfl ?_
  obtain ⟨o1, hyp⟩ := hyp
  obtain ⟨ht, hf⟩ := hyp
  refine ex_icmp_eq 114 92 dX2_isShaky_89 (by decide) rfl o1 ⟨by decide, by decide⟩ (fun c18 => ?_) (fun c18 => ?_)
  · have hyp := ht c18
    clear ht hf
    refine ex_iconst 115 dX2_isShaky_114 rfl ?_
    refine q_istore [some (vr (121 + 2 * s0)), some (vr 8), some (vr 65), some (vi x3), some (vi x4), some (vi x5), none, some (vi xs0), some (vi 0)] 117 dX2_isShaky_115 rfl (Nat.le_of_ble_eq_true rfl) rfl rfl ?_
    refine ex_iload 119 dX2_isShaky_117 rfl rfl ?_
    refine ex_if_eq 152 122 dX2_isShaky_119 (by decide) rfl ⟨by decide, by decide⟩ (fun _ => ?_) (fun c => absurd c (by decide))
    refine q_iinc [some (vr (121 + 2 * s0)), some (vr 8), some (vr 65), some (vi x3), some (vi x4), some (vi (x5 + 1)), none, some (vi xs0), some (vi 0)] 155 dX2_isShaky_152 rfl rfl (Nat.le_of_ble_eq_true rfl) rfl rfl ?_
    refine ex_goto 37 dX2_isShaky_155 (by decide) ?_
    refine ex_dropL (ls' := [some (vr (121 + 2 * s0)), some (vr 8), some (vr 65), some (vi x3), some (vi x4), some (vi (x5 + 1)), none, none, some (vi 0)]) 7 rfl ?_
    refine ex_dropL (ls' := [some (vr (121 + 2 * s0)), some (vr 8), some (vr 65), some (vi x3), some (vi x4), some (vi (x5 + 1)), none, none, none]) 8 rfl ?_
    exact hyp
  · have hyp := hf c18
    clear ht hf
    refine ex_iload 94 dX2_isShaky_92 rfl rfl ?_
    refine ex_aload_n 95 dX2_isShaky_94 rfl rfl ?_
    refine q_getI 1 3 98 dX2_isShaky_95 rfl fiX2_87 (Or.inl rfl) (obL hs0) ?_
    obtain ⟨o2, hyp⟩ := hyp
    obtain ⟨o3, hyp⟩ := hyp
    obtain ⟨ht, hf⟩ := hyp
    refine ex_icmp_eq 114 101 dX2_isShaky_98 (by decide) rfl o2 o3 (fun c17 => ?_) (fun c17 => ?_)
    · have hyp := ht c17
      clear ht hf
      refine ex_iconst 115 dX2_isShaky_114 rfl ?_
      refine q_istore [some (vr (121 + 2 * s0)), some (vr 8), some (vr 65), some (vi x3), some (vi x4), some (vi x5), none, some (vi xs0), some (vi 0)] 117 dX2_isShaky_115 rfl (Nat.le_of_ble_eq_true rfl) rfl rfl ?_
      refine ex_iload 119 dX2_isShaky_117 rfl rfl ?_
      refine ex_if_eq 152 122 dX2_isShaky_119 (by decide) rfl ⟨by decide, by decide⟩ (fun _ => ?_) (fun c => absurd c (by decide))
      refine q_iinc [some (vr (121 + 2 * s0)), some (vr 8), some (vr 65), some (vi x3), some (vi x4), some (vi (x5 + 1)), none, some (vi xs0), some (vi 0)] 155 dX2_isShaky_152 rfl rfl (Nat.le_of_ble_eq_true rfl) rfl rfl ?_
      refine ex_goto 37 dX2_isShaky_155 (by decide) ?_
      refine ex_dropL (ls' := [some (vr (121 + 2 * s0)), some (vr 8), some (vr 65), some (vi x3), some (vi x4), some (vi (x5 + 1)), none, none, some (vi 0)]) 7 rfl ?_
      refine ex_dropL (ls' := [some (vr (121 + 2 * s0)), some (vr 8), some (vr 65), some (vi x3), some (vi x4), some (vi (x5 + 1)), none, none, none]) 8 rfl ?_
      exact hyp
    · have hyp := hf c17
      clear ht hf
      refine ex_iload 103 dX2_isShaky_101 rfl rfl ?_
      refine ex_aload_n 104 dX2_isShaky_103 rfl rfl ?_
      refine q_getI 1 4 107 dX2_isShaky_104 rfl fiX2_90 (Or.inl rfl) (obL hs0) ?_
      obtain ⟨o4, hyp⟩ := hyp
      obtain ⟨ht, hf⟩ := hyp
      refine ex_icmp_eq 114 110 dX2_isShaky_107 (by decide) rfl o2 o4 (fun c16 => ?_) (fun c16 => ?_)
      · have hyp := ht c16
        clear ht hf
        refine ex_iconst 115 dX2_isShaky_114 rfl ?_
        refine q_istore [some (vr (121 + 2 * s0)), some (vr 8), some (vr 65), some (vi x3), some (vi x4), some (vi x5), none, some (vi xs0), some (vi 0)] 117 dX2_isShaky_115 rfl (Nat.le_of_ble_eq_true rfl) rfl rfl ?_
        refine ex_iload 119 dX2_isShaky_117 rfl rfl ?_
        refine ex_if_eq 152 122 dX2_isShaky_119 (by decide) rfl ⟨by decide, by decide⟩ (fun _ => ?_) (fun c => absurd c (by decide))
        refine q_iinc [some (vr (121 + 2 * s0)), some (vr 8), some (vr 65), some (vi x3), some (vi x4), some (vi (x5 + 1)), none, some (vi xs0), some (vi 0)] 155 dX2_isShaky_152 rfl rfl (Nat.le_of_ble_eq_true rfl) rfl rfl ?_
        refine ex_goto 37 dX2_isShaky_155 (by decide) ?_
        refine ex_dropL (ls' := [some (vr (121 + 2 * s0)), some (vr 8), some (vr 65), some (vi x3), some (vi x4), some (vi (x5 + 1)), none, none, some (vi 0)]) 7 rfl ?_
        refine ex_dropL (ls' := [some (vr (121 + 2 * s0)), some (vr 8), some (vr 65), some (vi x3), some (vi x4), some (vi (x5 + 1)), none, none, none]) 8 rfl ?_
        exact hyp
      · have hyp := hf c16
        clear ht hf
        refine ex_iconst 111 dX2_isShaky_110 rfl ?_
        refine ex_goto 115 dX2_isShaky_111 (by decide) ?_
        refine q_istore [some (vr (121 + 2 * s0)), some (vr 8), some (vr 65), some (vi x3), some (vi x4), some (vi x5), none, some (vi xs0), some (vi 1)] 117 dX2_isShaky_115 rfl (Nat.le_of_ble_eq_true rfl) rfl rfl ?_
        refine ex_iload 119 dX2_isShaky_117 rfl rfl ?_
        refine ex_if_eq 152 122 dX2_isShaky_119 (by decide) rfl ⟨by decide, by decide⟩ (fun c => absurd c (by decide)) (fun _ => ?_)
        refine ex_aload_n 123 dX2_isShaky_122 rfl rfl ?_
        refine ex_iload 125 dX2_isShaky_123 rfl rfl ?_
        refine ex_iload 127 dX2_isShaky_125 rfl rfl ?_
        refine s_callVi [vi xs0, vi x5] 130 dX2_isShaky_127 rfl cvX2_99 rfl rfl ⟨Nat.le_of_ble_eq_true rfl, Nat.le_of_ble_eq_true rfl⟩ (Nat.le_of_ble_eq_true rfl) ⟨_, rfl⟩ hyp (fun y6 h1 hq => ?_)
        obtain ⟨g5, rfl, hyp⟩ := hq
        obtain ⟨o7, hyp⟩ := hyp
        obtain ⟨ht, hf⟩ := hyp
        refine ex_if_eq 152 133 dX2_isShaky_130 (by decide) rfl o7 (fun c15 => ?_) (fun c15 => ?_)
        · have hyp := ht c15
          clear ht hf
          refine q_iinc [some (vr (121 + 2 * s0)), some (vr 8), some (vr 65), some (vi x3), some (vi x4), some (vi (x5 + 1)), none, some (vi xs0), some (vi 1)] 155 dX2_isShaky_152 rfl rfl (Nat.le_of_ble_eq_true rfl) rfl rfl ?_
          refine ex_goto 37 dX2_isShaky_155 (by decide) ?_
          refine ex_dropL (ls' := [some (vr (121 + 2 * s0)), some (vr 8), some (vr 65), some (vi x3), some (vi x4), some (vi (x5 + 1)), none, none, some (vi 1)]) 7 rfl ?_
          refine ex_dropL (ls' := [some (vr (121 + 2 * s0)), some (vr 8), some (vr 65), some (vi x3), some (vi x4), some (vi (x5 + 1)), none, none, none]) 8 rfl ?_
          exact hyp
        · have hyp := hf c15
          clear ht hf
          refine ex_iload 135 dX2_isShaky_133 rfl rfl ?_
          refine ex_aload_n 136 dX2_isShaky_135 rfl rfl ?_
          refine q_getR (a := 85) 6 1 139 dX2_isShaky_136 rfl fiX2_93 rfl ⟨_, rfl⟩ rfl ?_
          refine ex_iload 141 dX2_isShaky_139 rfl rfl ?_
          obtain ⟨o8, hyp⟩ := hyp
          obtain ⟨o9, hyp⟩ := hyp
          refine ex_aald (a := (86 + (xs0).toNat)) 23 142 dX2_isShaky_141 rfl (by decide) (ai_of (n := 18) rfl o8 o9 (by decide)) (rxV g5 (ltN (n := 18) o8 o9)) ?_
          refine ex_iload 144 dX2_isShaky_142 rfl rfl ?_
          obtain ⟨o10, hyp⟩ := hyp
          obtain ⟨o11, hyp⟩ := hyp
          refine ex_iald 145 dX2_isShaky_144 rfl (ai_of (n := 18) (txV _ (ltN (n := 18) o8 o9)) o10 o11 (by decide)) ?_
          refine ex_isub 146 dX2_isShaky_145 rfl ?_
          refine ex_iload_n 147 dX2_isShaky_146 rfl rfl ?_
          obtain ⟨o12, hyp⟩ := hyp
          obtain ⟨o13, hyp⟩ := hyp
          obtain ⟨ht, hf⟩ := hyp
          refine ex_icmp_gt 152 150 dX2_isShaky_147 (by decide) rfl o12 o13 (fun c14 => ?_) (fun c14 => ?_)
          · have hyp := ht c14
            clear ht hf
            refine q_iinc [some (vr (121 + 2 * s0)), some (vr 8), some (vr 65), some (vi x3), some (vi x4), some (vi (x5 + 1)), none, some (vi xs0), some (vi 1)] 155 dX2_isShaky_152 rfl rfl (Nat.le_of_ble_eq_true rfl) rfl rfl ?_
            refine ex_goto 37 dX2_isShaky_155 (by decide) ?_
            refine ex_dropL (ls' := [some (vr (121 + 2 * s0)), some (vr 8), some (vr 65), some (vi x3), some (vi x4), some (vi (x5 + 1)), none, none, some (vi 1)]) 7 rfl ?_
            refine ex_dropL (ls' := [some (vr (121 + 2 * s0)), some (vr 8), some (vr 65), some (vi x3), some (vi x4), some (vi (x5 + 1)), none, none, none]) 8 rfl ?_
            exact hyp
          · have hyp := hf c14
            clear ht hf
            refine ex_iconst 151 dX2_isShaky_150 rfl ?_
            exact ex_iret dX2_isShaky_151 (Or.inr ⟨rfl, Or.inr rfl⟩) ⟨_, rfl, _, rfl, hyp⟩
set_option maxRecDepth 4000 in
theorem uX2_layWedding {P : GS → Prop} (g0 : GS) (x1 : Int) (x4 : Int) (hyp : XXv mX2_layWedding 6 [some (vr 117), some (vi x1), some (vr 8), some (vr 65), some (vi x4), some (vi (-1)), some (vi 0)] [] g0 P) : MXv mX2_layWedding [vr 117, vi x1, vr 8, vr 65, vi x4] g0 P := by
  refine met_of_ex (by decide +kernel) (Nat.le_of_ble_eq_true rfl) ?_
  show EX mX2_layWedding 0 [some (vr 117), some (vi x1), some (vr 8), some (vr 65), some (vi x4), none, none] [] (hX g0) (0, 0) _
  refine ex_iconst 1 dX2_layWedding_0 rfl ?_
  refine q_istore [some (vr 117), some (vi x1), some (vr 8), some (vr 65), some (vi x4), some (vi (-1)), none] 3 dX2_layWedding_1 rfl (Nat.le_of_ble_eq_true rfl) rfl rfl ?_
  refine ex_iconst 4 dX2_layWedding_3 rfl ?_
  refine q_istore [some (vr 117), some (vi x1), some (vr 8), some (vr 65), some (vi x4), some (vi (-1)), some (vi 0)] 6 dX2_layWedding_4 rfl (Nat.le_of_ble_eq_true rfl) rfl rfl ?_
  exact hyp
set_option maxRecDepth 4000 in
theorem uX2_layWedding_6 {P : GS → Prop} (g0 : GS) (x1 : Int) (x4 : Int) (x5 : Int) (x6 : Int) (hyp : rng x6 ∧ rng (g0.1 117 2) ∧ (g0.1 117 2 ≤ x6 → (rng x5 ∧ (¬ x5 = (-1) → (MXi mX2_hasRival [vr 117, vi x5, vi x4] g0 (fun y5 g4 => rng y5 ∧ (y5 = 0 → (MXv mX2_add [vr 117, vi x1, vi x5, vr 8] g4 (fun g7 => P g7))) ∧ (¬ y5 = 0 → (0 ≤ x1 ∧ x1 < 18 ∧ ∀ g11 : GS, g11 = gI g4 119 (x1).toNat (-1) → (∀ g14 : GS, g14 = gI g11 117 4 ((g11.1 117 4) + 1) → (P g14))))))) ∧ (x5 = (-1) → (MXi mX2_open [vr 117] g0 (fun y18 g17 => MXv mX2_add [vr 117, vi x1, vi y18, vr 8] g17 (fun g19 => P g19)))))) ∧ (x6 < g0.1 117 2 → (0 ≤ x6 ∧ x6 < 18 ∧ MXi mX2_valueAt [vi x1, vr (121 + 2 * (x6).toNat), vr 65] g0 (fun y24 g23 => ∀ g26 : GS, g26 = gI g23 120 (x6).toNat y24 → (rng (g26.1 120 (x6).toNat) ∧ (g26.1 120 (x6).toNat = (-1) → (XXv mX2_layWedding 6 [some (vr 117), some (vi x1), some (vr 8), some (vr 65), some (vi x4), some (vi x5), some (vi (x6 + 1))] [] g26 P)) ∧ (¬ g26.1 120 (x6).toNat = (-1) → (rng x5 ∧ (x5 = (-1) → (XXv mX2_layWedding 6 [some (vr 117), some (vi x1), some (vr 8), some (vr 65), some (vi x4), some (vi x6), some (vi (x6 + 1))] [] g26 P)) ∧ (¬ x5 = (-1) → (0 ≤ x5 ∧ x5 < 18 ∧ rng (g26.1 120 (x5).toNat) ∧ (g26.1 120 (x6).toNat ≤ g26.1 120 (x5).toNat → (XXv mX2_layWedding 6 [some (vr 117), some (vi x1), some (vr 8), some (vr 65), some (vi x4), some (vi x5), some (vi (x6 + 1))] [] g26 P)) ∧ (g26.1 120 (x5).toNat < g26.1 120 (x6).toNat → (XXv mX2_layWedding 6 [some (vr 117), some (vi x1), some (vr 8), some (vr 65), some (vi x4), some (vi x6), some (vi (x6 + 1))] [] g26 P))))))))))) : XXv mX2_layWedding 6 [some (vr 117), some (vi x1), some (vr 8), some (vr 65), some (vi x4), some (vi x5), some (vi x6)] [] g0 P := by
  refine ex_iload 8 dX2_layWedding_6 rfl rfl ?_
  refine ex_aload_n 9 dX2_layWedding_8 rfl rfl ?_
  refine q_getI 2 2 12 dX2_layWedding_9 rfl fiX2_25 (Or.inl rfl) ⟨_, rfl⟩ ?_
  obtain ⟨o1, hyp⟩ := hyp
  obtain ⟨o2, hyp⟩ := hyp
  obtain ⟨ht, hf⟩ := hyp
  refine ex_icmp_ge 78 15 dX2_layWedding_12 (by decide) rfl o1 o2 (fun c36 => ?_) (fun c36 => ?_)
  · have hyp := ht c36
    clear ht hf
    refine ex_iload 80 dX2_layWedding_78 rfl rfl ?_
    refine ex_iconst 81 dX2_layWedding_80 rfl ?_
    obtain ⟨o3, hyp⟩ := hyp
    obtain ⟨ht, hf⟩ := hyp
    refine ex_icmp_ne 97 84 dX2_layWedding_81 (by decide) rfl o3 ⟨by decide, by decide⟩ (fun c20 => ?_) (fun c20 => ?_)
    · have hyp := ht c20
      clear ht hf
      refine ex_aload_n 98 dX2_layWedding_97 rfl rfl ?_
      refine ex_iload 100 dX2_layWedding_98 rfl rfl ?_
      refine ex_iload 102 dX2_layWedding_100 rfl rfl ?_
      refine s_callVi [vi x5, vi x4] 105 dX2_layWedding_102 rfl cvX2_107 rfl rfl ⟨Nat.le_of_ble_eq_true rfl, Nat.le_of_ble_eq_true rfl⟩ (Nat.le_of_ble_eq_true rfl) ⟨_, rfl⟩ hyp (fun y5 h1 hq => ?_)
      obtain ⟨g4, rfl, hyp⟩ := hq
      obtain ⟨o6, hyp⟩ := hyp
      obtain ⟨ht, hf⟩ := hyp
      refine ex_if_eq 128 108 dX2_layWedding_105 (by decide) rfl o6 (fun c16 => ?_) (fun c16 => ?_)
      · have hyp := ht c16
        clear ht hf
        refine ex_aload_n 129 dX2_layWedding_128 rfl rfl ?_
        refine ex_iload_n 130 dX2_layWedding_129 rfl rfl ?_
        refine ex_iload 132 dX2_layWedding_130 rfl rfl ?_
        refine ex_aload_n 133 dX2_layWedding_132 rfl rfl ?_
        refine s_callVv [vi x1, vi x5, vr 8] 136 dX2_layWedding_133 rfl cvX2_68 rfl rfl ⟨Nat.le_of_ble_eq_true rfl, Nat.le_of_ble_eq_true rfl⟩ (Nat.le_of_ble_eq_true rfl) ⟨_, rfl⟩ hyp (fun h1 hq => ?_)
        obtain ⟨g7, rfl, hyp⟩ := hq
        exact ex_vret dX2_layWedding_136 rfl ⟨rfl, _, rfl, hyp⟩
      · have hyp := hf c16
        clear ht hf
        refine ex_aload_n 109 dX2_layWedding_108 rfl rfl ?_
        refine q_getR (a := 119) 2 1 112 dX2_layWedding_109 rfl fiX2_17 rfl ⟨_, rfl⟩ rfl ?_
        refine ex_iload_n 113 dX2_layWedding_112 rfl rfl ?_
        refine ex_iconst 114 dX2_layWedding_113 rfl ?_
        obtain ⟨o8, hyp⟩ := hyp
        obtain ⟨o9, hyp⟩ := hyp
        refine ex_iast 115 dX2_layWedding_114 rfl (ai_of (n := 18) rfl o8 o9 (by decide)) (fun h1 e10 => ?_)
        obtain ⟨g11, eg12⟩ : ∃ z : GS, z = gI g4 119 (x1).toNat (-1) := ⟨_, rfl⟩
        have hyp := hyp g11 eg12
        obtain rfl : h1 = hX g11 := by rw [e10, eg12]; exact rfl
        clear e10
        refine ex_aload_n 116 dX2_layWedding_115 rfl rfl ?_
        refine ex_dup 117 dX2_layWedding_116 rfl rfl ?_
        refine q_getI 2 4 120 dX2_layWedding_117 rfl fiX2_29 (Or.inl rfl) ⟨_, rfl⟩ ?_
        refine ex_iconst 121 dX2_layWedding_120 rfl ?_
        refine ex_iadd 122 dX2_layWedding_121 rfl ?_
        refine q_putI 2 4 125 dX2_layWedding_122 rfl fiX2_29 ff2_4 rfl ⟨_, rfl⟩ (fun h1 e13 => ?_)
        obtain ⟨g14, eg15⟩ : ∃ z : GS, z = gI g11 117 4 ((g11.1 117 4) + 1) := ⟨_, rfl⟩
        have hyp := hyp g14 eg15
        obtain rfl : h1 = hX g14 := by rw [e13, eg15]; exact rfl
        clear e13
        refine ex_goto 136 dX2_layWedding_125 (by decide) ?_
        exact ex_vret dX2_layWedding_136 rfl ⟨rfl, _, rfl, hyp⟩
    · have hyp := hf c20
      clear ht hf
      refine ex_aload_n 85 dX2_layWedding_84 rfl rfl ?_
      refine ex_iload_n 86 dX2_layWedding_85 rfl rfl ?_
      refine ex_aload_n 87 dX2_layWedding_86 rfl rfl ?_
      refine s_callVi [] 90 dX2_layWedding_87 rfl cvX2_64 rfl rfl ⟨Nat.le_of_ble_eq_true rfl, Nat.le_of_ble_eq_true rfl⟩ (Nat.le_of_ble_eq_true rfl) ⟨_, rfl⟩ hyp (fun y18 h1 hq => ?_)
      obtain ⟨g17, rfl, hyp⟩ := hq
      refine ex_aload_n 91 dX2_layWedding_90 rfl rfl ?_
      refine s_callVv [vi x1, vi y18, vr 8] 94 dX2_layWedding_91 rfl cvX2_68 rfl rfl ⟨Nat.le_of_ble_eq_true rfl, Nat.le_of_ble_eq_true rfl⟩ (Nat.le_of_ble_eq_true rfl) ⟨_, rfl⟩ hyp (fun h1 hq => ?_)
      obtain ⟨g19, rfl, hyp⟩ := hq
      refine ex_goto 136 dX2_layWedding_94 (by decide) ?_
      exact ex_vret dX2_layWedding_136 rfl ⟨rfl, _, rfl, hyp⟩
  · have hyp := hf c36
    clear ht hf
    refine ex_aload_n 16 dX2_layWedding_15 rfl rfl ?_
    refine q_getR (a := 120) 2 5 19 dX2_layWedding_16 rfl fiX2_21 rfl ⟨_, rfl⟩ rfl ?_
    refine ex_iload 21 dX2_layWedding_19 rfl rfl ?_
    refine ex_iload_n 22 dX2_layWedding_21 rfl rfl ?_
    refine ex_aload_n 23 dX2_layWedding_22 rfl rfl ?_
    refine q_getR (a := 118) 2 0 26 dX2_layWedding_23 rfl fiX2_11 rfl ⟨_, rfl⟩ rfl ?_
    refine ex_iload 28 dX2_layWedding_26 rfl rfl ?_
    obtain ⟨o21, hyp⟩ := hyp
    obtain ⟨o22, hyp⟩ := hyp
    refine ex_aald (a := (121 + 2 * (x6).toNat)) 22 29 dX2_layWedding_28 rfl (by decide) (ai_of (n := 18) rfl o21 o22 (by decide)) (rxA g0 (ltN (n := 18) o21 o22)) ?_
    refine ex_aload_n 30 dX2_layWedding_29 rfl rfl ?_
    refine s_callSi [vi x1, vr (121 + 2 * (x6).toNat), vr 65] 33 dX2_layWedding_30 rfl cvX2_103 rfl rfl ⟨Nat.le_of_ble_eq_true rfl, Nat.le_of_ble_eq_true rfl⟩ (Nat.le_of_ble_eq_true rfl) hyp (fun y24 h1 hq => ?_)
    obtain ⟨g23, rfl, hyp⟩ := hq
    refine ex_iast 34 dX2_layWedding_33 rfl (ai_of (n := 18) rfl o21 o22 (by decide)) (fun h1 e25 => ?_)
    obtain ⟨g26, eg27⟩ : ∃ z : GS, z = gI g23 120 (x6).toNat y24 := ⟨_, rfl⟩
    have hyp := hyp g26 eg27
    obtain rfl : h1 = hX g26 := by rw [e25, eg27]; exact rfl
    clear e25
    refine ex_aload_n 35 dX2_layWedding_34 rfl rfl ?_
    refine q_getR (a := 120) 2 5 38 dX2_layWedding_35 rfl fiX2_21 rfl ⟨_, rfl⟩ rfl ?_
    refine ex_iload 40 dX2_layWedding_38 rfl rfl ?_
    refine ex_iald 41 dX2_layWedding_40 rfl (ai_of (n := 18) rfl o21 o22 (by decide)) ?_
    refine ex_iconst 42 dX2_layWedding_41 rfl ?_
    obtain ⟨o28, hyp⟩ := hyp
    obtain ⟨ht, hf⟩ := hyp
    refine ex_icmp_eq 72 45 dX2_layWedding_42 (by decide) rfl o28 ⟨by decide, by decide⟩ (fun c35 => ?_) (fun c35 => ?_)
    · have hyp := ht c35
      clear ht hf
      refine q_iinc [some (vr 117), some (vi x1), some (vr 8), some (vr 65), some (vi x4), some (vi x5), some (vi (x6 + 1))] 75 dX2_layWedding_72 rfl rfl (Nat.le_of_ble_eq_true rfl) rfl rfl ?_
      refine ex_goto 6 dX2_layWedding_75 (by decide) ?_
      exact hyp
    · have hyp := hf c35
      clear ht hf
      refine ex_iload 47 dX2_layWedding_45 rfl rfl ?_
      refine ex_iconst 48 dX2_layWedding_47 rfl ?_
      obtain ⟨o29, hyp⟩ := hyp
      obtain ⟨ht, hf⟩ := hyp
      refine ex_icmp_eq 68 51 dX2_layWedding_48 (by decide) rfl o29 ⟨by decide, by decide⟩ (fun c34 => ?_) (fun c34 => ?_)
      · have hyp := ht c34
        clear ht hf
        refine ex_iload 70 dX2_layWedding_68 rfl rfl ?_
        refine q_istore [some (vr 117), some (vi x1), some (vr 8), some (vr 65), some (vi x4), some (vi x6), some (vi x6)] 72 dX2_layWedding_70 rfl (Nat.le_of_ble_eq_true rfl) rfl rfl ?_
        refine q_iinc [some (vr 117), some (vi x1), some (vr 8), some (vr 65), some (vi x4), some (vi x6), some (vi (x6 + 1))] 75 dX2_layWedding_72 rfl rfl (Nat.le_of_ble_eq_true rfl) rfl rfl ?_
        refine ex_goto 6 dX2_layWedding_75 (by decide) ?_
        exact hyp
      · have hyp := hf c34
        clear ht hf
        refine ex_aload_n 52 dX2_layWedding_51 rfl rfl ?_
        refine q_getR (a := 120) 2 5 55 dX2_layWedding_52 rfl fiX2_21 rfl ⟨_, rfl⟩ rfl ?_
        refine ex_iload 57 dX2_layWedding_55 rfl rfl ?_
        refine ex_iald 58 dX2_layWedding_57 rfl (ai_of (n := 18) rfl o21 o22 (by decide)) ?_
        refine ex_aload_n 59 dX2_layWedding_58 rfl rfl ?_
        refine q_getR (a := 120) 2 5 62 dX2_layWedding_59 rfl fiX2_21 rfl ⟨_, rfl⟩ rfl ?_
        refine ex_iload 64 dX2_layWedding_62 rfl rfl ?_
        obtain ⟨o30, hyp⟩ := hyp
        obtain ⟨o31, hyp⟩ := hyp
        refine ex_iald 65 dX2_layWedding_64 rfl (ai_of (n := 18) rfl o30 o31 (by decide)) ?_
        obtain ⟨o32, hyp⟩ := hyp
        obtain ⟨ht, hf⟩ := hyp
        refine ex_icmp_le 72 68 dX2_layWedding_65 (by decide) rfl o28 o32 (fun c33 => ?_) (fun c33 => ?_)
        · have hyp := ht c33
          clear ht hf
          refine q_iinc [some (vr 117), some (vi x1), some (vr 8), some (vr 65), some (vi x4), some (vi x5), some (vi (x6 + 1))] 75 dX2_layWedding_72 rfl rfl (Nat.le_of_ble_eq_true rfl) rfl rfl ?_
          refine ex_goto 6 dX2_layWedding_75 (by decide) ?_
          exact hyp
        · have hyp := hf c33
          clear ht hf
          refine ex_iload 70 dX2_layWedding_68 rfl rfl ?_
          refine q_istore [some (vr 117), some (vi x1), some (vr 8), some (vr 65), some (vi x4), some (vi x6), some (vi x6)] 72 dX2_layWedding_70 rfl (Nat.le_of_ble_eq_true rfl) rfl rfl ?_
          refine q_iinc [some (vr 117), some (vi x1), some (vr 8), some (vr 65), some (vi x4), some (vi x6), some (vi (x6 + 1))] 75 dX2_layWedding_72 rfl rfl (Nat.le_of_ble_eq_true rfl) rfl rfl ?_
          refine ex_goto 6 dX2_layWedding_75 (by decide) ?_
          exact hyp
set_option maxRecDepth 4000 in
theorem uX2_valueAt {P : Int → GS → Prop} (g0 : GS) (x0 : Int) (s1 : Nat) (hs1 : s1 < 18) (hyp : MXi mX1_weddings [vr (121 + 2 * s1)] g0 (fun y2 g1 => rng y2 ∧ (3 ≤ y2 → (P (-1) g1)) ∧ (y2 < 3 → (MXi mX6_fitFirst [vr 65, vi x0, vr (122 + 2 * s1), vi (g1.1 (121 + 2 * s1) 1)] g1 (fun y5 g4 => rng y5 ∧ (¬ y5 = 0 → (rng (g4.1 (121 + 2 * s1) 2) ∧ (g4.1 (121 + 2 * s1) 2 ≤ 0 → (MXi mX6_meanWorth [vr 65, vi x0, vr (122 + 2 * s1), vi (g4.1 (121 + 2 * s1) 1)] g4 (fun y9 g8 => P y9 g8))) ∧ (0 < g4.1 (121 + 2 * s1) 2 → (MXi mX6_meanWorth [vr 65, vi x0, vr (122 + 2 * s1), vi (g4.1 (121 + 2 * s1) 2)] g4 (fun y11 g10 => P y11 g10))))) ∧ (y5 = 0 → (P (-1) g4))))))) : MXi mX2_valueAt [vi x0, vr (121 + 2 * s1), vr 65] g0 P := by
  refine met_of_ex (by decide +kernel) (Nat.le_of_ble_eq_true rfl) ?_
  show EX mX2_valueAt 0 [some (vi x0), some (vr (121 + 2 * s1)), some (vr 65)] [] (hX g0) (0, 0) _
  refine ex_aload_n 1 dX2_valueAt_0 rfl rfl ?_
  refine s_callVi [] 4 dX2_valueAt_1 rfl cvX2_110 rfl rfl ⟨Nat.le_of_ble_eq_true rfl, Nat.le_of_ble_eq_true rfl⟩ (Nat.le_of_ble_eq_true rfl) (obL hs1) hyp (fun y2 h1 hq => ?_)
  obtain ⟨g1, rfl, hyp⟩ := hq
  refine ex_iconst 5 dX2_valueAt_4 rfl ?_
  obtain ⟨o3, hyp⟩ := hyp
  obtain ⟨ht, hf⟩ := hyp
  refine ex_icmp_ge 24 8 dX2_valueAt_5 (by decide) rfl o3 ⟨by decide, by decide⟩ (fun c14 => ?_) (fun c14 => ?_)
  · have hyp := ht c14
    clear ht hf
    refine ex_iconst 25 dX2_valueAt_24 rfl ?_
    exact ex_iret dX2_valueAt_25 (Or.inl rfl) ⟨_, rfl, _, rfl, hyp⟩
  · have hyp := hf c14
    clear ht hf
    refine ex_aload_n 9 dX2_valueAt_8 rfl rfl ?_
    refine ex_iload_n 10 dX2_valueAt_9 rfl rfl ?_
    refine ex_aload_n 11 dX2_valueAt_10 rfl rfl ?_
    refine q_getR (a := (122 + 2 * s1)) 1 0 14 dX2_valueAt_11 rfl fiX2_113 rfl (obL hs1) (rxM g1 hs1) ?_
    refine ex_aload_n 15 dX2_valueAt_14 rfl rfl ?_
    refine q_getI 1 1 18 dX2_valueAt_15 rfl fiX2_63 (Or.inl rfl) (obL hs1) ?_
    refine s_callVi [vi x0, vr (122 + 2 * s1), vi (g1.1 (121 + 2 * s1) 1)] 21 dX2_valueAt_18 rfl cvX2_116 rfl rfl ⟨Nat.le_of_ble_eq_true rfl, Nat.le_of_ble_eq_true rfl⟩ (Nat.le_of_ble_eq_true rfl) ⟨_, rfl⟩ hyp (fun y5 h1 hq => ?_)
    obtain ⟨g4, rfl, hyp⟩ := hq
    obtain ⟨o6, hyp⟩ := hyp
    obtain ⟨ht, hf⟩ := hyp
    refine ex_if_ne 26 24 dX2_valueAt_21 (by decide) rfl o6 (fun c13 => ?_) (fun c13 => ?_)
    · have hyp := ht c13
      clear ht hf
      refine ex_aload_n 27 dX2_valueAt_26 rfl rfl ?_
      refine ex_iload_n 28 dX2_valueAt_27 rfl rfl ?_
      refine ex_aload_n 29 dX2_valueAt_28 rfl rfl ?_
      refine q_getR (a := (122 + 2 * s1)) 1 0 32 dX2_valueAt_29 rfl fiX2_113 rfl (obL hs1) (rxM g4 hs1) ?_
      refine ex_aload_n 33 dX2_valueAt_32 rfl rfl ?_
      refine q_getI 1 2 36 dX2_valueAt_33 rfl fiX2_120 (Or.inl rfl) (obL hs1) ?_
      obtain ⟨o7, hyp⟩ := hyp
      obtain ⟨ht, hf⟩ := hyp
      refine ex_if_le 46 39 dX2_valueAt_36 (by decide) rfl o7 (fun c12 => ?_) (fun c12 => ?_)
      · have hyp := ht c12
        clear ht hf
        refine ex_aload_n 47 dX2_valueAt_46 rfl rfl ?_
        refine q_getI 1 1 50 dX2_valueAt_47 rfl fiX2_63 (Or.inl rfl) (obL hs1) ?_
        refine s_callVi [vi x0, vr (122 + 2 * s1), vi (g4.1 (121 + 2 * s1) 1)] 53 dX2_valueAt_50 rfl cvX2_123 rfl rfl ⟨Nat.le_of_ble_eq_true rfl, Nat.le_of_ble_eq_true rfl⟩ (Nat.le_of_ble_eq_true rfl) ⟨_, rfl⟩ hyp (fun y9 h1 hq => ?_)
        obtain ⟨g8, rfl, hyp⟩ := hq
        exact ex_iret dX2_valueAt_53 (Or.inl rfl) ⟨_, rfl, _, rfl, hyp⟩
      · have hyp := hf c12
        clear ht hf
        refine ex_aload_n 40 dX2_valueAt_39 rfl rfl ?_
        refine q_getI 1 2 43 dX2_valueAt_40 rfl fiX2_120 (Or.inl rfl) (obL hs1) ?_
        refine ex_goto 50 dX2_valueAt_43 (by decide) ?_
        refine s_callVi [vi x0, vr (122 + 2 * s1), vi (g4.1 (121 + 2 * s1) 2)] 53 dX2_valueAt_50 rfl cvX2_123 rfl rfl ⟨Nat.le_of_ble_eq_true rfl, Nat.le_of_ble_eq_true rfl⟩ (Nat.le_of_ble_eq_true rfl) ⟨_, rfl⟩ hyp (fun y11 h1 hq => ?_)
        obtain ⟨g10, rfl, hyp⟩ := hq
        exact ex_iret dX2_valueAt_53 (Or.inl rfl) ⟨_, rfl, _, rfl, hyp⟩
    · have hyp := hf c13
      clear ht hf
      refine ex_iconst 25 dX2_valueAt_24 rfl ?_
      exact ex_iret dX2_valueAt_25 (Or.inl rfl) ⟨_, rfl, _, rfl, hyp⟩
set_option maxRecDepth 4000 in
theorem uX2_hasRival {P : Int → GS → Prop} (g0 : GS) (x1 : Int) (x2 : Int) (hyp : XXi mX2_hasRival 2 [some (vr 117), some (vi x1), some (vi x2), some (vi 0)] [] g0 P) : MXi mX2_hasRival [vr 117, vi x1, vi x2] g0 P := by
  refine met_of_ex (by decide +kernel) (Nat.le_of_ble_eq_true rfl) ?_
  show EX mX2_hasRival 0 [some (vr 117), some (vi x1), some (vi x2), none] [] (hX g0) (0, 0) _
  refine ex_iconst 1 dX2_hasRival_0 rfl ?_
  refine q_istore_n [some (vr 117), some (vi x1), some (vi x2), some (vi 0)] 2 dX2_hasRival_1 rfl (Nat.le_of_ble_eq_true rfl) rfl rfl ?_
  exact hyp
set_option maxRecDepth 4000 in
theorem uX2_hasRival_2 {P : Int → GS → Prop} (g0 : GS) (x1 : Int) (x2 : Int) (x3 : Int) (hyp : rng x3 ∧ rng (g0.1 117 2) ∧ (g0.1 117 2 ≤ x3 → (P 0 g0)) ∧ (x3 < g0.1 117 2 → (rng x1 ∧ (x3 = x1 → (XXi mX2_hasRival 2 [some (vr 117), some (vi x1), some (vi x2), some (vi (x3 + 1))] [] g0 P)) ∧ (¬ x3 = x1 → (0 ≤ x3 ∧ x3 < 18 ∧ rng (g0.1 120 (x3).toNat) ∧ (g0.1 120 (x3).toNat = (-1) → (XXi mX2_hasRival 2 [some (vr 117), some (vi x1), some (vi x2), some (vi (x3 + 1))] [] g0 P)) ∧ (¬ g0.1 120 (x3).toNat = (-1) → (0 ≤ x1 ∧ x1 < 18 ∧ rng ((g0.1 120 (x1).toNat) - (g0.1 120 (x3).toNat)) ∧ rng x2 ∧ (x2 < (g0.1 120 (x1).toNat) - (g0.1 120 (x3).toNat) → (XXi mX2_hasRival 2 [some (vr 117), some (vi x1), some (vi x2), some (vi (x3 + 1))] [] g0 P)) ∧ ((g0.1 120 (x1).toNat) - (g0.1 120 (x3).toNat) ≤ x2 → (P 1 g0))))))))) : XXi mX2_hasRival 2 [some (vr 117), some (vi x1), some (vi x2), some (vi x3)] [] g0 P := by
  refine ex_iload_n 3 dX2_hasRival_2 rfl rfl ?_
  refine ex_aload_n 4 dX2_hasRival_3 rfl rfl ?_
  refine q_getI 2 2 7 dX2_hasRival_4 rfl fiX2_25 (Or.inl rfl) ⟨_, rfl⟩ ?_
  obtain ⟨o1, hyp⟩ := hyp
  obtain ⟨o2, hyp⟩ := hyp
  obtain ⟨ht, hf⟩ := hyp
  refine ex_icmp_ge 50 10 dX2_hasRival_7 (by decide) rfl o1 o2 (fun c14 => ?_) (fun c14 => ?_)
  · have hyp := ht c14
    clear ht hf
    refine ex_iconst 51 dX2_hasRival_50 rfl ?_
    exact ex_iret dX2_hasRival_51 (Or.inr ⟨rfl, Or.inl rfl⟩) ⟨_, rfl, _, rfl, hyp⟩
  · have hyp := hf c14
    clear ht hf
    refine ex_iload_n 11 dX2_hasRival_10 rfl rfl ?_
    refine ex_iload_n 12 dX2_hasRival_11 rfl rfl ?_
    obtain ⟨o3, hyp⟩ := hyp
    obtain ⟨ht, hf⟩ := hyp
    refine ex_icmp_eq 44 15 dX2_hasRival_12 (by decide) rfl o1 o3 (fun c13 => ?_) (fun c13 => ?_)
    · have hyp := ht c13
      clear ht hf
      refine q_iinc [some (vr 117), some (vi x1), some (vi x2), some (vi (x3 + 1))] 47 dX2_hasRival_44 rfl rfl (Nat.le_of_ble_eq_true rfl) rfl rfl ?_
      refine ex_goto 2 dX2_hasRival_47 (by decide) ?_
      exact hyp
    · have hyp := hf c13
      clear ht hf
      refine ex_aload_n 16 dX2_hasRival_15 rfl rfl ?_
      refine q_getR (a := 120) 2 5 19 dX2_hasRival_16 rfl fiX2_21 rfl ⟨_, rfl⟩ rfl ?_
      refine ex_iload_n 20 dX2_hasRival_19 rfl rfl ?_
      obtain ⟨o4, hyp⟩ := hyp
      obtain ⟨o5, hyp⟩ := hyp
      refine ex_iald 21 dX2_hasRival_20 rfl (ai_of (n := 18) rfl o4 o5 (by decide)) ?_
      refine ex_iconst 22 dX2_hasRival_21 rfl ?_
      obtain ⟨o6, hyp⟩ := hyp
      obtain ⟨ht, hf⟩ := hyp
      refine ex_icmp_eq 44 25 dX2_hasRival_22 (by decide) rfl o6 ⟨by decide, by decide⟩ (fun c12 => ?_) (fun c12 => ?_)
      · have hyp := ht c12
        clear ht hf
        refine q_iinc [some (vr 117), some (vi x1), some (vi x2), some (vi (x3 + 1))] 47 dX2_hasRival_44 rfl rfl (Nat.le_of_ble_eq_true rfl) rfl rfl ?_
        refine ex_goto 2 dX2_hasRival_47 (by decide) ?_
        exact hyp
      · have hyp := hf c12
        clear ht hf
        refine ex_aload_n 26 dX2_hasRival_25 rfl rfl ?_
        refine q_getR (a := 120) 2 5 29 dX2_hasRival_26 rfl fiX2_21 rfl ⟨_, rfl⟩ rfl ?_
        refine ex_iload_n 30 dX2_hasRival_29 rfl rfl ?_
        obtain ⟨o7, hyp⟩ := hyp
        obtain ⟨o8, hyp⟩ := hyp
        refine ex_iald 31 dX2_hasRival_30 rfl (ai_of (n := 18) rfl o7 o8 (by decide)) ?_
        refine ex_aload_n 32 dX2_hasRival_31 rfl rfl ?_
        refine q_getR (a := 120) 2 5 35 dX2_hasRival_32 rfl fiX2_21 rfl ⟨_, rfl⟩ rfl ?_
        refine ex_iload_n 36 dX2_hasRival_35 rfl rfl ?_
        refine ex_iald 37 dX2_hasRival_36 rfl (ai_of (n := 18) rfl o4 o5 (by decide)) ?_
        refine ex_isub 38 dX2_hasRival_37 rfl ?_
        refine ex_iload_n 39 dX2_hasRival_38 rfl rfl ?_
        obtain ⟨o9, hyp⟩ := hyp
        obtain ⟨o10, hyp⟩ := hyp
        obtain ⟨ht, hf⟩ := hyp
        refine ex_icmp_gt 44 42 dX2_hasRival_39 (by decide) rfl o9 o10 (fun c11 => ?_) (fun c11 => ?_)
        · have hyp := ht c11
          clear ht hf
          refine q_iinc [some (vr 117), some (vi x1), some (vi x2), some (vi (x3 + 1))] 47 dX2_hasRival_44 rfl rfl (Nat.le_of_ble_eq_true rfl) rfl rfl ?_
          refine ex_goto 2 dX2_hasRival_47 (by decide) ?_
          exact hyp
        · have hyp := hf c11
          clear ht hf
          refine ex_iconst 43 dX2_hasRival_42 rfl ?_
          exact ex_iret dX2_hasRival_43 (Or.inr ⟨rfl, Or.inr rfl⟩) ⟨_, rfl, _, rfl, hyp⟩
set_option maxRecDepth 4000 in
theorem uX9_letter {P : Int → GS → Prop} (g0 : GS) (x1 : Int) (hyp : rng x1 ∧ (x1 < 32 → (P (-102) g0)) ∧ (32 ≤ x1 → ((x1 ≤ 126 → (rng (g0.1 1 1) ∧ (g0.1 1 1 < 60 → (MXv mX5_put [vr 1, vi x1] g0 (fun g3 => P (g3.1 1 1) g3))) ∧ (60 ≤ g0.1 1 1 → (P (-104) g0)))) ∧ (126 < x1 → (P (-102) g0))))) : MXi mX9_letter [vr 0, vi x1] g0 P := by
  refine met_of_ex (by decide +kernel) (Nat.le_of_ble_eq_true rfl) ?_
  show EX mX9_letter 0 [some (vr 0), some (vi x1)] [] (hX g0) (0, 0) _
  refine ex_iload_n 1 dX9_letter_0 rfl rfl ?_
  refine ex_bipush 3 dX9_letter_1 rfl ⟨by decide, by decide⟩ ?_
  obtain ⟨o1, hyp⟩ := hyp
  obtain ⟨ht, hf⟩ := hyp
  refine ex_icmp_lt 12 6 dX9_letter_3 (by decide) rfl o1 ⟨by decide, by decide⟩ (fun c6 => ?_) (fun c6 => ?_)
  · have hyp := ht c6
    clear ht hf
    refine ex_bipush 14 dX9_letter_12 rfl ⟨by decide, by decide⟩ ?_
    exact ex_iret dX9_letter_14 (Or.inl rfl) ⟨_, rfl, _, rfl, hyp⟩
  · have hyp := hf c6
    clear ht hf
    refine ex_iload_n 7 dX9_letter_6 rfl rfl ?_
    refine ex_bipush 9 dX9_letter_7 rfl ⟨by decide, by decide⟩ ?_
    obtain ⟨ht, hf⟩ := hyp
    refine ex_icmp_le 15 12 dX9_letter_9 (by decide) rfl o1 ⟨by decide, by decide⟩ (fun c5 => ?_) (fun c5 => ?_)
    · have hyp := ht c5
      clear ht hf
      refine ex_aload_n 16 dX9_letter_15 rfl rfl ?_
      refine q_getR (a := 1) 9 0 19 dX9_letter_16 rfl fiX9_10 rfl ⟨_, rfl⟩ rfl ?_
      refine q_getI 5 1 22 dX9_letter_19 rfl fiX9_72 (Or.inl rfl) ⟨_, rfl⟩ ?_
      refine ex_bipush 24 dX9_letter_22 rfl ⟨by decide, by decide⟩ ?_
      obtain ⟨o2, hyp⟩ := hyp
      obtain ⟨ht, hf⟩ := hyp
      refine ex_icmp_lt 30 27 dX9_letter_24 (by decide) rfl o2 ⟨by decide, by decide⟩ (fun c4 => ?_) (fun c4 => ?_)
      · have hyp := ht c4
        clear ht hf
        refine ex_aload_n 31 dX9_letter_30 rfl rfl ?_
        refine q_getR (a := 1) 9 0 34 dX9_letter_31 rfl fiX9_10 rfl ⟨_, rfl⟩ rfl ?_
        refine ex_iload_n 35 dX9_letter_34 rfl rfl ?_
        refine s_callVv [vi x1] 38 dX9_letter_35 rfl cvX9_75 rfl rfl ⟨Nat.le_of_ble_eq_true rfl, Nat.le_of_ble_eq_true rfl⟩ (Nat.le_of_ble_eq_true rfl) ⟨_, rfl⟩ hyp (fun h1 hq => ?_)
        obtain ⟨g3, rfl, hyp⟩ := hq
        refine ex_aload_n 39 dX9_letter_38 rfl rfl ?_
        refine q_getR (a := 1) 9 0 42 dX9_letter_39 rfl fiX9_10 rfl ⟨_, rfl⟩ rfl ?_
        refine q_getI 5 1 45 dX9_letter_42 rfl fiX9_72 (Or.inl rfl) ⟨_, rfl⟩ ?_
        exact ex_iret dX9_letter_45 (Or.inl rfl) ⟨_, rfl, _, rfl, hyp⟩
      · have hyp := hf c4
        clear ht hf
        refine ex_bipush 29 dX9_letter_27 rfl ⟨by decide, by decide⟩ ?_
        exact ex_iret dX9_letter_29 (Or.inl rfl) ⟨_, rfl, _, rfl, hyp⟩
    · have hyp := hf c5
      clear ht hf
      refine ex_bipush 14 dX9_letter_12 rfl ⟨by decide, by decide⟩ ?_
      exact ex_iret dX9_letter_14 (Or.inl rfl) ⟨_, rfl, _, rfl, hyp⟩
set_option maxRecDepth 4000 in
theorem uX9_blank {P : Int → GS → Prop} (g0 : GS)  (hyp : ∀ g2 : GS, g2 = gI g0 1 1 0 → (P (g0.1 1 1) g2)) : MXi mX9_blank [vr 0] g0 P := by
  refine met_of_ex (by decide +kernel) (Nat.le_of_ble_eq_true rfl) ?_
  show EX mX9_blank 0 [some (vr 0), none] [] (hX g0) (0, 0) _
  refine ex_aload_n 1 dX9_blank_0 rfl rfl ?_
  refine q_getR (a := 1) 9 0 4 dX9_blank_1 rfl fiX9_10 rfl ⟨_, rfl⟩ rfl ?_
  refine q_getI 5 1 7 dX9_blank_4 rfl fiX9_72 (Or.inl rfl) ⟨_, rfl⟩ ?_
  refine q_istore_n [some (vr 0), some (vi (g0.1 1 1))] 8 dX9_blank_7 rfl (Nat.le_of_ble_eq_true rfl) rfl rfl ?_
  refine ex_aload_n 9 dX9_blank_8 rfl rfl ?_
  refine q_getR (a := 1) 9 0 12 dX9_blank_9 rfl fiX9_10 rfl ⟨_, rfl⟩ rfl ?_
  refine ex_iconst 13 dX9_blank_12 rfl ?_
  refine q_putI 5 1 16 dX9_blank_13 rfl fiX9_72 ff5_1 rfl ⟨_, rfl⟩ (fun h1 e1 => ?_)
  obtain ⟨g2, eg3⟩ : ∃ z : GS, z = gI g0 1 1 0 := ⟨_, rfl⟩
  have hyp := hyp g2 eg3
  obtain rfl : h1 = hX g2 := by rw [e1, eg3]; exact rfl
  clear e1
  refine ex_iload_n 17 dX9_blank_16 rfl rfl ?_
  exact ex_iret dX9_blank_17 (Or.inl rfl) ⟨_, rfl, _, rfl, hyp⟩
set_option maxRecDepth 4000 in
theorem uX9_fault {P : Int → GS → Prop} (g0 : GS)  (hyp : MXv mX7_start [vr 3] g0 (fun g1 => XXi mX9_fault 9 [some (vr 0), some (vi 0)] [] g1 P)) : MXi mX9_fault [vr 0] g0 P := by
  refine met_of_ex (by decide +kernel) (Nat.le_of_ble_eq_true rfl) ?_
  show EX mX9_fault 0 [some (vr 0), none] [] (hX g0) (0, 0) _
  refine ex_aload_n 1 dX9_fault_0 rfl rfl ?_
  refine q_getR (a := 3) 9 1 4 dX9_fault_1 rfl fiX9_19 rfl ⟨_, rfl⟩ rfl ?_
  refine s_callVv [] 7 dX9_fault_4 rfl cvX9_79 rfl rfl ⟨Nat.le_of_ble_eq_true rfl, Nat.le_of_ble_eq_true rfl⟩ (Nat.le_of_ble_eq_true rfl) ⟨_, rfl⟩ hyp (fun h1 hq => ?_)
  obtain ⟨g1, rfl, hyp⟩ := hq
  refine ex_iconst 8 dX9_fault_7 rfl ?_
  refine q_istore_n [some (vr 0), some (vi 0)] 9 dX9_fault_8 rfl (Nat.le_of_ble_eq_true rfl) rfl rfl ?_
  exact hyp
set_option maxRecDepth 4000 in
theorem uX9_fault_9 {P : Int → GS → Prop} (g0 : GS) (x1 : Int) (hyp : rng x1 ∧ rng (g0.1 1 1) ∧ (g0.1 1 1 ≤ x1 → (P (g0.1 1 1) g0)) ∧ (x1 < g0.1 1 1 → (0 ≤ x1 ∧ x1 < 60 ∧ MXi mX7_takes [vr 3, vi (g0.1 2 (x1).toNat)] g0 (fun y6 g5 => rng y6 ∧ (¬ y6 = 0 → (XXi mX9_fault 9 [some (vr 0), some (vi (x1 + 1))] [] g5 P)) ∧ (y6 = 0 → (P x1 g5)))))) : XXi mX9_fault 9 [some (vr 0), some (vi x1)] [] g0 P := by
  refine ex_iload_n 10 dX9_fault_9 rfl rfl ?_
  refine ex_aload_n 11 dX9_fault_10 rfl rfl ?_
  refine q_getR (a := 1) 9 0 14 dX9_fault_11 rfl fiX9_10 rfl ⟨_, rfl⟩ rfl ?_
  refine q_getI 5 1 17 dX9_fault_14 rfl fiX9_72 (Or.inl rfl) ⟨_, rfl⟩ ?_
  obtain ⟨o1, hyp⟩ := hyp
  obtain ⟨o2, hyp⟩ := hyp
  obtain ⟨ht, hf⟩ := hyp
  refine ex_icmp_ge 47 20 dX9_fault_17 (by decide) rfl o1 o2 (fun c9 => ?_) (fun c9 => ?_)
  · have hyp := ht c9
    clear ht hf
    refine ex_aload_n 48 dX9_fault_47 rfl rfl ?_
    refine q_getR (a := 1) 9 0 51 dX9_fault_48 rfl fiX9_10 rfl ⟨_, rfl⟩ rfl ?_
    refine q_getI 5 1 54 dX9_fault_51 rfl fiX9_72 (Or.inl rfl) ⟨_, rfl⟩ ?_
    exact ex_iret dX9_fault_54 (Or.inl rfl) ⟨_, rfl, _, rfl, hyp⟩
  · have hyp := hf c9
    clear ht hf
    refine ex_aload_n 21 dX9_fault_20 rfl rfl ?_
    refine q_getR (a := 3) 9 1 24 dX9_fault_21 rfl fiX9_19 rfl ⟨_, rfl⟩ rfl ?_
    refine ex_aload_n 25 dX9_fault_24 rfl rfl ?_
    refine q_getR (a := 1) 9 0 28 dX9_fault_25 rfl fiX9_10 rfl ⟨_, rfl⟩ rfl ?_
    refine q_getR (a := 2) 5 0 31 dX9_fault_28 rfl fiX9_82 rfl ⟨_, rfl⟩ rfl ?_
    refine ex_iload_n 32 dX9_fault_31 rfl rfl ?_
    obtain ⟨o3, hyp⟩ := hyp
    obtain ⟨o4, hyp⟩ := hyp
    refine ex_iald 33 dX9_fault_32 rfl (ai_of (n := 60) rfl o3 o4 (by decide)) ?_
    refine s_callVi [vi (g0.1 2 (x1).toNat)] 36 dX9_fault_33 rfl cvX9_86 rfl rfl ⟨Nat.le_of_ble_eq_true rfl, Nat.le_of_ble_eq_true rfl⟩ (Nat.le_of_ble_eq_true rfl) ⟨_, rfl⟩ hyp (fun y6 h1 hq => ?_)
    obtain ⟨g5, rfl, hyp⟩ := hq
    obtain ⟨o7, hyp⟩ := hyp
    obtain ⟨ht, hf⟩ := hyp
    refine ex_if_ne 41 39 dX9_fault_36 (by decide) rfl o7 (fun c8 => ?_) (fun c8 => ?_)
    · have hyp := ht c8
      clear ht hf
      refine q_iinc [some (vr 0), some (vi (x1 + 1))] 44 dX9_fault_41 rfl rfl (Nat.le_of_ble_eq_true rfl) rfl rfl ?_
      refine ex_goto 9 dX9_fault_44 (by decide) ?_
      exact hyp
    · have hyp := hf c8
      clear ht hf
      refine ex_iload_n 40 dX9_fault_39 rfl rfl ?_
      exact ex_iret dX9_fault_40 (Or.inl rfl) ⟨_, rfl, _, rfl, hyp⟩
set_option maxRecDepth 4000 in
theorem uX9_enter {P : Int → GS → Prop} (g0 : GS)  (hyp : MXi mX9_fault [vr 0] g0 (fun y2 g1 => rng y2 ∧ rng (g1.1 1 1) ∧ (y2 < g1.1 1 1 → (P (-103) g1)) ∧ (g1.1 1 1 ≤ y2 → (MXi mX7_isWhole [vr 3] g1 (fun y6 g5 => rng y6 ∧ (¬ y6 = 0 → (MXi mX8_hasRoomFor [vr 8, vr 3] g5 (fun y9 g8 => rng y9 ∧ (¬ y9 = 0 → (MXv mX9_addEntriesOfPage [vr 0] g8 (fun g11 => ∀ g13 : GS, g13 = gI g11 1 1 0 → (∀ g16 : GS, g16 = gI g13 0 10 ((g13.1 0 10) + 1) → (∀ g19 : GS, g19 = gI g16 0 11 1 → (P (g8.1 3 1) g19)))))) ∧ (y9 = 0 → (P (-104) g8))))) ∧ (y6 = 0 → (P (-103) g5))))))) : MXi mX9_enter [vr 0] g0 P := by
  refine met_of_ex (by decide +kernel) (Nat.le_of_ble_eq_true rfl) ?_
  show EX mX9_enter 0 [some (vr 0), none] [] (hX g0) (0, 0) _
  refine ex_aload_n 1 dX9_enter_0 rfl rfl ?_
  refine s_callVi [] 4 dX9_enter_1 rfl cvX9_90 rfl rfl ⟨Nat.le_of_ble_eq_true rfl, Nat.le_of_ble_eq_true rfl⟩ (Nat.le_of_ble_eq_true rfl) ⟨_, rfl⟩ hyp (fun y2 h1 hq => ?_)
  obtain ⟨g1, rfl, hyp⟩ := hq
  refine ex_aload_n 5 dX9_enter_4 rfl rfl ?_
  refine q_getR (a := 1) 9 0 8 dX9_enter_5 rfl fiX9_10 rfl ⟨_, rfl⟩ rfl ?_
  refine q_getI 5 1 11 dX9_enter_8 rfl fiX9_72 (Or.inl rfl) ⟨_, rfl⟩ ?_
  obtain ⟨o3, hyp⟩ := hyp
  obtain ⟨o4, hyp⟩ := hyp
  obtain ⟨ht, hf⟩ := hyp
  refine ex_icmp_lt 24 14 dX9_enter_11 (by decide) rfl o3 o4 (fun c23 => ?_) (fun c23 => ?_)
  · have hyp := ht c23
    clear ht hf
    refine ex_bipush 26 dX9_enter_24 rfl ⟨by decide, by decide⟩ ?_
    exact ex_iret dX9_enter_26 (Or.inl rfl) ⟨_, rfl, _, rfl, hyp⟩
  · have hyp := hf c23
    clear ht hf
    refine ex_aload_n 15 dX9_enter_14 rfl rfl ?_
    refine q_getR (a := 3) 9 1 18 dX9_enter_15 rfl fiX9_19 rfl ⟨_, rfl⟩ rfl ?_
    refine s_callVi [] 21 dX9_enter_18 rfl cvX9_94 rfl rfl ⟨Nat.le_of_ble_eq_true rfl, Nat.le_of_ble_eq_true rfl⟩ (Nat.le_of_ble_eq_true rfl) ⟨_, rfl⟩ hyp (fun y6 h1 hq => ?_)
    obtain ⟨g5, rfl, hyp⟩ := hq
    obtain ⟨o7, hyp⟩ := hyp
    obtain ⟨ht, hf⟩ := hyp
    refine ex_if_ne 27 24 dX9_enter_21 (by decide) rfl o7 (fun c22 => ?_) (fun c22 => ?_)
    · have hyp := ht c22
      clear ht hf
      refine ex_aload_n 28 dX9_enter_27 rfl rfl ?_
      refine q_getR (a := 8) 9 3 31 dX9_enter_28 rfl fiX9_33 rfl ⟨_, rfl⟩ rfl ?_
      refine ex_aload_n 32 dX9_enter_31 rfl rfl ?_
      refine q_getR (a := 3) 9 1 35 dX9_enter_32 rfl fiX9_19 rfl ⟨_, rfl⟩ rfl ?_
      refine s_callVi [vr 3] 38 dX9_enter_35 rfl cvX9_98 rfl rfl ⟨Nat.le_of_ble_eq_true rfl, Nat.le_of_ble_eq_true rfl⟩ (Nat.le_of_ble_eq_true rfl) ⟨_, rfl⟩ hyp (fun y9 h1 hq => ?_)
      obtain ⟨g8, rfl, hyp⟩ := hq
      obtain ⟨o10, hyp⟩ := hyp
      obtain ⟨ht, hf⟩ := hyp
      refine ex_if_ne 44 41 dX9_enter_38 (by decide) rfl o10 (fun c21 => ?_) (fun c21 => ?_)
      · have hyp := ht c21
        clear ht hf
        refine ex_aload_n 45 dX9_enter_44 rfl rfl ?_
        refine q_getR (a := 3) 9 1 48 dX9_enter_45 rfl fiX9_19 rfl ⟨_, rfl⟩ rfl ?_
        refine q_getI 7 1 51 dX9_enter_48 rfl fiX9_102 (Or.inl rfl) ⟨_, rfl⟩ ?_
        refine q_istore_n [some (vr 0), some (vi (g8.1 3 1))] 52 dX9_enter_51 rfl (Nat.le_of_ble_eq_true rfl) rfl rfl ?_
        refine ex_aload_n 53 dX9_enter_52 rfl rfl ?_
        refine s_callVv [] 56 dX9_enter_53 rfl cvX9_105 rfl rfl ⟨Nat.le_of_ble_eq_true rfl, Nat.le_of_ble_eq_true rfl⟩ (Nat.le_of_ble_eq_true rfl) ⟨_, rfl⟩ hyp (fun h1 hq => ?_)
        obtain ⟨g11, rfl, hyp⟩ := hq
        refine ex_aload_n 57 dX9_enter_56 rfl rfl ?_
        refine q_getR (a := 1) 9 0 60 dX9_enter_57 rfl fiX9_10 rfl ⟨_, rfl⟩ rfl ?_
        refine ex_iconst 61 dX9_enter_60 rfl ?_
        refine q_putI 5 1 64 dX9_enter_61 rfl fiX9_72 ff5_1 rfl ⟨_, rfl⟩ (fun h1 e12 => ?_)
        obtain ⟨g13, eg14⟩ : ∃ z : GS, z = gI g11 1 1 0 := ⟨_, rfl⟩
        have hyp := hyp g13 eg14
        obtain rfl : h1 = hX g13 := by rw [e12, eg14]; exact rfl
        clear e12
        refine ex_aload_n 65 dX9_enter_64 rfl rfl ?_
        refine ex_dup 66 dX9_enter_65 rfl rfl ?_
        refine q_getI 9 10 69 dX9_enter_66 rfl fiX9_108 (Or.inl rfl) ⟨_, rfl⟩ ?_
        refine ex_iconst 70 dX9_enter_69 rfl ?_
        refine ex_iadd 71 dX9_enter_70 rfl ?_
        refine q_putI 9 10 74 dX9_enter_71 rfl fiX9_108 ff9_10 rfl ⟨_, rfl⟩ (fun h1 e15 => ?_)
        obtain ⟨g16, eg17⟩ : ∃ z : GS, z = gI g13 0 10 ((g13.1 0 10) + 1) := ⟨_, rfl⟩
        have hyp := hyp g16 eg17
        obtain rfl : h1 = hX g16 := by rw [e15, eg17]; exact rfl
        clear e15
        refine ex_aload_n 75 dX9_enter_74 rfl rfl ?_
        refine ex_iconst 76 dX9_enter_75 rfl ?_
        refine q_putZ 9 11 79 dX9_enter_76 rfl fiX9_68 ff9_11 rfl ⟨_, rfl⟩ (Or.inr rfl) (fun h1 e18 => ?_)
        obtain ⟨g19, eg20⟩ : ∃ z : GS, z = gI g16 0 11 1 := ⟨_, rfl⟩
        have hyp := hyp g19 eg20
        obtain rfl : h1 = hX g19 := by rw [e18, eg20]; exact rfl
        clear e18
        refine ex_iload_n 80 dX9_enter_79 rfl rfl ?_
        exact ex_iret dX9_enter_80 (Or.inl rfl) ⟨_, rfl, _, rfl, hyp⟩
      · have hyp := hf c21
        clear ht hf
        refine ex_bipush 43 dX9_enter_41 rfl ⟨by decide, by decide⟩ ?_
        exact ex_iret dX9_enter_43 (Or.inl rfl) ⟨_, rfl, _, rfl, hyp⟩
    · have hyp := hf c22
      clear ht hf
      refine ex_bipush 26 dX9_enter_24 rfl ⟨by decide, by decide⟩ ?_
      exact ex_iret dX9_enter_26 (Or.inl rfl) ⟨_, rfl, _, rfl, hyp⟩
set_option maxRecDepth 4000 in
theorem uX9_entry {P : Int → GS → Prop} (g0 : GS) (x1 : Int) (x2 : Int) (hyp : MXi mX8_has [vr 8, vi x1] g0 (fun y2 g1 => rng y2 ∧ (¬ y2 = 0 → (MXv mX9_settle [vr 0] g1 (fun g4 => MXi mX9_tellEntry [vr 0, vi x1, vi x2] g4 (fun y6 g5 => P y6 g5)))) ∧ (y2 = 0 → (P (-101) g1)))) : MXi mX9_entry [vr 0, vi x1, vi x2] g0 P := by
  refine met_of_ex (by decide +kernel) (Nat.le_of_ble_eq_true rfl) ?_
  show EX mX9_entry 0 [some (vr 0), some (vi x1), some (vi x2)] [] (hX g0) (0, 0) _
  refine ex_aload_n 1 dX9_entry_0 rfl rfl ?_
  refine q_getR (a := 8) 9 3 4 dX9_entry_1 rfl fiX9_33 rfl ⟨_, rfl⟩ rfl ?_
  refine ex_iload_n 5 dX9_entry_4 rfl rfl ?_
  refine s_callVi [vi x1] 8 dX9_entry_5 rfl cvX9_111 rfl rfl ⟨Nat.le_of_ble_eq_true rfl, Nat.le_of_ble_eq_true rfl⟩ (Nat.le_of_ble_eq_true rfl) ⟨_, rfl⟩ hyp (fun y2 h1 hq => ?_)
  obtain ⟨g1, rfl, hyp⟩ := hq
  obtain ⟨o3, hyp⟩ := hyp
  obtain ⟨ht, hf⟩ := hyp
  refine ex_if_ne 14 11 dX9_entry_8 (by decide) rfl o3 (fun c7 => ?_) (fun c7 => ?_)
  · have hyp := ht c7
    clear ht hf
    refine ex_aload_n 15 dX9_entry_14 rfl rfl ?_
    refine s_callVv [] 18 dX9_entry_15 rfl cvX9_114 rfl rfl ⟨Nat.le_of_ble_eq_true rfl, Nat.le_of_ble_eq_true rfl⟩ (Nat.le_of_ble_eq_true rfl) ⟨_, rfl⟩ hyp (fun h1 hq => ?_)
    obtain ⟨g4, rfl, hyp⟩ := hq
    refine ex_aload_n 19 dX9_entry_18 rfl rfl ?_
    refine ex_iload_n 20 dX9_entry_19 rfl rfl ?_
    refine ex_iload_n 21 dX9_entry_20 rfl rfl ?_
    refine s_callVi [vi x1, vi x2] 24 dX9_entry_21 rfl cvX9_117 rfl rfl ⟨Nat.le_of_ble_eq_true rfl, Nat.le_of_ble_eq_true rfl⟩ (Nat.le_of_ble_eq_true rfl) ⟨_, rfl⟩ hyp (fun y6 h1 hq => ?_)
    obtain ⟨g5, rfl, hyp⟩ := hq
    exact ex_iret dX9_entry_24 (Or.inl rfl) ⟨_, rfl, _, rfl, hyp⟩
  · have hyp := hf c7
    clear ht hf
    refine ex_bipush 13 dX9_entry_11 rfl ⟨by decide, by decide⟩ ?_
    exact ex_iret dX9_entry_13 (Or.inl rfl) ⟨_, rfl, _, rfl, hyp⟩
set_option maxRecDepth 4000 in
theorem uX9_sign {P : Int → GS → Prop} (g0 : GS) (x1 : Int) (x2 : Int) (hyp : MXi mX8_has [vr 8, vi x1] g0 (fun y2 g1 => rng y2 ∧ (¬ y2 = 0 → (0 ≤ x1 ∧ x1 < 18 ∧ g1.2.1 (x1).toNat < 18 ∧ rng x2 ∧ (x2 < 0 → (P (-101) g1)) ∧ (0 ≤ x2 → (rng (g1.1 (11 + 3 * (g1.2.1 (x1).toNat)) 3) ∧ (x2 < g1.1 (11 + 3 * (g1.2.1 (x1).toNat)) 3 → (0 ≤ x2 ∧ x2 < 8 ∧ P (g1.1 (12 + 3 * (g1.2.1 (x1).toNat)) (x2).toNat) g1)) ∧ (g1.1 (11 + 3 * (g1.2.1 (x1).toNat)) 3 ≤ x2 → (P (-101) g1)))))) ∧ (y2 = 0 → (P (-101) g1)))) : MXi mX9_sign [vr 0, vi x1, vi x2] g0 P := by
  refine met_of_ex (by decide +kernel) (Nat.le_of_ble_eq_true rfl) ?_
  show EX mX9_sign 0 [some (vr 0), some (vi x1), some (vi x2), none] [] (hX g0) (0, 0) _
  refine ex_aload_n 1 dX9_sign_0 rfl rfl ?_
  refine q_getR (a := 8) 9 3 4 dX9_sign_1 rfl fiX9_33 rfl ⟨_, rfl⟩ rfl ?_
  refine ex_iload_n 5 dX9_sign_4 rfl rfl ?_
  refine s_callVi [vi x1] 8 dX9_sign_5 rfl cvX9_111 rfl rfl ⟨Nat.le_of_ble_eq_true rfl, Nat.le_of_ble_eq_true rfl⟩ (Nat.le_of_ble_eq_true rfl) ⟨_, rfl⟩ hyp (fun y2 h1 hq => ?_)
  obtain ⟨g1, rfl, hyp⟩ := hq
  obtain ⟨o3, hyp⟩ := hyp
  obtain ⟨ht, hf⟩ := hyp
  refine ex_if_ne 14 11 dX9_sign_8 (by decide) rfl o3 (fun c13 => ?_) (fun c13 => ?_)
  · have hyp := ht c13
    clear ht hf
    refine ex_aload_n 15 dX9_sign_14 rfl rfl ?_
    refine q_getR (a := 8) 9 3 18 dX9_sign_15 rfl fiX9_33 rfl ⟨_, rfl⟩ rfl ?_
    refine q_getR (a := 9) 8 0 21 dX9_sign_18 rfl fiX9_121 rfl ⟨_, rfl⟩ rfl ?_
    refine ex_iload_n 22 dX9_sign_21 rfl rfl ?_
    obtain ⟨o4, hyp⟩ := hyp
    obtain ⟨o5, hyp⟩ := hyp
    obtain ⟨o6, hyp⟩ := hyp
    refine ex_aald (a := (11 + 3 * (g1.2.1 (x1).toNat))) 21 23 dX9_sign_22 rfl (by decide) (ai_of (n := 18) rfl o4 o5 (by decide)) (rxR g1 (ltN (n := 18) o4 o5)) ?_
    refine q_astore_n [some (vr 0), some (vi x1), some (vi x2), some (vr (11 + 3 * (g1.2.1 (x1).toNat)))] 24 dX9_sign_23 rfl (Nat.le_of_ble_eq_true rfl) rfl rfl ?_
    refine ex_iload_n 25 dX9_sign_24 rfl rfl ?_
    obtain ⟨o7, hyp⟩ := hyp
    obtain ⟨ht, hf⟩ := hyp
    refine ex_if_lt 36 28 dX9_sign_25 (by decide) rfl o7 (fun c12 => ?_) (fun c12 => ?_)
    · have hyp := ht c12
      clear ht hf
      refine ex_bipush 38 dX9_sign_36 rfl ⟨by decide, by decide⟩ ?_
      refine ex_goto 47 dX9_sign_38 (by decide) ?_
      exact ex_iret dX9_sign_47 (Or.inl rfl) ⟨_, rfl, _, rfl, hyp⟩
    · have hyp := hf c12
      clear ht hf
      refine ex_iload_n 29 dX9_sign_28 rfl rfl ?_
      refine ex_aload_n 30 dX9_sign_29 rfl rfl ?_
      refine q_getI 0 3 33 dX9_sign_30 rfl fiX9_125 (Or.inl rfl) (obE o6) ?_
      obtain ⟨o8, hyp⟩ := hyp
      obtain ⟨ht, hf⟩ := hyp
      refine ex_icmp_lt 41 36 dX9_sign_33 (by decide) rfl o7 o8 (fun c11 => ?_) (fun c11 => ?_)
      · have hyp := ht c11
        clear ht hf
        refine ex_aload_n 42 dX9_sign_41 rfl rfl ?_
        refine q_getR (a := (12 + 3 * (g1.2.1 (x1).toNat))) 0 1 45 dX9_sign_42 rfl fiX9_130 rfl (obE o6) (rxN g1 o6) ?_
        refine ex_iload_n 46 dX9_sign_45 rfl rfl ?_
        obtain ⟨o9, hyp⟩ := hyp
        obtain ⟨o10, hyp⟩ := hyp
        refine ex_iald 47 dX9_sign_46 rfl (ai_of (n := 8) (txN _ o6) o9 o10 (by decide)) ?_
        exact ex_iret dX9_sign_47 (Or.inl rfl) ⟨_, rfl, _, rfl, hyp⟩
      · have hyp := hf c11
        clear ht hf
        refine ex_bipush 38 dX9_sign_36 rfl ⟨by decide, by decide⟩ ?_
        refine ex_goto 47 dX9_sign_38 (by decide) ?_
        exact ex_iret dX9_sign_47 (Or.inl rfl) ⟨_, rfl, _, rfl, hyp⟩
  · have hyp := hf c13
    clear ht hf
    refine ex_bipush 13 dX9_sign_11 rfl ⟨by decide, by decide⟩ ?_
    exact ex_iret dX9_sign_13 (Or.inl rfl) ⟨_, rfl, _, rfl, hyp⟩
set_option maxRecDepth 4000 in
theorem uX9_as {P : Int → GS → Prop} (g0 : GS) (x1 : Int) (x2 : Int) (hyp : MXi mX8_has [vr 8, vi x1] g0 (fun y2 g1 => rng y2 ∧ (¬ y2 = 0 → (rng x2 ∧ (x2 < 0 → (P (-102) g1)) ∧ (0 ≤ x2 → ((x2 < 3 → (0 ≤ x1 ∧ x1 < 18 ∧ g1.2.1 (x1).toNat < 18 ∧ rng (g1.1 (11 + 3 * (g1.2.1 (x1).toNat)) 4) ∧ (¬ g1.1 (11 + 3 * (g1.2.1 (x1).toNat)) 4 = x2 → (P (-1) g1)) ∧ (g1.1 (11 + 3 * (g1.2.1 (x1).toNat)) 4 = x2 → (P (g1.1 (11 + 3 * (g1.2.1 (x1).toNat)) 5) g1)))) ∧ (3 ≤ x2 → (P (-102) g1)))))) ∧ (y2 = 0 → (P (-101) g1)))) : MXi mX9_as [vr 0, vi x1, vi x2] g0 P := by
  refine met_of_ex (by decide +kernel) (Nat.le_of_ble_eq_true rfl) ?_
  show EX mX9_as 0 [some (vr 0), some (vi x1), some (vi x2), none] [] (hX g0) (0, 0) _
  refine ex_aload_n 1 dX9_as_0 rfl rfl ?_
  refine q_getR (a := 8) 9 3 4 dX9_as_1 rfl fiX9_33 rfl ⟨_, rfl⟩ rfl ?_
  refine ex_iload_n 5 dX9_as_4 rfl rfl ?_
  refine s_callVi [vi x1] 8 dX9_as_5 rfl cvX9_111 rfl rfl ⟨Nat.le_of_ble_eq_true rfl, Nat.le_of_ble_eq_true rfl⟩ (Nat.le_of_ble_eq_true rfl) ⟨_, rfl⟩ hyp (fun y2 h1 hq => ?_)
  obtain ⟨g1, rfl, hyp⟩ := hq
  obtain ⟨o3, hyp⟩ := hyp
  obtain ⟨ht, hf⟩ := hyp
  refine ex_if_ne 14 11 dX9_as_8 (by decide) rfl o3 (fun c12 => ?_) (fun c12 => ?_)
  · have hyp := ht c12
    clear ht hf
    refine ex_iload_n 15 dX9_as_14 rfl rfl ?_
    obtain ⟨o4, hyp⟩ := hyp
    obtain ⟨ht, hf⟩ := hyp
    refine ex_if_lt 23 18 dX9_as_15 (by decide) rfl o4 (fun c11 => ?_) (fun c11 => ?_)
    · have hyp := ht c11
      clear ht hf
      refine ex_bipush 25 dX9_as_23 rfl ⟨by decide, by decide⟩ ?_
      exact ex_iret dX9_as_25 (Or.inl rfl) ⟨_, rfl, _, rfl, hyp⟩
    · have hyp := hf c11
      clear ht hf
      refine ex_iload_n 19 dX9_as_18 rfl rfl ?_
      refine ex_iconst 20 dX9_as_19 rfl ?_
      obtain ⟨ht, hf⟩ := hyp
      refine ex_icmp_lt 26 23 dX9_as_20 (by decide) rfl o4 ⟨by decide, by decide⟩ (fun c10 => ?_) (fun c10 => ?_)
      · have hyp := ht c10
        clear ht hf
        refine ex_aload_n 27 dX9_as_26 rfl rfl ?_
        refine q_getR (a := 8) 9 3 30 dX9_as_27 rfl fiX9_33 rfl ⟨_, rfl⟩ rfl ?_
        refine q_getR (a := 9) 8 0 33 dX9_as_30 rfl fiX9_121 rfl ⟨_, rfl⟩ rfl ?_
        refine ex_iload_n 34 dX9_as_33 rfl rfl ?_
        obtain ⟨o5, hyp⟩ := hyp
        obtain ⟨o6, hyp⟩ := hyp
        obtain ⟨o7, hyp⟩ := hyp
        refine ex_aald (a := (11 + 3 * (g1.2.1 (x1).toNat))) 21 35 dX9_as_34 rfl (by decide) (ai_of (n := 18) rfl o5 o6 (by decide)) (rxR g1 (ltN (n := 18) o5 o6)) ?_
        refine q_astore_n [some (vr 0), some (vi x1), some (vi x2), some (vr (11 + 3 * (g1.2.1 (x1).toNat)))] 36 dX9_as_35 rfl (Nat.le_of_ble_eq_true rfl) rfl rfl ?_
        refine ex_aload_n 37 dX9_as_36 rfl rfl ?_
        refine q_getI 0 4 40 dX9_as_37 rfl fiX9_133 (Or.inl rfl) (obE o7) ?_
        refine ex_iload_n 41 dX9_as_40 rfl rfl ?_
        obtain ⟨o8, hyp⟩ := hyp
        obtain ⟨ht, hf⟩ := hyp
        refine ex_icmp_ne 51 44 dX9_as_41 (by decide) rfl o8 o4 (fun c9 => ?_) (fun c9 => ?_)
        · have hyp := ht c9
          clear ht hf
          refine ex_iconst 52 dX9_as_51 rfl ?_
          exact ex_iret dX9_as_52 (Or.inl rfl) ⟨_, rfl, _, rfl, hyp⟩
        · have hyp := hf c9
          clear ht hf
          refine ex_aload_n 45 dX9_as_44 rfl rfl ?_
          refine q_getI 0 5 48 dX9_as_45 rfl fiX9_136 (Or.inl rfl) (obE o7) ?_
          refine ex_goto 52 dX9_as_48 (by decide) ?_
          exact ex_iret dX9_as_52 (Or.inl rfl) ⟨_, rfl, _, rfl, hyp⟩
      · have hyp := hf c10
        clear ht hf
        refine ex_bipush 25 dX9_as_23 rfl ⟨by decide, by decide⟩ ?_
        exact ex_iret dX9_as_25 (Or.inl rfl) ⟨_, rfl, _, rfl, hyp⟩
  · have hyp := hf c12
    clear ht hf
    refine ex_bipush 13 dX9_as_11 rfl ⟨by decide, by decide⟩ ?_
    exact ex_iret dX9_as_13 (Or.inl rfl) ⟨_, rfl, _, rfl, hyp⟩
set_option maxRecDepth 4000 in
theorem uX9_strike {P : Int → GS → Prop} (g0 : GS) (x1 : Int) (hyp : MXi mX8_has [vr 8, vi x1] g0 (fun y2 g1 => rng y2 ∧ (¬ y2 = 0 → (MXv mX8_remove [vr 8, vi x1] g1 (fun g4 => ∀ g6 : GS, g6 = gI g4 0 11 1 → (P (g6.1 8 2) g6)))) ∧ (y2 = 0 → (P (-101) g1)))) : MXi mX9_strike [vr 0, vi x1] g0 P := by
  refine met_of_ex (by decide +kernel) (Nat.le_of_ble_eq_true rfl) ?_
  show EX mX9_strike 0 [some (vr 0), some (vi x1)] [] (hX g0) (0, 0) _
  refine ex_aload_n 1 dX9_strike_0 rfl rfl ?_
  refine q_getR (a := 8) 9 3 4 dX9_strike_1 rfl fiX9_33 rfl ⟨_, rfl⟩ rfl ?_
  refine ex_iload_n 5 dX9_strike_4 rfl rfl ?_
  refine s_callVi [vi x1] 8 dX9_strike_5 rfl cvX9_111 rfl rfl ⟨Nat.le_of_ble_eq_true rfl, Nat.le_of_ble_eq_true rfl⟩ (Nat.le_of_ble_eq_true rfl) ⟨_, rfl⟩ hyp (fun y2 h1 hq => ?_)
  obtain ⟨g1, rfl, hyp⟩ := hq
  obtain ⟨o3, hyp⟩ := hyp
  obtain ⟨ht, hf⟩ := hyp
  refine ex_if_ne 14 11 dX9_strike_8 (by decide) rfl o3 (fun c8 => ?_) (fun c8 => ?_)
  · have hyp := ht c8
    clear ht hf
    refine ex_aload_n 15 dX9_strike_14 rfl rfl ?_
    refine q_getR (a := 8) 9 3 18 dX9_strike_15 rfl fiX9_33 rfl ⟨_, rfl⟩ rfl ?_
    refine ex_iload_n 19 dX9_strike_18 rfl rfl ?_
    refine s_callVv [vi x1] 22 dX9_strike_19 rfl cvX9_139 rfl rfl ⟨Nat.le_of_ble_eq_true rfl, Nat.le_of_ble_eq_true rfl⟩ (Nat.le_of_ble_eq_true rfl) ⟨_, rfl⟩ hyp (fun h1 hq => ?_)
    obtain ⟨g4, rfl, hyp⟩ := hq
    refine ex_aload_n 23 dX9_strike_22 rfl rfl ?_
    refine ex_iconst 24 dX9_strike_23 rfl ?_
    refine q_putZ 9 11 27 dX9_strike_24 rfl fiX9_68 ff9_11 rfl ⟨_, rfl⟩ (Or.inr rfl) (fun h1 e5 => ?_)
    obtain ⟨g6, eg7⟩ : ∃ z : GS, z = gI g4 0 11 1 := ⟨_, rfl⟩
    have hyp := hyp g6 eg7
    obtain rfl : h1 = hX g6 := by rw [e5, eg7]; exact rfl
    clear e5
    refine ex_aload_n 28 dX9_strike_27 rfl rfl ?_
    refine q_getR (a := 8) 9 3 31 dX9_strike_28 rfl fiX9_33 rfl ⟨_, rfl⟩ rfl ?_
    refine q_getI 8 2 34 dX9_strike_31 rfl fiX9_142 (Or.inl rfl) ⟨_, rfl⟩ ?_
    exact ex_iret dX9_strike_34 (Or.inl rfl) ⟨_, rfl, _, rfl, hyp⟩
  · have hyp := hf c8
    clear ht hf
    refine ex_bipush 13 dX9_strike_11 rfl ⟨by decide, by decide⟩ ?_
    exact ex_iret dX9_strike_13 (Or.inl rfl) ⟨_, rfl, _, rfl, hyp⟩
set_option maxRecDepth 4000 in
theorem uX9_age {P : Int → GS → Prop} (g0 : GS) (x1 : Int) (x2 : Int) (hyp : MXi mX8_has [vr 8, vi x1] g0 (fun y2 g1 => rng y2 ∧ (¬ y2 = 0 → (0 ≤ x1 ∧ x1 < 18 ∧ g1.2.1 (x1).toNat < 18 ∧ rng x2 ∧ (x2 = (-1) → (∀ g9 : GS, g9 = gI g1 (11 + 3 * (g1.2.1 (x1).toNat)) 6 x2 → (∀ g12 : GS, g12 = gI g9 0 11 1 → (P (g1.1 (11 + 3 * (g1.2.1 (x1).toNat)) 6) g12)))) ∧ (¬ x2 = (-1) → (MXi mX9_mayHaveAge [vi (g1.1 (11 + 3 * (g1.2.1 (x1).toNat)) 4), vi x2] g1 (fun y15 g14 => rng y15 ∧ (¬ y15 = 0 → (∀ g18 : GS, g18 = gI g14 (11 + 3 * (g1.2.1 (x1).toNat)) 6 x2 → (∀ g21 : GS, g21 = gI g18 0 11 1 → (P (g14.1 (11 + 3 * (g1.2.1 (x1).toNat)) 6) g21)))) ∧ (y15 = 0 → (P (-102) g14))))))) ∧ (y2 = 0 → (P (-101) g1)))) : MXi mX9_age [vr 0, vi x1, vi x2] g0 P := by
  refine met_of_ex (by decide +kernel) (Nat.le_of_ble_eq_true rfl) ?_
  show EX mX9_age 0 [some (vr 0), some (vi x1), some (vi x2), none, none] [] (hX g0) (0, 0) _
  refine ex_aload_n 1 dX9_age_0 rfl rfl ?_
  refine q_getR (a := 8) 9 3 4 dX9_age_1 rfl fiX9_33 rfl ⟨_, rfl⟩ rfl ?_
  refine ex_iload_n 5 dX9_age_4 rfl rfl ?_
  refine s_callVi [vi x1] 8 dX9_age_5 rfl cvX9_111 rfl rfl ⟨Nat.le_of_ble_eq_true rfl, Nat.le_of_ble_eq_true rfl⟩ (Nat.le_of_ble_eq_true rfl) ⟨_, rfl⟩ hyp (fun y2 h1 hq => ?_)
  obtain ⟨g1, rfl, hyp⟩ := hq
  obtain ⟨o3, hyp⟩ := hyp
  obtain ⟨ht, hf⟩ := hyp
  refine ex_if_ne 14 11 dX9_age_8 (by decide) rfl o3 (fun c25 => ?_) (fun c25 => ?_)
  · have hyp := ht c25
    clear ht hf
    refine ex_aload_n 15 dX9_age_14 rfl rfl ?_
    refine q_getR (a := 8) 9 3 18 dX9_age_15 rfl fiX9_33 rfl ⟨_, rfl⟩ rfl ?_
    refine q_getR (a := 9) 8 0 21 dX9_age_18 rfl fiX9_121 rfl ⟨_, rfl⟩ rfl ?_
    refine ex_iload_n 22 dX9_age_21 rfl rfl ?_
    obtain ⟨o4, hyp⟩ := hyp
    obtain ⟨o5, hyp⟩ := hyp
    obtain ⟨o6, hyp⟩ := hyp
    refine ex_aald (a := (11 + 3 * (g1.2.1 (x1).toNat))) 21 23 dX9_age_22 rfl (by decide) (ai_of (n := 18) rfl o4 o5 (by decide)) (rxR g1 (ltN (n := 18) o4 o5)) ?_
    refine q_astore_n [some (vr 0), some (vi x1), some (vi x2), some (vr (11 + 3 * (g1.2.1 (x1).toNat))), none] 24 dX9_age_23 rfl (Nat.le_of_ble_eq_true rfl) rfl rfl ?_
    refine ex_iload_n 25 dX9_age_24 rfl rfl ?_
    refine ex_iconst 26 dX9_age_25 rfl ?_
    obtain ⟨o7, hyp⟩ := hyp
    obtain ⟨ht, hf⟩ := hyp
    refine ex_icmp_eq 43 29 dX9_age_26 (by decide) rfl o7 ⟨by decide, by decide⟩ (fun c24 => ?_) (fun c24 => ?_)
    · have hyp := ht c24
      clear ht hf
      refine ex_aload_n 44 dX9_age_43 rfl rfl ?_
      refine q_getI 0 6 47 dX9_age_44 rfl fiX9_147 (Or.inl rfl) (obE o6) ?_
      refine q_istore [some (vr 0), some (vi x1), some (vi x2), some (vr (11 + 3 * (g1.2.1 (x1).toNat))), some (vi (g1.1 (11 + 3 * (g1.2.1 (x1).toNat)) 6))] 49 dX9_age_47 rfl (Nat.le_of_ble_eq_true rfl) rfl rfl ?_
      refine ex_aload_n 50 dX9_age_49 rfl rfl ?_
      refine ex_iload_n 51 dX9_age_50 rfl rfl ?_
      refine q_putI 0 6 54 dX9_age_51 rfl fiX9_147 ff0_6 rfl (obE o6) (fun h1 e8 => ?_)
      obtain ⟨g9, eg10⟩ : ∃ z : GS, z = gI g1 (11 + 3 * (g1.2.1 (x1).toNat)) 6 x2 := ⟨_, rfl⟩
      have hyp := hyp g9 eg10
      obtain rfl : h1 = hX g9 := by rw [e8, eg10]; exact rfl
      clear e8
      refine ex_aload_n 55 dX9_age_54 rfl rfl ?_
      refine ex_iconst 56 dX9_age_55 rfl ?_
      refine q_putZ 9 11 59 dX9_age_56 rfl fiX9_68 ff9_11 rfl ⟨_, rfl⟩ (Or.inr rfl) (fun h1 e11 => ?_)
      obtain ⟨g12, eg13⟩ : ∃ z : GS, z = gI g9 0 11 1 := ⟨_, rfl⟩
      have hyp := hyp g12 eg13
      obtain rfl : h1 = hX g12 := by rw [e11, eg13]; exact rfl
      clear e11
      refine ex_iload 61 dX9_age_59 rfl rfl ?_
      exact ex_iret dX9_age_61 (Or.inl rfl) ⟨_, rfl, _, rfl, hyp⟩
    · have hyp := hf c24
      clear ht hf
      refine ex_aload_n 30 dX9_age_29 rfl rfl ?_
      refine q_getI 0 4 33 dX9_age_30 rfl fiX9_133 (Or.inl rfl) (obE o6) ?_
      refine ex_iload_n 34 dX9_age_33 rfl rfl ?_
      refine s_callSi [vi (g1.1 (11 + 3 * (g1.2.1 (x1).toNat)) 4), vi x2] 37 dX9_age_34 rfl cvX9_143 rfl rfl ⟨Nat.le_of_ble_eq_true rfl, Nat.le_of_ble_eq_true rfl⟩ (Nat.le_of_ble_eq_true rfl) hyp (fun y15 h1 hq => ?_)
      obtain ⟨g14, rfl, hyp⟩ := hq
      obtain ⟨o16, hyp⟩ := hyp
      obtain ⟨ht, hf⟩ := hyp
      refine ex_if_ne 43 40 dX9_age_37 (by decide) rfl o16 (fun c23 => ?_) (fun c23 => ?_)
      · have hyp := ht c23
        clear ht hf
        refine ex_aload_n 44 dX9_age_43 rfl rfl ?_
        refine q_getI 0 6 47 dX9_age_44 rfl fiX9_147 (Or.inl rfl) (obE o6) ?_
        refine q_istore [some (vr 0), some (vi x1), some (vi x2), some (vr (11 + 3 * (g1.2.1 (x1).toNat))), some (vi (g14.1 (11 + 3 * (g1.2.1 (x1).toNat)) 6))] 49 dX9_age_47 rfl (Nat.le_of_ble_eq_true rfl) rfl rfl ?_
        refine ex_aload_n 50 dX9_age_49 rfl rfl ?_
        refine ex_iload_n 51 dX9_age_50 rfl rfl ?_
        refine q_putI 0 6 54 dX9_age_51 rfl fiX9_147 ff0_6 rfl (obE o6) (fun h1 e17 => ?_)
        obtain ⟨g18, eg19⟩ : ∃ z : GS, z = gI g14 (11 + 3 * (g1.2.1 (x1).toNat)) 6 x2 := ⟨_, rfl⟩
        have hyp := hyp g18 eg19
        obtain rfl : h1 = hX g18 := by rw [e17, eg19]; exact rfl
        clear e17
        refine ex_aload_n 55 dX9_age_54 rfl rfl ?_
        refine ex_iconst 56 dX9_age_55 rfl ?_
        refine q_putZ 9 11 59 dX9_age_56 rfl fiX9_68 ff9_11 rfl ⟨_, rfl⟩ (Or.inr rfl) (fun h1 e20 => ?_)
        obtain ⟨g21, eg22⟩ : ∃ z : GS, z = gI g18 0 11 1 := ⟨_, rfl⟩
        have hyp := hyp g21 eg22
        obtain rfl : h1 = hX g21 := by rw [e20, eg22]; exact rfl
        clear e20
        refine ex_iload 61 dX9_age_59 rfl rfl ?_
        exact ex_iret dX9_age_61 (Or.inl rfl) ⟨_, rfl, _, rfl, hyp⟩
      · have hyp := hf c23
        clear ht hf
        refine ex_bipush 42 dX9_age_40 rfl ⟨by decide, by decide⟩ ?_
        exact ex_iret dX9_age_42 (Or.inl rfl) ⟨_, rfl, _, rfl, hyp⟩
  · have hyp := hf c25
    clear ht hf
    refine ex_bipush 13 dX9_age_11 rfl ⟨by decide, by decide⟩ ?_
    exact ex_iret dX9_age_13 (Or.inl rfl) ⟨_, rfl, _, rfl, hyp⟩
set_option maxRecDepth 4000 in
theorem uX9_part {P : Int → GS → Prop} (g0 : GS) (x1 : Int) (x2 : Int) (hyp : MXi mX9_areTwo [vr 0, vi x1, vi x2] g0 (fun y2 g1 => rng y2 ∧ (¬ y2 = 0 → (∀ g5 : GS, g5 = gI g1 0 11 1 → (0 ≤ x1 ∧ x1 < 18 ∧ g5.2.1 (x1).toNat < 18 ∧ 0 ≤ x2 ∧ x2 < 18 ∧ g5.2.1 (x2).toNat < 18 ∧ MXi mX8_turnParted [vr 8, vr (11 + 3 * (g5.2.1 (x1).toNat)), vr (11 + 3 * (g5.2.1 (x2).toNat))] g5 (fun y14 g13 => rng y14 ∧ (y14 = 0 → (P 0 g13)) ∧ (¬ y14 = 0 → (P 1 g13)))))) ∧ (y2 = 0 → (P (-101) g1)))) : MXi mX9_part [vr 0, vi x1, vi x2] g0 P := by
  refine met_of_ex (by decide +kernel) (Nat.le_of_ble_eq_true rfl) ?_
  show EX mX9_part 0 [some (vr 0), some (vi x1), some (vi x2)] [] (hX g0) (0, 0) _
  refine ex_aload_n 1 dX9_part_0 rfl rfl ?_
  refine ex_iload_n 2 dX9_part_1 rfl rfl ?_
  refine ex_iload_n 3 dX9_part_2 rfl rfl ?_
  refine s_callVi [vi x1, vi x2] 6 dX9_part_3 rfl cvX9_150 rfl rfl ⟨Nat.le_of_ble_eq_true rfl, Nat.le_of_ble_eq_true rfl⟩ (Nat.le_of_ble_eq_true rfl) ⟨_, rfl⟩ hyp (fun y2 h1 hq => ?_)
  obtain ⟨g1, rfl, hyp⟩ := hq
  obtain ⟨o3, hyp⟩ := hyp
  obtain ⟨ht, hf⟩ := hyp
  refine ex_if_ne 12 9 dX9_part_6 (by decide) rfl o3 (fun c17 => ?_) (fun c17 => ?_)
  · have hyp := ht c17
    clear ht hf
    refine ex_aload_n 13 dX9_part_12 rfl rfl ?_
    refine ex_iconst 14 dX9_part_13 rfl ?_
    refine q_putZ 9 11 17 dX9_part_14 rfl fiX9_68 ff9_11 rfl ⟨_, rfl⟩ (Or.inr rfl) (fun h1 e4 => ?_)
    obtain ⟨g5, eg6⟩ : ∃ z : GS, z = gI g1 0 11 1 := ⟨_, rfl⟩
    have hyp := hyp g5 eg6
    obtain rfl : h1 = hX g5 := by rw [e4, eg6]; exact rfl
    clear e4
    refine ex_aload_n 18 dX9_part_17 rfl rfl ?_
    refine q_getR (a := 8) 9 3 21 dX9_part_18 rfl fiX9_33 rfl ⟨_, rfl⟩ rfl ?_
    refine ex_aload_n 22 dX9_part_21 rfl rfl ?_
    refine q_getR (a := 8) 9 3 25 dX9_part_22 rfl fiX9_33 rfl ⟨_, rfl⟩ rfl ?_
    refine q_getR (a := 9) 8 0 28 dX9_part_25 rfl fiX9_121 rfl ⟨_, rfl⟩ rfl ?_
    refine ex_iload_n 29 dX9_part_28 rfl rfl ?_
    obtain ⟨o7, hyp⟩ := hyp
    obtain ⟨o8, hyp⟩ := hyp
    obtain ⟨o9, hyp⟩ := hyp
    refine ex_aald (a := (11 + 3 * (g5.2.1 (x1).toNat))) 21 30 dX9_part_29 rfl (by decide) (ai_of (n := 18) rfl o7 o8 (by decide)) (rxR g5 (ltN (n := 18) o7 o8)) ?_
    refine ex_aload_n 31 dX9_part_30 rfl rfl ?_
    refine q_getR (a := 8) 9 3 34 dX9_part_31 rfl fiX9_33 rfl ⟨_, rfl⟩ rfl ?_
    refine q_getR (a := 9) 8 0 37 dX9_part_34 rfl fiX9_121 rfl ⟨_, rfl⟩ rfl ?_
    refine ex_iload_n 38 dX9_part_37 rfl rfl ?_
    obtain ⟨o10, hyp⟩ := hyp
    obtain ⟨o11, hyp⟩ := hyp
    obtain ⟨o12, hyp⟩ := hyp
    refine ex_aald (a := (11 + 3 * (g5.2.1 (x2).toNat))) 21 39 dX9_part_38 rfl (by decide) (ai_of (n := 18) rfl o10 o11 (by decide)) (rxR g5 (ltN (n := 18) o10 o11)) ?_
    refine s_callVi [vr (11 + 3 * (g5.2.1 (x1).toNat)), vr (11 + 3 * (g5.2.1 (x2).toNat))] 42 dX9_part_39 rfl cvX9_153 rfl rfl ⟨Nat.le_of_ble_eq_true rfl, Nat.le_of_ble_eq_true rfl⟩ (Nat.le_of_ble_eq_true rfl) ⟨_, rfl⟩ hyp (fun y14 h1 hq => ?_)
    obtain ⟨g13, rfl, hyp⟩ := hq
    obtain ⟨o15, hyp⟩ := hyp
    obtain ⟨ht, hf⟩ := hyp
    refine ex_if_eq 49 45 dX9_part_42 (by decide) rfl o15 (fun c16 => ?_) (fun c16 => ?_)
    · have hyp := ht c16
      clear ht hf
      refine ex_iconst 50 dX9_part_49 rfl ?_
      exact ex_iret dX9_part_50 (Or.inl rfl) ⟨_, rfl, _, rfl, hyp⟩
    · have hyp := hf c16
      clear ht hf
      refine ex_iconst 46 dX9_part_45 rfl ?_
      refine ex_goto 50 dX9_part_46 (by decide) ?_
      exact ex_iret dX9_part_50 (Or.inl rfl) ⟨_, rfl, _, rfl, hyp⟩
  · have hyp := hf c17
    clear ht hf
    refine ex_bipush 11 dX9_part_9 rfl ⟨by decide, by decide⟩ ?_
    exact ex_iret dX9_part_11 (Or.inl rfl) ⟨_, rfl, _, rfl, hyp⟩
set_option maxRecDepth 4000 in
theorem uX9_bound {P : Int → GS → Prop} (g0 : GS) (x1 : Int) (x2 : Int) (hyp : rng x1 ∧ (x1 < 0 → (P (-102) g0)) ∧ (0 ≤ x1 → ((x1 ≤ 2 → ((¬ x1 = 0 → ((¬ x1 = 1 → (XXi mX9_bound 34 [some (vr 0), some (vi x1), some (vi x2), none, none] [vi 500] g0 P)) ∧ (x1 = 1 → (XXi mX9_bound 34 [some (vr 0), some (vi x1), some (vi x2), none, none] [vi 5] g0 P)))) ∧ (x1 = 0 → (XXi mX9_bound 34 [some (vr 0), some (vi x1), some (vi x2), none, none] [vi 1000] g0 P)))) ∧ (2 < x1 → (P (-102) g0))))) : MXi mX9_bound [vr 0, vi x1, vi x2] g0 P := by
  refine met_of_ex (by decide +kernel) (Nat.le_of_ble_eq_true rfl) ?_
  show EX mX9_bound 0 [some (vr 0), some (vi x1), some (vi x2), none, none] [] (hX g0) (0, 0) _
  refine ex_iload_n 1 dX9_bound_0 rfl rfl ?_
  obtain ⟨o1, hyp⟩ := hyp
  obtain ⟨ht, hf⟩ := hyp
  refine ex_if_lt 9 4 dX9_bound_1 (by decide) rfl o1 (fun c5 => ?_) (fun c5 => ?_)
  · have hyp := ht c5
    clear ht hf
    refine ex_bipush 11 dX9_bound_9 rfl ⟨by decide, by decide⟩ ?_
    exact ex_iret dX9_bound_11 (Or.inl rfl) ⟨_, rfl, _, rfl, hyp⟩
  · have hyp := hf c5
    clear ht hf
    refine ex_iload_n 5 dX9_bound_4 rfl rfl ?_
    refine ex_iconst 6 dX9_bound_5 rfl ?_
    obtain ⟨ht, hf⟩ := hyp
    refine ex_icmp_le 12 9 dX9_bound_6 (by decide) rfl o1 ⟨by decide, by decide⟩ (fun c4 => ?_) (fun c4 => ?_)
    · have hyp := ht c4
      clear ht hf
      refine ex_iload_n 13 dX9_bound_12 rfl rfl ?_
      obtain ⟨ht, hf⟩ := hyp
      refine ex_if_ne 22 16 dX9_bound_13 (by decide) rfl o1 (fun c3 => ?_) (fun c3 => ?_)
      · have hyp := ht c3
        clear ht hf
        refine ex_iload_n 23 dX9_bound_22 rfl rfl ?_
        refine ex_iconst 24 dX9_bound_23 rfl ?_
        obtain ⟨ht, hf⟩ := hyp
        refine ex_icmp_ne 31 27 dX9_bound_24 (by decide) rfl o1 ⟨by decide, by decide⟩ (fun c2 => ?_) (fun c2 => ?_)
        · have hyp := ht c2
          clear ht hf
          refine ex_sipush 34 dX9_bound_31 rfl ⟨by decide, by decide⟩ ?_
          exact hyp
        · have hyp := hf c2
          clear ht hf
          refine ex_iconst 28 dX9_bound_27 rfl ?_
          refine ex_goto 34 dX9_bound_28 (by decide) ?_
          exact hyp
      · have hyp := hf c3
        clear ht hf
        refine ex_sipush 19 dX9_bound_16 rfl ⟨by decide, by decide⟩ ?_
        refine ex_goto 34 dX9_bound_19 (by decide) ?_
        exact hyp
    · have hyp := hf c4
      clear ht hf
      refine ex_bipush 11 dX9_bound_9 rfl ⟨by decide, by decide⟩ ?_
      exact ex_iret dX9_bound_11 (Or.inl rfl) ⟨_, rfl, _, rfl, hyp⟩
set_option maxRecDepth 4000 in
theorem uX9_bound_34 {P : Int → GS → Prop} (g0 : GS) (x1 : Int) (x2 : Int) (xs0 : Int) (hyp : rng x2 ∧ (x2 < 0 → (P (-102) g0)) ∧ (0 ≤ x2 → (rng xs0 ∧ (x2 ≤ xs0 → (rng x1 ∧ (¬ x1 = 0 → ((¬ x1 = 1 → ((¬ x1 = 0 → ((¬ x1 = 1 → (∀ g5 : GS, g5 = gI g0 0 9 x2 → (∀ g8 : GS, g8 = gI g5 0 11 1 → (P (g0.1 0 9) g8)))) ∧ (x1 = 1 → (∀ g11 : GS, g11 = gI g0 0 8 x2 → (∀ g14 : GS, g14 = gI g11 0 11 1 → (P (g0.1 0 9) g14)))))) ∧ (x1 = 0 → (∀ g18 : GS, g18 = gI g0 0 7 x2 → (∀ g21 : GS, g21 = gI g18 0 11 1 → (P (g0.1 0 9) g21)))))) ∧ (x1 = 1 → ((¬ x1 = 0 → ((¬ x1 = 1 → (∀ g25 : GS, g25 = gI g0 0 9 x2 → (∀ g28 : GS, g28 = gI g25 0 11 1 → (P (g0.1 0 8) g28)))) ∧ (x1 = 1 → (∀ g31 : GS, g31 = gI g0 0 8 x2 → (∀ g34 : GS, g34 = gI g31 0 11 1 → (P (g0.1 0 8) g34)))))) ∧ (x1 = 0 → (∀ g38 : GS, g38 = gI g0 0 7 x2 → (∀ g41 : GS, g41 = gI g38 0 11 1 → (P (g0.1 0 8) g41)))))))) ∧ (x1 = 0 → ((¬ x1 = 0 → ((¬ x1 = 1 → (∀ g46 : GS, g46 = gI g0 0 9 x2 → (∀ g49 : GS, g49 = gI g46 0 11 1 → (P (g0.1 0 7) g49)))) ∧ (x1 = 1 → (∀ g52 : GS, g52 = gI g0 0 8 x2 → (∀ g55 : GS, g55 = gI g52 0 11 1 → (P (g0.1 0 7) g55)))))) ∧ (x1 = 0 → (∀ g59 : GS, g59 = gI g0 0 7 x2 → (∀ g62 : GS, g62 = gI g59 0 11 1 → (P (g0.1 0 7) g62)))))))) ∧ (xs0 < x2 → (P (-102) g0))))) : XXi mX9_bound 34 [some (vr 0), some (vi x1), some (vi x2), none, none] [vi xs0] g0 P := by
  refine q_istore_n [some (vr 0), some (vi x1), some (vi x2), some (vi xs0), none] 35 dX9_bound_34 rfl (Nat.le_of_ble_eq_true rfl) rfl rfl ?_
  refine ex_iload_n 36 dX9_bound_35 rfl rfl ?_
  obtain ⟨o1, hyp⟩ := hyp
  obtain ⟨ht, hf⟩ := hyp
  refine ex_if_lt 44 39 dX9_bound_36 (by decide) rfl o1 (fun c67 => ?_) (fun c67 => ?_)
  · have hyp := ht c67
    clear ht hf
    refine ex_bipush 46 dX9_bound_44 rfl ⟨by decide, by decide⟩ ?_
    exact ex_iret dX9_bound_46 (Or.inl rfl) ⟨_, rfl, _, rfl, hyp⟩
  · have hyp := hf c67
    clear ht hf
    refine ex_iload_n 40 dX9_bound_39 rfl rfl ?_
    refine ex_iload_n 41 dX9_bound_40 rfl rfl ?_
    obtain ⟨o2, hyp⟩ := hyp
    obtain ⟨ht, hf⟩ := hyp
    refine ex_icmp_le 47 44 dX9_bound_41 (by decide) rfl o1 o2 (fun c66 => ?_) (fun c66 => ?_)
    · have hyp := ht c66
      clear ht hf
      refine ex_iload_n 48 dX9_bound_47 rfl rfl ?_
      obtain ⟨o3, hyp⟩ := hyp
      obtain ⟨ht, hf⟩ := hyp
      refine ex_if_ne 58 51 dX9_bound_48 (by decide) rfl o3 (fun c65 => ?_) (fun c65 => ?_)
      · have hyp := ht c65
        clear ht hf
        refine ex_iload_n 59 dX9_bound_58 rfl rfl ?_
        refine ex_iconst 60 dX9_bound_59 rfl ?_
        obtain ⟨ht, hf⟩ := hyp
        refine ex_icmp_ne 70 63 dX9_bound_60 (by decide) rfl o3 ⟨by decide, by decide⟩ (fun c44 => ?_) (fun c44 => ?_)
        · have hyp := ht c44
          clear ht hf
          refine ex_aload_n 71 dX9_bound_70 rfl rfl ?_
          refine q_getI 9 9 74 dX9_bound_71 rfl fiX9_65 (Or.inl rfl) ⟨_, rfl⟩ ?_
          refine q_istore [some (vr 0), some (vi x1), some (vi x2), some (vi xs0), some (vi (g0.1 0 9))] 76 dX9_bound_74 rfl (Nat.le_of_ble_eq_true rfl) rfl rfl ?_
          refine ex_iload_n 77 dX9_bound_76 rfl rfl ?_
          obtain ⟨ht, hf⟩ := hyp
          refine ex_if_ne 88 80 dX9_bound_77 (by decide) rfl o3 (fun c23 => ?_) (fun c23 => ?_)
          · have hyp := ht c23
            clear ht hf
            refine ex_iload_n 89 dX9_bound_88 rfl rfl ?_
            refine ex_iconst 90 dX9_bound_89 rfl ?_
            obtain ⟨ht, hf⟩ := hyp
            refine ex_icmp_ne 101 93 dX9_bound_90 (by decide) rfl o3 ⟨by decide, by decide⟩ (fun c16 => ?_) (fun c16 => ?_)
            · have hyp := ht c16
              clear ht hf
              refine ex_aload_n 102 dX9_bound_101 rfl rfl ?_
              refine ex_iload_n 103 dX9_bound_102 rfl rfl ?_
              refine q_putI 9 9 106 dX9_bound_103 rfl fiX9_65 ff9_9 rfl ⟨_, rfl⟩ (fun h1 e4 => ?_)
              obtain ⟨g5, eg6⟩ : ∃ z : GS, z = gI g0 0 9 x2 := ⟨_, rfl⟩
              have hyp := hyp g5 eg6
              obtain rfl : h1 = hX g5 := by rw [e4, eg6]; exact rfl
              clear e4
              refine ex_aload_n 107 dX9_bound_106 rfl rfl ?_
              refine ex_iconst 108 dX9_bound_107 rfl ?_
              refine q_putZ 9 11 111 dX9_bound_108 rfl fiX9_68 ff9_11 rfl ⟨_, rfl⟩ (Or.inr rfl) (fun h1 e7 => ?_)
              obtain ⟨g8, eg9⟩ : ∃ z : GS, z = gI g5 0 11 1 := ⟨_, rfl⟩
              have hyp := hyp g8 eg9
              obtain rfl : h1 = hX g8 := by rw [e7, eg9]; exact rfl
              clear e7
              refine ex_iload 113 dX9_bound_111 rfl rfl ?_
              exact ex_iret dX9_bound_113 (Or.inl rfl) ⟨_, rfl, _, rfl, hyp⟩
            · have hyp := hf c16
              clear ht hf
              refine ex_aload_n 94 dX9_bound_93 rfl rfl ?_
              refine ex_iload_n 95 dX9_bound_94 rfl rfl ?_
              refine q_putI 9 8 98 dX9_bound_95 rfl fiX9_62 ff9_8 rfl ⟨_, rfl⟩ (fun h1 e10 => ?_)
              obtain ⟨g11, eg12⟩ : ∃ z : GS, z = gI g0 0 8 x2 := ⟨_, rfl⟩
              have hyp := hyp g11 eg12
              obtain rfl : h1 = hX g11 := by rw [e10, eg12]; exact rfl
              clear e10
              refine ex_goto 106 dX9_bound_98 (by decide) ?_
              refine ex_aload_n 107 dX9_bound_106 rfl rfl ?_
              refine ex_iconst 108 dX9_bound_107 rfl ?_
              refine q_putZ 9 11 111 dX9_bound_108 rfl fiX9_68 ff9_11 rfl ⟨_, rfl⟩ (Or.inr rfl) (fun h1 e13 => ?_)
              obtain ⟨g14, eg15⟩ : ∃ z : GS, z = gI g11 0 11 1 := ⟨_, rfl⟩
              have hyp := hyp g14 eg15
              obtain rfl : h1 = hX g14 := by rw [e13, eg15]; exact rfl
              clear e13
              refine ex_iload 113 dX9_bound_111 rfl rfl ?_
              exact ex_iret dX9_bound_113 (Or.inl rfl) ⟨_, rfl, _, rfl, hyp⟩
          · have hyp := hf c23
            clear ht hf
            refine ex_aload_n 81 dX9_bound_80 rfl rfl ?_
            refine ex_iload_n 82 dX9_bound_81 rfl rfl ?_
            refine q_putI 9 7 85 dX9_bound_82 rfl fiX9_58 ff9_7 rfl ⟨_, rfl⟩ (fun h1 e17 => ?_)
            obtain ⟨g18, eg19⟩ : ∃ z : GS, z = gI g0 0 7 x2 := ⟨_, rfl⟩
            have hyp := hyp g18 eg19
            obtain rfl : h1 = hX g18 := by rw [e17, eg19]; exact rfl
            clear e17
            refine ex_goto 106 dX9_bound_85 (by decide) ?_
            refine ex_aload_n 107 dX9_bound_106 rfl rfl ?_
            refine ex_iconst 108 dX9_bound_107 rfl ?_
            refine q_putZ 9 11 111 dX9_bound_108 rfl fiX9_68 ff9_11 rfl ⟨_, rfl⟩ (Or.inr rfl) (fun h1 e20 => ?_)
            obtain ⟨g21, eg22⟩ : ∃ z : GS, z = gI g18 0 11 1 := ⟨_, rfl⟩
            have hyp := hyp g21 eg22
            obtain rfl : h1 = hX g21 := by rw [e20, eg22]; exact rfl
            clear e20
            refine ex_iload 113 dX9_bound_111 rfl rfl ?_
            exact ex_iret dX9_bound_113 (Or.inl rfl) ⟨_, rfl, _, rfl, hyp⟩
        · have hyp := hf c44
          clear ht hf
          refine ex_aload_n 64 dX9_bound_63 rfl rfl ?_
          refine q_getI 9 8 67 dX9_bound_64 rfl fiX9_62 (Or.inl rfl) ⟨_, rfl⟩ ?_
          refine ex_goto 74 dX9_bound_67 (by decide) ?_
          refine q_istore [some (vr 0), some (vi x1), some (vi x2), some (vi xs0), some (vi (g0.1 0 8))] 76 dX9_bound_74 rfl (Nat.le_of_ble_eq_true rfl) rfl rfl ?_
          refine ex_iload_n 77 dX9_bound_76 rfl rfl ?_
          obtain ⟨ht, hf⟩ := hyp
          refine ex_if_ne 88 80 dX9_bound_77 (by decide) rfl o3 (fun c43 => ?_) (fun c43 => ?_)
          · have hyp := ht c43
            clear ht hf
            refine ex_iload_n 89 dX9_bound_88 rfl rfl ?_
            refine ex_iconst 90 dX9_bound_89 rfl ?_
            obtain ⟨ht, hf⟩ := hyp
            refine ex_icmp_ne 101 93 dX9_bound_90 (by decide) rfl o3 ⟨by decide, by decide⟩ (fun c36 => ?_) (fun c36 => ?_)
            · have hyp := ht c36
              clear ht hf
              refine ex_aload_n 102 dX9_bound_101 rfl rfl ?_
              refine ex_iload_n 103 dX9_bound_102 rfl rfl ?_
              refine q_putI 9 9 106 dX9_bound_103 rfl fiX9_65 ff9_9 rfl ⟨_, rfl⟩ (fun h1 e24 => ?_)
              obtain ⟨g25, eg26⟩ : ∃ z : GS, z = gI g0 0 9 x2 := ⟨_, rfl⟩
              have hyp := hyp g25 eg26
              obtain rfl : h1 = hX g25 := by rw [e24, eg26]; exact rfl
              clear e24
              refine ex_aload_n 107 dX9_bound_106 rfl rfl ?_
              refine ex_iconst 108 dX9_bound_107 rfl ?_
              refine q_putZ 9 11 111 dX9_bound_108 rfl fiX9_68 ff9_11 rfl ⟨_, rfl⟩ (Or.inr rfl) (fun h1 e27 => ?_)
              obtain ⟨g28, eg29⟩ : ∃ z : GS, z = gI g25 0 11 1 := ⟨_, rfl⟩
              have hyp := hyp g28 eg29
              obtain rfl : h1 = hX g28 := by rw [e27, eg29]; exact rfl
              clear e27
              refine ex_iload 113 dX9_bound_111 rfl rfl ?_
              exact ex_iret dX9_bound_113 (Or.inl rfl) ⟨_, rfl, _, rfl, hyp⟩
            · have hyp := hf c36
              clear ht hf
              refine ex_aload_n 94 dX9_bound_93 rfl rfl ?_
              refine ex_iload_n 95 dX9_bound_94 rfl rfl ?_
              refine q_putI 9 8 98 dX9_bound_95 rfl fiX9_62 ff9_8 rfl ⟨_, rfl⟩ (fun h1 e30 => ?_)
              obtain ⟨g31, eg32⟩ : ∃ z : GS, z = gI g0 0 8 x2 := ⟨_, rfl⟩
              have hyp := hyp g31 eg32
              obtain rfl : h1 = hX g31 := by rw [e30, eg32]; exact rfl
              clear e30
              refine ex_goto 106 dX9_bound_98 (by decide) ?_
              refine ex_aload_n 107 dX9_bound_106 rfl rfl ?_
              refine ex_iconst 108 dX9_bound_107 rfl ?_
              refine q_putZ 9 11 111 dX9_bound_108 rfl fiX9_68 ff9_11 rfl ⟨_, rfl⟩ (Or.inr rfl) (fun h1 e33 => ?_)
              obtain ⟨g34, eg35⟩ : ∃ z : GS, z = gI g31 0 11 1 := ⟨_, rfl⟩
              have hyp := hyp g34 eg35
              obtain rfl : h1 = hX g34 := by rw [e33, eg35]; exact rfl
              clear e33
              refine ex_iload 113 dX9_bound_111 rfl rfl ?_
              exact ex_iret dX9_bound_113 (Or.inl rfl) ⟨_, rfl, _, rfl, hyp⟩
          · have hyp := hf c43
            clear ht hf
            refine ex_aload_n 81 dX9_bound_80 rfl rfl ?_
            refine ex_iload_n 82 dX9_bound_81 rfl rfl ?_
            refine q_putI 9 7 85 dX9_bound_82 rfl fiX9_58 ff9_7 rfl ⟨_, rfl⟩ (fun h1 e37 => ?_)
            obtain ⟨g38, eg39⟩ : ∃ z : GS, z = gI g0 0 7 x2 := ⟨_, rfl⟩
            have hyp := hyp g38 eg39
            obtain rfl : h1 = hX g38 := by rw [e37, eg39]; exact rfl
            clear e37
            refine ex_goto 106 dX9_bound_85 (by decide) ?_
            refine ex_aload_n 107 dX9_bound_106 rfl rfl ?_
            refine ex_iconst 108 dX9_bound_107 rfl ?_
            refine q_putZ 9 11 111 dX9_bound_108 rfl fiX9_68 ff9_11 rfl ⟨_, rfl⟩ (Or.inr rfl) (fun h1 e40 => ?_)
            obtain ⟨g41, eg42⟩ : ∃ z : GS, z = gI g38 0 11 1 := ⟨_, rfl⟩
            have hyp := hyp g41 eg42
            obtain rfl : h1 = hX g41 := by rw [e40, eg42]; exact rfl
            clear e40
            refine ex_iload 113 dX9_bound_111 rfl rfl ?_
            exact ex_iret dX9_bound_113 (Or.inl rfl) ⟨_, rfl, _, rfl, hyp⟩
      · have hyp := hf c65
        clear ht hf
        refine ex_aload_n 52 dX9_bound_51 rfl rfl ?_
        refine q_getI 9 7 55 dX9_bound_52 rfl fiX9_58 (Or.inl rfl) ⟨_, rfl⟩ ?_
        refine ex_goto 74 dX9_bound_55 (by decide) ?_
        refine q_istore [some (vr 0), some (vi x1), some (vi x2), some (vi xs0), some (vi (g0.1 0 7))] 76 dX9_bound_74 rfl (Nat.le_of_ble_eq_true rfl) rfl rfl ?_
        refine ex_iload_n 77 dX9_bound_76 rfl rfl ?_
        obtain ⟨ht, hf⟩ := hyp
        refine ex_if_ne 88 80 dX9_bound_77 (by decide) rfl o3 (fun c64 => ?_) (fun c64 => ?_)
        · have hyp := ht c64
          clear ht hf
          refine ex_iload_n 89 dX9_bound_88 rfl rfl ?_
          refine ex_iconst 90 dX9_bound_89 rfl ?_
          obtain ⟨ht, hf⟩ := hyp
          refine ex_icmp_ne 101 93 dX9_bound_90 (by decide) rfl o3 ⟨by decide, by decide⟩ (fun c57 => ?_) (fun c57 => ?_)
          · have hyp := ht c57
            clear ht hf
            refine ex_aload_n 102 dX9_bound_101 rfl rfl ?_
            refine ex_iload_n 103 dX9_bound_102 rfl rfl ?_
            refine q_putI 9 9 106 dX9_bound_103 rfl fiX9_65 ff9_9 rfl ⟨_, rfl⟩ (fun h1 e45 => ?_)
            obtain ⟨g46, eg47⟩ : ∃ z : GS, z = gI g0 0 9 x2 := ⟨_, rfl⟩
            have hyp := hyp g46 eg47
            obtain rfl : h1 = hX g46 := by rw [e45, eg47]; exact rfl
            clear e45
            refine ex_aload_n 107 dX9_bound_106 rfl rfl ?_
            refine ex_iconst 108 dX9_bound_107 rfl ?_
            refine q_putZ 9 11 111 dX9_bound_108 rfl fiX9_68 ff9_11 rfl ⟨_, rfl⟩ (Or.inr rfl) (fun h1 e48 => ?_)
            obtain ⟨g49, eg50⟩ : ∃ z : GS, z = gI g46 0 11 1 := ⟨_, rfl⟩
            have hyp := hyp g49 eg50
            obtain rfl : h1 = hX g49 := by rw [e48, eg50]; exact rfl
            clear e48
            refine ex_iload 113 dX9_bound_111 rfl rfl ?_
            exact ex_iret dX9_bound_113 (Or.inl rfl) ⟨_, rfl, _, rfl, hyp⟩
          · have hyp := hf c57
            clear ht hf
            refine ex_aload_n 94 dX9_bound_93 rfl rfl ?_
            refine ex_iload_n 95 dX9_bound_94 rfl rfl ?_
            refine q_putI 9 8 98 dX9_bound_95 rfl fiX9_62 ff9_8 rfl ⟨_, rfl⟩ (fun h1 e51 => ?_)
            obtain ⟨g52, eg53⟩ : ∃ z : GS, z = gI g0 0 8 x2 := ⟨_, rfl⟩
            have hyp := hyp g52 eg53
            obtain rfl : h1 = hX g52 := by rw [e51, eg53]; exact rfl
            clear e51
            refine ex_goto 106 dX9_bound_98 (by decide) ?_
            refine ex_aload_n 107 dX9_bound_106 rfl rfl ?_
            refine ex_iconst 108 dX9_bound_107 rfl ?_
            refine q_putZ 9 11 111 dX9_bound_108 rfl fiX9_68 ff9_11 rfl ⟨_, rfl⟩ (Or.inr rfl) (fun h1 e54 => ?_)
            obtain ⟨g55, eg56⟩ : ∃ z : GS, z = gI g52 0 11 1 := ⟨_, rfl⟩
            have hyp := hyp g55 eg56
            obtain rfl : h1 = hX g55 := by rw [e54, eg56]; exact rfl
            clear e54
            refine ex_iload 113 dX9_bound_111 rfl rfl ?_
            exact ex_iret dX9_bound_113 (Or.inl rfl) ⟨_, rfl, _, rfl, hyp⟩
        · have hyp := hf c64
          clear ht hf
          refine ex_aload_n 81 dX9_bound_80 rfl rfl ?_
          refine ex_iload_n 82 dX9_bound_81 rfl rfl ?_
          refine q_putI 9 7 85 dX9_bound_82 rfl fiX9_58 ff9_7 rfl ⟨_, rfl⟩ (fun h1 e58 => ?_)
          obtain ⟨g59, eg60⟩ : ∃ z : GS, z = gI g0 0 7 x2 := ⟨_, rfl⟩
          have hyp := hyp g59 eg60
          obtain rfl : h1 = hX g59 := by rw [e58, eg60]; exact rfl
          clear e58
          refine ex_goto 106 dX9_bound_85 (by decide) ?_
          refine ex_aload_n 107 dX9_bound_106 rfl rfl ?_
          refine ex_iconst 108 dX9_bound_107 rfl ?_
          refine q_putZ 9 11 111 dX9_bound_108 rfl fiX9_68 ff9_11 rfl ⟨_, rfl⟩ (Or.inr rfl) (fun h1 e61 => ?_)
          obtain ⟨g62, eg63⟩ : ∃ z : GS, z = gI g59 0 11 1 := ⟨_, rfl⟩
          have hyp := hyp g62 eg63
          obtain rfl : h1 = hX g62 := by rw [e61, eg63]; exact rfl
          clear e61
          refine ex_iload 113 dX9_bound_111 rfl rfl ?_
          exact ex_iret dX9_bound_113 (Or.inl rfl) ⟨_, rfl, _, rfl, hyp⟩
    · have hyp := hf c66
      clear ht hf
      refine ex_bipush 46 dX9_bound_44 rfl ⟨by decide, by decide⟩ ?_
      exact ex_iret dX9_bound_46 (Or.inl rfl) ⟨_, rfl, _, rfl, hyp⟩
set_option maxRecDepth 4000 in
theorem uX9_two {P : Int → GS → Prop} (g0 : GS) (x1 : Int) (x2 : Int) (x3 : Int) (hyp : MXi mX9_areTwo [vr 0, vi x1, vi x2] g0 (fun y2 g1 => rng y2 ∧ (¬ y2 = 0 → (MXv mX9_settle [vr 0] g1 (fun g4 => MXi mX9_tellTwo [vr 0, vi x1, vi x2, vi x3] g4 (fun y6 g5 => P y6 g5)))) ∧ (y2 = 0 → (P (-101) g1)))) : MXi mX9_two [vr 0, vi x1, vi x2, vi x3] g0 P := by
  refine met_of_ex (by decide +kernel) (Nat.le_of_ble_eq_true rfl) ?_
  show EX mX9_two 0 [some (vr 0), some (vi x1), some (vi x2), some (vi x3)] [] (hX g0) (0, 0) _
  refine ex_aload_n 1 dX9_two_0 rfl rfl ?_
  refine ex_iload_n 2 dX9_two_1 rfl rfl ?_
  refine ex_iload_n 3 dX9_two_2 rfl rfl ?_
  refine s_callVi [vi x1, vi x2] 6 dX9_two_3 rfl cvX9_150 rfl rfl ⟨Nat.le_of_ble_eq_true rfl, Nat.le_of_ble_eq_true rfl⟩ (Nat.le_of_ble_eq_true rfl) ⟨_, rfl⟩ hyp (fun y2 h1 hq => ?_)
  obtain ⟨g1, rfl, hyp⟩ := hq
  obtain ⟨o3, hyp⟩ := hyp
  obtain ⟨ht, hf⟩ := hyp
  refine ex_if_ne 12 9 dX9_two_6 (by decide) rfl o3 (fun c7 => ?_) (fun c7 => ?_)
  · have hyp := ht c7
    clear ht hf
    refine ex_aload_n 13 dX9_two_12 rfl rfl ?_
    refine s_callVv [] 16 dX9_two_13 rfl cvX9_114 rfl rfl ⟨Nat.le_of_ble_eq_true rfl, Nat.le_of_ble_eq_true rfl⟩ (Nat.le_of_ble_eq_true rfl) ⟨_, rfl⟩ hyp (fun h1 hq => ?_)
    obtain ⟨g4, rfl, hyp⟩ := hq
    refine ex_aload_n 17 dX9_two_16 rfl rfl ?_
    refine ex_iload_n 18 dX9_two_17 rfl rfl ?_
    refine ex_iload_n 19 dX9_two_18 rfl rfl ?_
    refine ex_iload_n 20 dX9_two_19 rfl rfl ?_
    refine s_callVi [vi x1, vi x2, vi x3] 23 dX9_two_20 rfl cvX9_157 rfl rfl ⟨Nat.le_of_ble_eq_true rfl, Nat.le_of_ble_eq_true rfl⟩ (Nat.le_of_ble_eq_true rfl) ⟨_, rfl⟩ hyp (fun y6 h1 hq => ?_)
    obtain ⟨g5, rfl, hyp⟩ := hq
    exact ex_iret dX9_two_23 (Or.inl rfl) ⟨_, rfl, _, rfl, hyp⟩
  · have hyp := hf c7
    clear ht hf
    refine ex_bipush 11 dX9_two_9 rfl ⟨by decide, by decide⟩ ?_
    exact ex_iret dX9_two_11 (Or.inl rfl) ⟨_, rfl, _, rfl, hyp⟩
set_option maxRecDepth 4000 in
theorem uX9_fits {P : Int → GS → Prop} (g0 : GS) (x1 : Int) (hyp : MXi mX8_has [vr 8, vi x1] g0 (fun y2 g1 => rng y2 ∧ (¬ y2 = 0 → (MXv mX9_settle [vr 0] g1 (fun g4 => MXi mX6_countFitting [vr 65, vi x1] g4 (fun y6 g5 => P y6 g5)))) ∧ (y2 = 0 → (P (-101) g1)))) : MXi mX9_fits [vr 0, vi x1] g0 P := by
  refine met_of_ex (by decide +kernel) (Nat.le_of_ble_eq_true rfl) ?_
  show EX mX9_fits 0 [some (vr 0), some (vi x1)] [] (hX g0) (0, 0) _
  refine ex_aload_n 1 dX9_fits_0 rfl rfl ?_
  refine q_getR (a := 8) 9 3 4 dX9_fits_1 rfl fiX9_33 rfl ⟨_, rfl⟩ rfl ?_
  refine ex_iload_n 5 dX9_fits_4 rfl rfl ?_
  refine s_callVi [vi x1] 8 dX9_fits_5 rfl cvX9_111 rfl rfl ⟨Nat.le_of_ble_eq_true rfl, Nat.le_of_ble_eq_true rfl⟩ (Nat.le_of_ble_eq_true rfl) ⟨_, rfl⟩ hyp (fun y2 h1 hq => ?_)
  obtain ⟨g1, rfl, hyp⟩ := hq
  obtain ⟨o3, hyp⟩ := hyp
  obtain ⟨ht, hf⟩ := hyp
  refine ex_if_ne 14 11 dX9_fits_8 (by decide) rfl o3 (fun c7 => ?_) (fun c7 => ?_)
  · have hyp := ht c7
    clear ht hf
    refine ex_aload_n 15 dX9_fits_14 rfl rfl ?_
    refine s_callVv [] 18 dX9_fits_15 rfl cvX9_114 rfl rfl ⟨Nat.le_of_ble_eq_true rfl, Nat.le_of_ble_eq_true rfl⟩ (Nat.le_of_ble_eq_true rfl) ⟨_, rfl⟩ hyp (fun h1 hq => ?_)
    obtain ⟨g4, rfl, hyp⟩ := hq
    refine ex_aload_n 19 dX9_fits_18 rfl rfl ?_
    refine q_getR (a := 65) 9 4 22 dX9_fits_19 rfl fiX9_40 rfl ⟨_, rfl⟩ rfl ?_
    refine ex_iload_n 23 dX9_fits_22 rfl rfl ?_
    refine s_callVi [vi x1] 26 dX9_fits_23 rfl cvX9_161 rfl rfl ⟨Nat.le_of_ble_eq_true rfl, Nat.le_of_ble_eq_true rfl⟩ (Nat.le_of_ble_eq_true rfl) ⟨_, rfl⟩ hyp (fun y6 h1 hq => ?_)
    obtain ⟨g5, rfl, hyp⟩ := hq
    exact ex_iret dX9_fits_26 (Or.inl rfl) ⟨_, rfl, _, rfl, hyp⟩
  · have hyp := hf c7
    clear ht hf
    refine ex_bipush 13 dX9_fits_11 rfl ⟨by decide, by decide⟩ ?_
    exact ex_iret dX9_fits_13 (Or.inl rfl) ⟨_, rfl, _, rfl, hyp⟩
set_option maxRecDepth 4000 in
theorem uX9_nearest {P : Int → GS → Prop} (g0 : GS) (x1 : Int) (hyp : MXi mX8_has [vr 8, vi x1] g0 (fun y2 g1 => rng y2 ∧ (¬ y2 = 0 → (MXv mX9_settle [vr 0] g1 (fun g4 => MXi mX6_bestFor [vr 65, vi x1] g4 (fun y6 g5 => P y6 g5)))) ∧ (y2 = 0 → (P (-101) g1)))) : MXi mX9_nearest [vr 0, vi x1] g0 P := by
  refine met_of_ex (by decide +kernel) (Nat.le_of_ble_eq_true rfl) ?_
  show EX mX9_nearest 0 [some (vr 0), some (vi x1)] [] (hX g0) (0, 0) _
  refine ex_aload_n 1 dX9_nearest_0 rfl rfl ?_
  refine q_getR (a := 8) 9 3 4 dX9_nearest_1 rfl fiX9_33 rfl ⟨_, rfl⟩ rfl ?_
  refine ex_iload_n 5 dX9_nearest_4 rfl rfl ?_
  refine s_callVi [vi x1] 8 dX9_nearest_5 rfl cvX9_111 rfl rfl ⟨Nat.le_of_ble_eq_true rfl, Nat.le_of_ble_eq_true rfl⟩ (Nat.le_of_ble_eq_true rfl) ⟨_, rfl⟩ hyp (fun y2 h1 hq => ?_)
  obtain ⟨g1, rfl, hyp⟩ := hq
  obtain ⟨o3, hyp⟩ := hyp
  obtain ⟨ht, hf⟩ := hyp
  refine ex_if_ne 14 11 dX9_nearest_8 (by decide) rfl o3 (fun c7 => ?_) (fun c7 => ?_)
  · have hyp := ht c7
    clear ht hf
    refine ex_aload_n 15 dX9_nearest_14 rfl rfl ?_
    refine s_callVv [] 18 dX9_nearest_15 rfl cvX9_114 rfl rfl ⟨Nat.le_of_ble_eq_true rfl, Nat.le_of_ble_eq_true rfl⟩ (Nat.le_of_ble_eq_true rfl) ⟨_, rfl⟩ hyp (fun h1 hq => ?_)
    obtain ⟨g4, rfl, hyp⟩ := hq
    refine ex_aload_n 19 dX9_nearest_18 rfl rfl ?_
    refine q_getR (a := 65) 9 4 22 dX9_nearest_19 rfl fiX9_40 rfl ⟨_, rfl⟩ rfl ?_
    refine ex_iload_n 23 dX9_nearest_22 rfl rfl ?_
    refine s_callVi [vi x1] 26 dX9_nearest_23 rfl cvX9_165 rfl rfl ⟨Nat.le_of_ble_eq_true rfl, Nat.le_of_ble_eq_true rfl⟩ (Nat.le_of_ble_eq_true rfl) ⟨_, rfl⟩ hyp (fun y6 h1 hq => ?_)
    obtain ⟨g5, rfl, hyp⟩ := hq
    exact ex_iret dX9_nearest_26 (Or.inl rfl) ⟨_, rfl, _, rfl, hyp⟩
  · have hyp := hf c7
    clear ht hf
    refine ex_bipush 13 dX9_nearest_11 rfl ⟨by decide, by decide⟩ ?_
    exact ex_iret dX9_nearest_13 (Or.inl rfl) ⟨_, rfl, _, rfl, hyp⟩
set_option maxRecDepth 4000 in
theorem uX9_lives {P : Int → GS → Prop} (g0 : GS) (x1 : Int) (hyp : MXv mX9_settle [vr 0] g0 (fun g1 => MXi mX9_tellLives [vr 0, vi x1] g1 (fun y3 g2 => P y3 g2))) : MXi mX9_lives [vr 0, vi x1] g0 P := by
  refine met_of_ex (by decide +kernel) (Nat.le_of_ble_eq_true rfl) ?_
  show EX mX9_lives 0 [some (vr 0), some (vi x1)] [] (hX g0) (0, 0) _
  refine ex_aload_n 1 dX9_lives_0 rfl rfl ?_
  refine s_callVv [] 4 dX9_lives_1 rfl cvX9_114 rfl rfl ⟨Nat.le_of_ble_eq_true rfl, Nat.le_of_ble_eq_true rfl⟩ (Nat.le_of_ble_eq_true rfl) ⟨_, rfl⟩ hyp (fun h1 hq => ?_)
  obtain ⟨g1, rfl, hyp⟩ := hq
  refine ex_aload_n 5 dX9_lives_4 rfl rfl ?_
  refine ex_iload_n 6 dX9_lives_5 rfl rfl ?_
  refine s_callVi [vi x1] 9 dX9_lives_6 rfl cvX9_168 rfl rfl ⟨Nat.le_of_ble_eq_true rfl, Nat.le_of_ble_eq_true rfl⟩ (Nat.le_of_ble_eq_true rfl) ⟨_, rfl⟩ hyp (fun y3 h1 hq => ?_)
  obtain ⟨g2, rfl, hyp⟩ := hq
  exact ex_iret dX9_lives_9 (Or.inl rfl) ⟨_, rfl, _, rfl, hyp⟩
set_option maxRecDepth 4000 in
theorem uX9_life {P : Int → GS → Prop} (g0 : GS) (x1 : Int) (x2 : Int) (hyp : MXv mX9_settle [vr 0] g0 (fun g1 => MXi mX2_has [vr 117, vi x1] g1 (fun y3 g2 => rng y3 ∧ (y3 = 0 → (P (-101) g2)) ∧ (¬ y3 = 0 → (0 ≤ x1 ∧ x1 < 18 ∧ MXi mX9_tellLife [vr (121 + 2 * (x1).toNat), vi x2] g2 (fun y8 g7 => P y8 g7)))))) : MXi mX9_life [vr 0, vi x1, vi x2] g0 P := by
  refine met_of_ex (by decide +kernel) (Nat.le_of_ble_eq_true rfl) ?_
  show EX mX9_life 0 [some (vr 0), some (vi x1), some (vi x2)] [] (hX g0) (0, 0) _
  refine ex_aload_n 1 dX9_life_0 rfl rfl ?_
  refine s_callVv [] 4 dX9_life_1 rfl cvX9_114 rfl rfl ⟨Nat.le_of_ble_eq_true rfl, Nat.le_of_ble_eq_true rfl⟩ (Nat.le_of_ble_eq_true rfl) ⟨_, rfl⟩ hyp (fun h1 hq => ?_)
  obtain ⟨g1, rfl, hyp⟩ := hq
  refine ex_aload_n 5 dX9_life_4 rfl rfl ?_
  refine q_getR (a := 117) 9 6 8 dX9_life_5 rfl fiX9_54 rfl ⟨_, rfl⟩ rfl ?_
  refine ex_iload_n 9 dX9_life_8 rfl rfl ?_
  refine s_callVi [vi x1] 12 dX9_life_9 rfl cvX9_171 rfl rfl ⟨Nat.le_of_ble_eq_true rfl, Nat.le_of_ble_eq_true rfl⟩ (Nat.le_of_ble_eq_true rfl) ⟨_, rfl⟩ hyp (fun y3 h1 hq => ?_)
  obtain ⟨g2, rfl, hyp⟩ := hq
  obtain ⟨o4, hyp⟩ := hyp
  obtain ⟨ht, hf⟩ := hyp
  refine ex_if_eq 31 15 dX9_life_12 (by decide) rfl o4 (fun c9 => ?_) (fun c9 => ?_)
  · have hyp := ht c9
    clear ht hf
    refine ex_bipush 33 dX9_life_31 rfl ⟨by decide, by decide⟩ ?_
    exact ex_iret dX9_life_33 (Or.inl rfl) ⟨_, rfl, _, rfl, hyp⟩
  · have hyp := hf c9
    clear ht hf
    refine ex_aload_n 16 dX9_life_15 rfl rfl ?_
    refine q_getR (a := 117) 9 6 19 dX9_life_16 rfl fiX9_54 rfl ⟨_, rfl⟩ rfl ?_
    refine q_getR (a := 118) 2 0 22 dX9_life_19 rfl fiX9_172 rfl ⟨_, rfl⟩ rfl ?_
    refine ex_iload_n 23 dX9_life_22 rfl rfl ?_
    obtain ⟨o5, hyp⟩ := hyp
    obtain ⟨o6, hyp⟩ := hyp
    refine ex_aald (a := (121 + 2 * (x1).toNat)) 22 24 dX9_life_23 rfl (by decide) (ai_of (n := 18) rfl o5 o6 (by decide)) (rxA g2 (ltN (n := 18) o5 o6)) ?_
    refine ex_iload_n 25 dX9_life_24 rfl rfl ?_
    refine s_callSi [vr (121 + 2 * (x1).toNat), vi x2] 28 dX9_life_25 rfl cvX9_176 rfl rfl ⟨Nat.le_of_ble_eq_true rfl, Nat.le_of_ble_eq_true rfl⟩ (Nat.le_of_ble_eq_true rfl) hyp (fun y8 h1 hq => ?_)
    obtain ⟨g7, rfl, hyp⟩ := hq
    refine ex_goto 33 dX9_life_28 (by decide) ?_
    exact ex_iret dX9_life_33 (Or.inl rfl) ⟨_, rfl, _, rfl, hyp⟩
set_option maxRecDepth 4000 in
theorem uX9_wedding {P : Int → GS → Prop} (g0 : GS) (x1 : Int) (x2 : Int) (hyp : MXv mX9_settle [vr 0] g0 (fun g1 => MXi mX2_has [vr 117, vi x1] g1 (fun y3 g2 => rng y3 ∧ (¬ y3 = 0 → (0 ≤ x1 ∧ x1 < 18 ∧ rng x2 ∧ (x2 < 0 → (P (-101) g2)) ∧ (0 ≤ x2 → (MXi mX1_weddings [vr (121 + 2 * (x1).toNat)] g2 (fun y9 g8 => rng y9 ∧ (x2 < y9 → (0 ≤ (g8.1 (121 + 2 * (x1).toNat) 2) + x2 ∧ (g8.1 (121 + 2 * (x1).toNat) 2) + x2 < 5 ∧ P (g8.1 (122 + 2 * (x1).toNat) ((g8.1 (121 + 2 * (x1).toNat) 2) + x2).toNat) g8)) ∧ (y9 ≤ x2 → (P (-101) g8))))))) ∧ (y3 = 0 → (P (-101) g2))))) : MXi mX9_wedding [vr 0, vi x1, vi x2] g0 P := by
  refine met_of_ex (by decide +kernel) (Nat.le_of_ble_eq_true rfl) ?_
  show EX mX9_wedding 0 [some (vr 0), some (vi x1), some (vi x2), none] [] (hX g0) (0, 0) _
  refine ex_aload_n 1 dX9_wedding_0 rfl rfl ?_
  refine s_callVv [] 4 dX9_wedding_1 rfl cvX9_114 rfl rfl ⟨Nat.le_of_ble_eq_true rfl, Nat.le_of_ble_eq_true rfl⟩ (Nat.le_of_ble_eq_true rfl) ⟨_, rfl⟩ hyp (fun h1 hq => ?_)
  obtain ⟨g1, rfl, hyp⟩ := hq
  refine ex_aload_n 5 dX9_wedding_4 rfl rfl ?_
  refine q_getR (a := 117) 9 6 8 dX9_wedding_5 rfl fiX9_54 rfl ⟨_, rfl⟩ rfl ?_
  refine ex_iload_n 9 dX9_wedding_8 rfl rfl ?_
  refine s_callVi [vi x1] 12 dX9_wedding_9 rfl cvX9_171 rfl rfl ⟨Nat.le_of_ble_eq_true rfl, Nat.le_of_ble_eq_true rfl⟩ (Nat.le_of_ble_eq_true rfl) ⟨_, rfl⟩ hyp (fun y3 h1 hq => ?_)
  obtain ⟨g2, rfl, hyp⟩ := hq
  obtain ⟨o4, hyp⟩ := hyp
  obtain ⟨ht, hf⟩ := hyp
  refine ex_if_ne 18 15 dX9_wedding_12 (by decide) rfl o4 (fun c15 => ?_) (fun c15 => ?_)
  · have hyp := ht c15
    clear ht hf
    refine ex_aload_n 19 dX9_wedding_18 rfl rfl ?_
    refine q_getR (a := 117) 9 6 22 dX9_wedding_19 rfl fiX9_54 rfl ⟨_, rfl⟩ rfl ?_
    refine q_getR (a := 118) 2 0 25 dX9_wedding_22 rfl fiX9_172 rfl ⟨_, rfl⟩ rfl ?_
    refine ex_iload_n 26 dX9_wedding_25 rfl rfl ?_
    obtain ⟨o5, hyp⟩ := hyp
    obtain ⟨o6, hyp⟩ := hyp
    refine ex_aald (a := (121 + 2 * (x1).toNat)) 22 27 dX9_wedding_26 rfl (by decide) (ai_of (n := 18) rfl o5 o6 (by decide)) (rxA g2 (ltN (n := 18) o5 o6)) ?_
    refine q_astore_n [some (vr 0), some (vi x1), some (vi x2), some (vr (121 + 2 * (x1).toNat))] 28 dX9_wedding_27 rfl (Nat.le_of_ble_eq_true rfl) rfl rfl ?_
    refine ex_iload_n 29 dX9_wedding_28 rfl rfl ?_
    obtain ⟨o7, hyp⟩ := hyp
    obtain ⟨ht, hf⟩ := hyp
    refine ex_if_lt 40 32 dX9_wedding_29 (by decide) rfl o7 (fun c14 => ?_) (fun c14 => ?_)
    · have hyp := ht c14
      clear ht hf
      refine ex_bipush 42 dX9_wedding_40 rfl ⟨by decide, by decide⟩ ?_
      refine ex_goto 56 dX9_wedding_42 (by decide) ?_
      exact ex_iret dX9_wedding_56 (Or.inl rfl) ⟨_, rfl, _, rfl, hyp⟩
    · have hyp := hf c14
      clear ht hf
      refine ex_iload_n 33 dX9_wedding_32 rfl rfl ?_
      refine ex_aload_n 34 dX9_wedding_33 rfl rfl ?_
      refine s_callVi [] 37 dX9_wedding_34 rfl cvX9_180 rfl rfl ⟨Nat.le_of_ble_eq_true rfl, Nat.le_of_ble_eq_true rfl⟩ (Nat.le_of_ble_eq_true rfl) (obL (ltN (n := 18) o5 o6)) hyp (fun y9 h1 hq => ?_)
      obtain ⟨g8, rfl, hyp⟩ := hq
      obtain ⟨o10, hyp⟩ := hyp
      obtain ⟨ht, hf⟩ := hyp
      refine ex_icmp_lt 45 40 dX9_wedding_37 (by decide) rfl o7 o10 (fun c13 => ?_) (fun c13 => ?_)
      · have hyp := ht c13
        clear ht hf
        refine ex_aload_n 46 dX9_wedding_45 rfl rfl ?_
        refine q_getR (a := (122 + 2 * (x1).toNat)) 1 0 49 dX9_wedding_46 rfl fiX9_185 rfl (obL (ltN (n := 18) o5 o6)) (rxM g8 (ltN (n := 18) o5 o6)) ?_
        refine ex_aload_n 50 dX9_wedding_49 rfl rfl ?_
        refine q_getI 1 2 53 dX9_wedding_50 rfl fiX9_188 (Or.inl rfl) (obL (ltN (n := 18) o5 o6)) ?_
        refine ex_iload_n 54 dX9_wedding_53 rfl rfl ?_
        refine ex_iadd 55 dX9_wedding_54 rfl ?_
        obtain ⟨o11, hyp⟩ := hyp
        obtain ⟨o12, hyp⟩ := hyp
        refine ex_iald 56 dX9_wedding_55 rfl (ai_of (n := 5) (txQ _ (ltN (n := 18) o5 o6)) o11 o12 (by decide)) ?_
        exact ex_iret dX9_wedding_56 (Or.inl rfl) ⟨_, rfl, _, rfl, hyp⟩
      · have hyp := hf c13
        clear ht hf
        refine ex_bipush 42 dX9_wedding_40 rfl ⟨by decide, by decide⟩ ?_
        refine ex_goto 56 dX9_wedding_42 (by decide) ?_
        exact ex_iret dX9_wedding_56 (Or.inl rfl) ⟨_, rfl, _, rfl, hyp⟩
  · have hyp := hf c15
    clear ht hf
    refine ex_bipush 17 dX9_wedding_15 rfl ⟨by decide, by decide⟩ ?_
    exact ex_iret dX9_wedding_17 (Or.inl rfl) ⟨_, rfl, _, rfl, hyp⟩
set_option maxRecDepth 4000 in
theorem uX9_worth {P : Int → GS → Prop} (g0 : GS) (x1 : Int) (x2 : Int) (hyp : MXi mX8_has [vr 8, vi x1] g0 (fun y2 g1 => rng y2 ∧ (y2 = 0 → (P (-101) g1)) ∧ (¬ y2 = 0 → (0 ≤ x1 ∧ x1 < 18 ∧ g1.2.1 (x1).toNat < 18 ∧ rng (g1.1 (11 + 3 * (g1.2.1 (x1).toNat)) 4) ∧ (g1.1 (11 + 3 * (g1.2.1 (x1).toNat)) 4 = 1 → (MXv mX9_settle [vr 0] g1 (fun g8 => MXi mX2_has [vr 117, vi x2] g8 (fun y10 g9 => rng y10 ∧ (y10 = 0 → (P (-101) g9)) ∧ (¬ y10 = 0 → (rng x2 ∧ rng (g9.1 117 3) ∧ (x2 < g9.1 117 3 → (0 ≤ x2 ∧ x2 < 18 ∧ MXi mX6_fitFirst [vr 65, vi x1, vr (122 + 2 * (x2).toNat), vi (g9.1 (121 + 2 * (x2).toNat) 2)] g9 (fun y17 g16 => rng y17 ∧ (y17 = 0 → (P (-1) g16)) ∧ (¬ y17 = 0 → (MXi mX6_meanWorth [vr 65, vi x1, vr (122 + 2 * (x2).toNat), vi (g16.1 (121 + 2 * (x2).toNat) 2)] g16 (fun y20 g19 => P y20 g19)))))) ∧ (g9.1 117 3 ≤ x2 → (P (-101) g9)))))))) ∧ (¬ g1.1 (11 + 3 * (g1.2.1 (x1).toNat)) 4 = 1 → (P (-101) g1)))))) : MXi mX9_worth [vr 0, vi x1, vi x2] g0 P := by
  refine met_of_ex (by decide +kernel) (Nat.le_of_ble_eq_true rfl) ?_
  show EX mX9_worth 0 [some (vr 0), some (vi x1), some (vi x2), none] [] (hX g0) (0, 0) _
  refine ex_aload_n 1 dX9_worth_0 rfl rfl ?_
  refine q_getR (a := 8) 9 3 4 dX9_worth_1 rfl fiX9_33 rfl ⟨_, rfl⟩ rfl ?_
  refine ex_iload_n 5 dX9_worth_4 rfl rfl ?_
  refine s_callVi [vi x1] 8 dX9_worth_5 rfl cvX9_111 rfl rfl ⟨Nat.le_of_ble_eq_true rfl, Nat.le_of_ble_eq_true rfl⟩ (Nat.le_of_ble_eq_true rfl) ⟨_, rfl⟩ hyp (fun y2 h1 hq => ?_)
  obtain ⟨g1, rfl, hyp⟩ := hq
  obtain ⟨o3, hyp⟩ := hyp
  obtain ⟨ht, hf⟩ := hyp
  refine ex_if_eq 27 11 dX9_worth_8 (by decide) rfl o3 (fun c25 => ?_) (fun c25 => ?_)
  · have hyp := ht c25
    clear ht hf
    refine ex_bipush 29 dX9_worth_27 rfl ⟨by decide, by decide⟩ ?_
    exact ex_iret dX9_worth_29 (Or.inl rfl) ⟨_, rfl, _, rfl, hyp⟩
  · have hyp := hf c25
    clear ht hf
    refine ex_aload_n 12 dX9_worth_11 rfl rfl ?_
    refine q_getR (a := 8) 9 3 15 dX9_worth_12 rfl fiX9_33 rfl ⟨_, rfl⟩ rfl ?_
    refine q_getR (a := 9) 8 0 18 dX9_worth_15 rfl fiX9_121 rfl ⟨_, rfl⟩ rfl ?_
    refine ex_iload_n 19 dX9_worth_18 rfl rfl ?_
    obtain ⟨o4, hyp⟩ := hyp
    obtain ⟨o5, hyp⟩ := hyp
    obtain ⟨o6, hyp⟩ := hyp
    refine ex_aald (a := (11 + 3 * (g1.2.1 (x1).toNat))) 21 20 dX9_worth_19 rfl (by decide) (ai_of (n := 18) rfl o4 o5 (by decide)) (rxR g1 (ltN (n := 18) o4 o5)) ?_
    refine q_getI 0 4 23 dX9_worth_20 rfl fiX9_133 (Or.inl rfl) (obE o6) ?_
    refine ex_iconst 24 dX9_worth_23 rfl ?_
    obtain ⟨o7, hyp⟩ := hyp
    obtain ⟨ht, hf⟩ := hyp
    refine ex_icmp_eq 30 27 dX9_worth_24 (by decide) rfl o7 ⟨by decide, by decide⟩ (fun c24 => ?_) (fun c24 => ?_)
    · have hyp := ht c24
      clear ht hf
      refine ex_aload_n 31 dX9_worth_30 rfl rfl ?_
      refine s_callVv [] 34 dX9_worth_31 rfl cvX9_114 rfl rfl ⟨Nat.le_of_ble_eq_true rfl, Nat.le_of_ble_eq_true rfl⟩ (Nat.le_of_ble_eq_true rfl) ⟨_, rfl⟩ hyp (fun h1 hq => ?_)
      obtain ⟨g8, rfl, hyp⟩ := hq
      refine ex_aload_n 35 dX9_worth_34 rfl rfl ?_
      refine q_getR (a := 117) 9 6 38 dX9_worth_35 rfl fiX9_54 rfl ⟨_, rfl⟩ rfl ?_
      refine ex_iload_n 39 dX9_worth_38 rfl rfl ?_
      refine s_callVi [vi x2] 42 dX9_worth_39 rfl cvX9_171 rfl rfl ⟨Nat.le_of_ble_eq_true rfl, Nat.le_of_ble_eq_true rfl⟩ (Nat.le_of_ble_eq_true rfl) ⟨_, rfl⟩ hyp (fun y10 h1 hq => ?_)
      obtain ⟨g9, rfl, hyp⟩ := hq
      obtain ⟨o11, hyp⟩ := hyp
      obtain ⟨ht, hf⟩ := hyp
      refine ex_if_eq 56 45 dX9_worth_42 (by decide) rfl o11 (fun c23 => ?_) (fun c23 => ?_)
      · have hyp := ht c23
        clear ht hf
        refine ex_bipush 58 dX9_worth_56 rfl ⟨by decide, by decide⟩ ?_
        exact ex_iret dX9_worth_58 (Or.inl rfl) ⟨_, rfl, _, rfl, hyp⟩
      · have hyp := hf c23
        clear ht hf
        refine ex_iload_n 46 dX9_worth_45 rfl rfl ?_
        refine ex_aload_n 47 dX9_worth_46 rfl rfl ?_
        refine q_getR (a := 117) 9 6 50 dX9_worth_47 rfl fiX9_54 rfl ⟨_, rfl⟩ rfl ?_
        refine q_getI 2 3 53 dX9_worth_50 rfl fiX9_191 (Or.inl rfl) ⟨_, rfl⟩ ?_
        obtain ⟨o12, hyp⟩ := hyp
        obtain ⟨o13, hyp⟩ := hyp
        obtain ⟨ht, hf⟩ := hyp
        refine ex_icmp_lt 59 56 dX9_worth_53 (by decide) rfl o12 o13 (fun c22 => ?_) (fun c22 => ?_)
        · have hyp := ht c22
          clear ht hf
          refine ex_aload_n 60 dX9_worth_59 rfl rfl ?_
          refine q_getR (a := 117) 9 6 63 dX9_worth_60 rfl fiX9_54 rfl ⟨_, rfl⟩ rfl ?_
          refine q_getR (a := 118) 2 0 66 dX9_worth_63 rfl fiX9_172 rfl ⟨_, rfl⟩ rfl ?_
          refine ex_iload_n 67 dX9_worth_66 rfl rfl ?_
          obtain ⟨o14, hyp⟩ := hyp
          obtain ⟨o15, hyp⟩ := hyp
          refine ex_aald (a := (121 + 2 * (x2).toNat)) 22 68 dX9_worth_67 rfl (by decide) (ai_of (n := 18) rfl o14 o15 (by decide)) (rxA g9 (ltN (n := 18) o14 o15)) ?_
          refine q_astore_n [some (vr 0), some (vi x1), some (vi x2), some (vr (121 + 2 * (x2).toNat))] 69 dX9_worth_68 rfl (Nat.le_of_ble_eq_true rfl) rfl rfl ?_
          refine ex_aload_n 70 dX9_worth_69 rfl rfl ?_
          refine q_getR (a := 65) 9 4 73 dX9_worth_70 rfl fiX9_40 rfl ⟨_, rfl⟩ rfl ?_
          refine ex_iload_n 74 dX9_worth_73 rfl rfl ?_
          refine ex_aload_n 75 dX9_worth_74 rfl rfl ?_
          refine q_getR (a := (122 + 2 * (x2).toNat)) 1 0 78 dX9_worth_75 rfl fiX9_185 rfl (obL (ltN (n := 18) o14 o15)) (rxM g9 (ltN (n := 18) o14 o15)) ?_
          refine ex_aload_n 79 dX9_worth_78 rfl rfl ?_
          refine q_getI 1 2 82 dX9_worth_79 rfl fiX9_188 (Or.inl rfl) (obL (ltN (n := 18) o14 o15)) ?_
          refine s_callVi [vi x1, vr (122 + 2 * (x2).toNat), vi (g9.1 (121 + 2 * (x2).toNat) 2)] 85 dX9_worth_82 rfl cvX9_194 rfl rfl ⟨Nat.le_of_ble_eq_true rfl, Nat.le_of_ble_eq_true rfl⟩ (Nat.le_of_ble_eq_true rfl) ⟨_, rfl⟩ hyp (fun y17 h1 hq => ?_)
          obtain ⟨g16, rfl, hyp⟩ := hq
          obtain ⟨o18, hyp⟩ := hyp
          obtain ⟨ht, hf⟩ := hyp
          refine ex_if_eq 107 88 dX9_worth_85 (by decide) rfl o18 (fun c21 => ?_) (fun c21 => ?_)
          · have hyp := ht c21
            clear ht hf
            refine ex_iconst 108 dX9_worth_107 rfl ?_
            exact ex_iret dX9_worth_108 (Or.inl rfl) ⟨_, rfl, _, rfl, hyp⟩
          · have hyp := hf c21
            clear ht hf
            refine ex_aload_n 89 dX9_worth_88 rfl rfl ?_
            refine q_getR (a := 65) 9 4 92 dX9_worth_89 rfl fiX9_40 rfl ⟨_, rfl⟩ rfl ?_
            refine ex_iload_n 93 dX9_worth_92 rfl rfl ?_
            refine ex_aload_n 94 dX9_worth_93 rfl rfl ?_
            refine q_getR (a := (122 + 2 * (x2).toNat)) 1 0 97 dX9_worth_94 rfl fiX9_185 rfl (obL (ltN (n := 18) o14 o15)) (rxM g16 (ltN (n := 18) o14 o15)) ?_
            refine ex_aload_n 98 dX9_worth_97 rfl rfl ?_
            refine q_getI 1 2 101 dX9_worth_98 rfl fiX9_188 (Or.inl rfl) (obL (ltN (n := 18) o14 o15)) ?_
            refine s_callVi [vi x1, vr (122 + 2 * (x2).toNat), vi (g16.1 (121 + 2 * (x2).toNat) 2)] 104 dX9_worth_101 rfl cvX9_198 rfl rfl ⟨Nat.le_of_ble_eq_true rfl, Nat.le_of_ble_eq_true rfl⟩ (Nat.le_of_ble_eq_true rfl) ⟨_, rfl⟩ hyp (fun y20 h1 hq => ?_)
            obtain ⟨g19, rfl, hyp⟩ := hq
            refine ex_goto 108 dX9_worth_104 (by decide) ?_
            exact ex_iret dX9_worth_108 (Or.inl rfl) ⟨_, rfl, _, rfl, hyp⟩
        · have hyp := hf c22
          clear ht hf
          refine ex_bipush 58 dX9_worth_56 rfl ⟨by decide, by decide⟩ ?_
          exact ex_iret dX9_worth_58 (Or.inl rfl) ⟨_, rfl, _, rfl, hyp⟩
    · have hyp := hf c24
      clear ht hf
      refine ex_bipush 29 dX9_worth_27 rfl ⟨by decide, by decide⟩ ?_
      exact ex_iret dX9_worth_29 (Or.inl rfl) ⟨_, rfl, _, rfl, hyp⟩
set_option maxRecDepth 4000 in
theorem uX9_mate {P : Int → GS → Prop} (g0 : GS) (x1 : Int) (hyp : MXi mX8_has [vr 8, vi x1] g0 (fun y2 g1 => rng y2 ∧ (y2 = 0 → (P (-101) g1)) ∧ (¬ y2 = 0 → (0 ≤ x1 ∧ x1 < 18 ∧ g1.2.1 (x1).toNat < 18 ∧ rng (g1.1 (11 + 3 * (g1.2.1 (x1).toNat)) 4) ∧ (¬ g1.1 (11 + 3 * (g1.2.1 (x1).toNat)) 4 = 1 → (MXv mX9_settle [vr 0] g1 (fun g8 => P (g8.1 105 (x1).toNat) g8))) ∧ (g1.1 (11 + 3 * (g1.2.1 (x1).toNat)) 4 = 1 → (P (-101) g1)))))) : MXi mX9_mate [vr 0, vi x1] g0 P := by
  refine met_of_ex (by decide +kernel) (Nat.le_of_ble_eq_true rfl) ?_
  show EX mX9_mate 0 [some (vr 0), some (vi x1)] [] (hX g0) (0, 0) _
  refine ex_aload_n 1 dX9_mate_0 rfl rfl ?_
  refine q_getR (a := 8) 9 3 4 dX9_mate_1 rfl fiX9_33 rfl ⟨_, rfl⟩ rfl ?_
  refine ex_iload_n 5 dX9_mate_4 rfl rfl ?_
  refine s_callVi [vi x1] 8 dX9_mate_5 rfl cvX9_111 rfl rfl ⟨Nat.le_of_ble_eq_true rfl, Nat.le_of_ble_eq_true rfl⟩ (Nat.le_of_ble_eq_true rfl) ⟨_, rfl⟩ hyp (fun y2 h1 hq => ?_)
  obtain ⟨g1, rfl, hyp⟩ := hq
  obtain ⟨o3, hyp⟩ := hyp
  obtain ⟨ht, hf⟩ := hyp
  refine ex_if_eq 27 11 dX9_mate_8 (by decide) rfl o3 (fun c10 => ?_) (fun c10 => ?_)
  · have hyp := ht c10
    clear ht hf
    refine ex_bipush 29 dX9_mate_27 rfl ⟨by decide, by decide⟩ ?_
    exact ex_iret dX9_mate_29 (Or.inl rfl) ⟨_, rfl, _, rfl, hyp⟩
  · have hyp := hf c10
    clear ht hf
    refine ex_aload_n 12 dX9_mate_11 rfl rfl ?_
    refine q_getR (a := 8) 9 3 15 dX9_mate_12 rfl fiX9_33 rfl ⟨_, rfl⟩ rfl ?_
    refine q_getR (a := 9) 8 0 18 dX9_mate_15 rfl fiX9_121 rfl ⟨_, rfl⟩ rfl ?_
    refine ex_iload_n 19 dX9_mate_18 rfl rfl ?_
    obtain ⟨o4, hyp⟩ := hyp
    obtain ⟨o5, hyp⟩ := hyp
    obtain ⟨o6, hyp⟩ := hyp
    refine ex_aald (a := (11 + 3 * (g1.2.1 (x1).toNat))) 21 20 dX9_mate_19 rfl (by decide) (ai_of (n := 18) rfl o4 o5 (by decide)) (rxR g1 (ltN (n := 18) o4 o5)) ?_
    refine q_getI 0 4 23 dX9_mate_20 rfl fiX9_133 (Or.inl rfl) (obE o6) ?_
    refine ex_iconst 24 dX9_mate_23 rfl ?_
    obtain ⟨o7, hyp⟩ := hyp
    obtain ⟨ht, hf⟩ := hyp
    refine ex_icmp_ne 30 27 dX9_mate_24 (by decide) rfl o7 ⟨by decide, by decide⟩ (fun c9 => ?_) (fun c9 => ?_)
    · have hyp := ht c9
      clear ht hf
      refine ex_aload_n 31 dX9_mate_30 rfl rfl ?_
      refine s_callVv [] 34 dX9_mate_31 rfl cvX9_114 rfl rfl ⟨Nat.le_of_ble_eq_true rfl, Nat.le_of_ble_eq_true rfl⟩ (Nat.le_of_ble_eq_true rfl) ⟨_, rfl⟩ hyp (fun h1 hq => ?_)
      obtain ⟨g8, rfl, hyp⟩ := hq
      refine ex_aload_n 35 dX9_mate_34 rfl rfl ?_
      refine q_getR (a := 104) 9 5 38 dX9_mate_35 rfl fiX9_47 rfl ⟨_, rfl⟩ rfl ?_
      refine q_getR (a := 105) 3 0 41 dX9_mate_38 rfl fiX9_202 rfl ⟨_, rfl⟩ rfl ?_
      refine ex_iload_n 42 dX9_mate_41 rfl rfl ?_
      refine ex_iald 43 dX9_mate_42 rfl (ai_of (n := 18) rfl o4 o5 (by decide)) ?_
      exact ex_iret dX9_mate_43 (Or.inl rfl) ⟨_, rfl, _, rfl, hyp⟩
    · have hyp := hf c9
      clear ht hf
      refine ex_bipush 29 dX9_mate_27 rfl ⟨by decide, by decide⟩ ?_
      exact ex_iret dX9_mate_29 (Or.inl rfl) ⟨_, rfl, _, rfl, hyp⟩
set_option maxRecDepth 4000 in
theorem uX9_count {P : Int → GS → Prop} (g0 : GS) (x1 : Int) (hyp : rng x1 ∧ (x1 < 0 ∨ 7 < x1 → (P (-102) g0)) ∧ (x1 = 0 → (P (g0.1 8 2) g0)) ∧ (x1 = 1 → (P (g0.1 10 (0 : Int).toNat) g0)) ∧ (x1 = 2 → (P (g0.1 10 (1 : Int).toNat) g0)) ∧ (x1 = 3 → (P (g0.1 10 (2 : Int).toNat) g0)) ∧ (x1 = 4 → (P (g0.1 1 1) g0)) ∧ (x1 = 5 → (P (g0.1 0 10) g0)) ∧ (x1 = 6 → (P (g0.1 8 3) g0)) ∧ (x1 = 7 → (MXi mX8_countParted [vr 8] g0 (fun y3 g2 => P y3 g2)))) : MXi mX9_count [vr 0, vi x1] g0 P := by
  refine met_of_ex (by decide +kernel) (Nat.le_of_ble_eq_true rfl) ?_
  show EX mX9_count 0 [some (vr 0), some (vi x1)] [] (hX g0) (0, 0) _
  refine ex_iload_n 1 dX9_count_0 rfl rfl ?_
  obtain ⟨o1, hyp⟩ := hyp
  obtain ⟨hd, hv0, hv1, hv2, hv3, hv4, hv5, hv6, hv7⟩ := hyp
  rcases (show (x1 < 0 ∨ 7 < x1) ∨ x1 = 0 ∨ x1 = 1 ∨ x1 = 2 ∨ x1 = 3 ∨ x1 = 4 ∨ x1 = 5 ∨ x1 = 6 ∨ x1 = 7 by omega) with c | c | c | c | c | c | c | c | c
  · refine ex_tswOut 115 dX9_count_1 o1 c (by decide) ?_
    have hyp := hd c
    refine ex_bipush 117 dX9_count_115 rfl ⟨by decide, by decide⟩ ?_
    exact ex_iret dX9_count_117 (Or.inl rfl) ⟨_, rfl, _, rfl, hyp⟩
  · refine ex_tswIn 0 48 dX9_count_1 c ⟨by decide, by decide⟩ (by decide) (by decide) rfl (by decide) ?_
    have hyp := hv0 c
    refine ex_aload_n 49 dX9_count_48 rfl rfl ?_
    refine q_getR (a := 8) 9 3 52 dX9_count_49 rfl fiX9_33 rfl ⟨_, rfl⟩ rfl ?_
    refine q_getI 8 2 55 dX9_count_52 rfl fiX9_142 (Or.inl rfl) ⟨_, rfl⟩ ?_
    exact ex_iret dX9_count_55 (Or.inl rfl) ⟨_, rfl, _, rfl, hyp⟩
  · refine ex_tswIn 1 56 dX9_count_1 c ⟨by decide, by decide⟩ (by decide) (by decide) rfl (by decide) ?_
    have hyp := hv1 c
    refine ex_aload_n 57 dX9_count_56 rfl rfl ?_
    refine q_getR (a := 8) 9 3 60 dX9_count_57 rfl fiX9_33 rfl ⟨_, rfl⟩ rfl ?_
    refine q_getR (a := 10) 8 1 63 dX9_count_60 rfl fiX9_205 rfl ⟨_, rfl⟩ rfl ?_
    refine ex_iconst 64 dX9_count_63 rfl ?_
    refine ex_iald 65 dX9_count_64 rfl (ai_of (n := 3) rfl (by decide) (by decide) (by decide)) ?_
    exact ex_iret dX9_count_65 (Or.inl rfl) ⟨_, rfl, _, rfl, hyp⟩
  · refine ex_tswIn 2 66 dX9_count_1 c ⟨by decide, by decide⟩ (by decide) (by decide) rfl (by decide) ?_
    have hyp := hv2 c
    refine ex_aload_n 67 dX9_count_66 rfl rfl ?_
    refine q_getR (a := 8) 9 3 70 dX9_count_67 rfl fiX9_33 rfl ⟨_, rfl⟩ rfl ?_
    refine q_getR (a := 10) 8 1 73 dX9_count_70 rfl fiX9_205 rfl ⟨_, rfl⟩ rfl ?_
    refine ex_iconst 74 dX9_count_73 rfl ?_
    refine ex_iald 75 dX9_count_74 rfl (ai_of (n := 3) rfl (by decide) (by decide) (by decide)) ?_
    exact ex_iret dX9_count_75 (Or.inl rfl) ⟨_, rfl, _, rfl, hyp⟩
  · refine ex_tswIn 3 76 dX9_count_1 c ⟨by decide, by decide⟩ (by decide) (by decide) rfl (by decide) ?_
    have hyp := hv3 c
    refine ex_aload_n 77 dX9_count_76 rfl rfl ?_
    refine q_getR (a := 8) 9 3 80 dX9_count_77 rfl fiX9_33 rfl ⟨_, rfl⟩ rfl ?_
    refine q_getR (a := 10) 8 1 83 dX9_count_80 rfl fiX9_205 rfl ⟨_, rfl⟩ rfl ?_
    refine ex_iconst 84 dX9_count_83 rfl ?_
    refine ex_iald 85 dX9_count_84 rfl (ai_of (n := 3) rfl (by decide) (by decide) (by decide)) ?_
    exact ex_iret dX9_count_85 (Or.inl rfl) ⟨_, rfl, _, rfl, hyp⟩
  · refine ex_tswIn 4 86 dX9_count_1 c ⟨by decide, by decide⟩ (by decide) (by decide) rfl (by decide) ?_
    have hyp := hv4 c
    refine ex_aload_n 87 dX9_count_86 rfl rfl ?_
    refine q_getR (a := 1) 9 0 90 dX9_count_87 rfl fiX9_10 rfl ⟨_, rfl⟩ rfl ?_
    refine q_getI 5 1 93 dX9_count_90 rfl fiX9_72 (Or.inl rfl) ⟨_, rfl⟩ ?_
    exact ex_iret dX9_count_93 (Or.inl rfl) ⟨_, rfl, _, rfl, hyp⟩
  · refine ex_tswIn 5 94 dX9_count_1 c ⟨by decide, by decide⟩ (by decide) (by decide) rfl (by decide) ?_
    have hyp := hv5 c
    refine ex_aload_n 95 dX9_count_94 rfl rfl ?_
    refine q_getI 9 10 98 dX9_count_95 rfl fiX9_108 (Or.inl rfl) ⟨_, rfl⟩ ?_
    exact ex_iret dX9_count_98 (Or.inl rfl) ⟨_, rfl, _, rfl, hyp⟩
  · refine ex_tswIn 6 99 dX9_count_1 c ⟨by decide, by decide⟩ (by decide) (by decide) rfl (by decide) ?_
    have hyp := hv6 c
    refine ex_aload_n 100 dX9_count_99 rfl rfl ?_
    refine q_getR (a := 8) 9 3 103 dX9_count_100 rfl fiX9_33 rfl ⟨_, rfl⟩ rfl ?_
    refine q_getI 8 3 106 dX9_count_103 rfl fiX9_208 (Or.inl rfl) ⟨_, rfl⟩ ?_
    exact ex_iret dX9_count_106 (Or.inl rfl) ⟨_, rfl, _, rfl, hyp⟩
  · refine ex_tswIn 7 107 dX9_count_1 c ⟨by decide, by decide⟩ (by decide) (by decide) rfl (by decide) ?_
    have hyp := hv7 c
    refine ex_aload_n 108 dX9_count_107 rfl rfl ?_
    refine q_getR (a := 8) 9 3 111 dX9_count_108 rfl fiX9_33 rfl ⟨_, rfl⟩ rfl ?_
    refine s_callVi [] 114 dX9_count_111 rfl cvX9_211 rfl rfl ⟨Nat.le_of_ble_eq_true rfl, Nat.le_of_ble_eq_true rfl⟩ (Nat.le_of_ble_eq_true rfl) ⟨_, rfl⟩ hyp (fun y3 h1 hq => ?_)
    obtain ⟨g2, rfl, hyp⟩ := hq
    exact ex_iret dX9_count_114 (Or.inl rfl) ⟨_, rfl, _, rfl, hyp⟩
set_option maxRecDepth 4000 in
theorem uX9_digest {P : Int → GS → Prop} (g0 : GS)  (hyp : MXv mX9_settle [vr 0] g0 (fun g1 => MXl mX9_mixEntries [vr 0, vl 1567] g1 (fun y3 g2 => MXl mX9_mixTwos [vr 0, vl y3] g2 (fun y5 g4 => MXl mX9_mixLives [vr 0, vl y5] g4 (fun y7 g6 => XXl mX9_digest 26 [some (vr 0), some (vl y7), none, some (vi 0)] [] g6 P))))) : MXl mX9_digest [vr 0] g0 P := by
  refine met_of_ex (by decide +kernel) (Nat.le_of_ble_eq_true rfl) ?_
  show EX mX9_digest 0 [some (vr 0), none, none, none] [] (hX g0) (0, 0) _
  refine ex_aload_n 1 dX9_digest_0 rfl rfl ?_
  refine s_callVv [] 4 dX9_digest_1 rfl cvX9_114 rfl rfl ⟨Nat.le_of_ble_eq_true rfl, Nat.le_of_ble_eq_true rfl⟩ (Nat.le_of_ble_eq_true rfl) ⟨_, rfl⟩ hyp (fun h1 hq => ?_)
  obtain ⟨g1, rfl, hyp⟩ := hq
  refine ex_aload_n 5 dX9_digest_4 rfl rfl ?_
  refine ex_ldc2 (n := 1567) 8 dX9_digest_5 rfl (wt4 67 rfl rfl) ?_
  refine s_callVl [vl 1567] 11 dX9_digest_8 rfl cvX9_216 rfl rfl ⟨Nat.le_of_ble_eq_true rfl, Nat.le_of_ble_eq_true rfl⟩ (Nat.le_of_ble_eq_true rfl) ⟨_, rfl⟩ hyp (fun y3 h1 hq => ?_)
  obtain ⟨g2, rfl, hyp⟩ := hq
  refine q_lstore_n [some (vr 0), some (vl y3), none, none] 12 dX9_digest_11 rfl (Nat.le_of_ble_eq_true rfl) rfl rfl ?_
  refine ex_aload_n 13 dX9_digest_12 rfl rfl ?_
  refine ex_lload_n 14 dX9_digest_13 rfl rfl ?_
  refine s_callVl [vl y3] 17 dX9_digest_14 rfl cvX9_220 rfl rfl ⟨Nat.le_of_ble_eq_true rfl, Nat.le_of_ble_eq_true rfl⟩ (Nat.le_of_ble_eq_true rfl) ⟨_, rfl⟩ hyp (fun y5 h1 hq => ?_)
  obtain ⟨g4, rfl, hyp⟩ := hq
  refine q_lstore_n [some (vr 0), some (vl y5), none, none] 18 dX9_digest_17 rfl (Nat.le_of_ble_eq_true rfl) rfl rfl ?_
  refine ex_aload_n 19 dX9_digest_18 rfl rfl ?_
  refine ex_lload_n 20 dX9_digest_19 rfl rfl ?_
  refine s_callVl [vl y5] 23 dX9_digest_20 rfl cvX9_223 rfl rfl ⟨Nat.le_of_ble_eq_true rfl, Nat.le_of_ble_eq_true rfl⟩ (Nat.le_of_ble_eq_true rfl) ⟨_, rfl⟩ hyp (fun y7 h1 hq => ?_)
  obtain ⟨g6, rfl, hyp⟩ := hq
  refine q_lstore_n [some (vr 0), some (vl y7), none, none] 24 dX9_digest_23 rfl (Nat.le_of_ble_eq_true rfl) rfl rfl ?_
  refine ex_iconst 25 dX9_digest_24 rfl ?_
  refine q_istore_n [some (vr 0), some (vl y7), none, some (vi 0)] 26 dX9_digest_25 rfl (Nat.le_of_ble_eq_true rfl) rfl rfl ?_
  exact hyp
set_option maxRecDepth 4000 in
theorem uX9_digest_26 {P : Int → GS → Prop} (g0 : GS) (x1 : Int) (x3 : Int) (hyp : rng x3 ∧ rng (g0.1 1 1) ∧ (g0.1 1 1 ≤ x3 → (XXl mX9_digest 60 [some (vr 0), some (vl x1), none, some (vi 0)] [] g0 P)) ∧ (x3 < g0.1 1 1 → (0 ≤ x3 ∧ x3 < 60 ∧ rng (g0.1 2 (x3).toNat) ∧ MXl mX9_mixed [vl x1, vl (g0.1 2 (x3).toNat)] g0 (fun y7 g6 => XXl mX9_digest 26 [some (vr 0), some (vl y7), none, some (vi (x3 + 1))] [] g6 P)))) : XXl mX9_digest 26 [some (vr 0), some (vl x1), none, some (vi x3)] [] g0 P := by
  refine ex_iload_n 27 dX9_digest_26 rfl rfl ?_
  refine ex_aload_n 28 dX9_digest_27 rfl rfl ?_
  refine q_getR (a := 1) 9 0 31 dX9_digest_28 rfl fiX9_10 rfl ⟨_, rfl⟩ rfl ?_
  refine q_getI 5 1 34 dX9_digest_31 rfl fiX9_72 (Or.inl rfl) ⟨_, rfl⟩ ?_
  obtain ⟨o1, hyp⟩ := hyp
  obtain ⟨o2, hyp⟩ := hyp
  obtain ⟨ht, hf⟩ := hyp
  refine ex_icmp_ge 58 37 dX9_digest_34 (by decide) rfl o1 o2 (fun c8 => ?_) (fun c8 => ?_)
  · have hyp := ht c8
    clear ht hf
    refine ex_iconst 59 dX9_digest_58 rfl ?_
    refine q_istore_n [some (vr 0), some (vl x1), none, some (vi 0)] 60 dX9_digest_59 rfl (Nat.le_of_ble_eq_true rfl) rfl rfl ?_
    exact hyp
  · have hyp := hf c8
    clear ht hf
    refine ex_lload_n 38 dX9_digest_37 rfl rfl ?_
    refine ex_aload_n 39 dX9_digest_38 rfl rfl ?_
    refine q_getR (a := 1) 9 0 42 dX9_digest_39 rfl fiX9_10 rfl ⟨_, rfl⟩ rfl ?_
    refine q_getR (a := 2) 5 0 45 dX9_digest_42 rfl fiX9_82 rfl ⟨_, rfl⟩ rfl ?_
    refine ex_iload_n 46 dX9_digest_45 rfl rfl ?_
    obtain ⟨o3, hyp⟩ := hyp
    obtain ⟨o4, hyp⟩ := hyp
    refine ex_iald 47 dX9_digest_46 rfl (ai_of (n := 60) rfl o3 o4 (by decide)) ?_
    obtain ⟨o5, hyp⟩ := hyp
    refine ex_i2l 48 dX9_digest_47 rfl o5 ?_
    refine s_callSl [vl x1, vl (g0.1 2 (x3).toNat)] 51 dX9_digest_48 rfl cvX9_226 rfl rfl ⟨Nat.le_of_ble_eq_true rfl, Nat.le_of_ble_eq_true rfl⟩ (Nat.le_of_ble_eq_true rfl) hyp (fun y7 h1 hq => ?_)
    obtain ⟨g6, rfl, hyp⟩ := hq
    refine q_lstore_n [some (vr 0), some (vl y7), none, some (vi x3)] 52 dX9_digest_51 rfl (Nat.le_of_ble_eq_true rfl) rfl rfl ?_
    refine q_iinc [some (vr 0), some (vl y7), none, some (vi (x3 + 1))] 55 dX9_digest_52 rfl rfl (Nat.le_of_ble_eq_true rfl) rfl rfl ?_
    refine ex_goto 26 dX9_digest_55 (by decide) ?_
    exact hyp
set_option maxRecDepth 4000 in
theorem uX9_digest_60 {P : Int → GS → Prop} (g0 : GS) (x1 : Int) (x3 : Int) (hyp : rng x3 ∧ (7 < x3 → (P x1 g0)) ∧ (x3 ≤ 7 → (MXi mX9_count [vr 0, vi x3] g0 (fun y3 g2 => rng y3 ∧ MXl mX9_mixed [vl x1, vl y3] g2 (fun y6 g5 => XXl mX9_digest 60 [some (vr 0), some (vl y6), none, some (vi (x3 + 1))] [] g5 P))))) : XXl mX9_digest 60 [some (vr 0), some (vl x1), none, some (vi x3)] [] g0 P := by
  refine ex_iload_n 61 dX9_digest_60 rfl rfl ?_
  refine ex_bipush 63 dX9_digest_61 rfl ⟨by decide, by decide⟩ ?_
  obtain ⟨o1, hyp⟩ := hyp
  obtain ⟨ht, hf⟩ := hyp
  refine ex_icmp_gt 83 66 dX9_digest_63 (by decide) rfl o1 ⟨by decide, by decide⟩ (fun c7 => ?_) (fun c7 => ?_)
  · have hyp := ht c7
    clear ht hf
    refine ex_lload_n 84 dX9_digest_83 rfl rfl ?_
    exact ex_lret dX9_digest_84 rfl ⟨_, rfl, _, rfl, hyp⟩
  · have hyp := hf c7
    clear ht hf
    refine ex_lload_n 67 dX9_digest_66 rfl rfl ?_
    refine ex_aload_n 68 dX9_digest_67 rfl rfl ?_
    refine ex_iload_n 69 dX9_digest_68 rfl rfl ?_
    refine s_callVi [vi x3] 72 dX9_digest_69 rfl cvX9_230 rfl rfl ⟨Nat.le_of_ble_eq_true rfl, Nat.le_of_ble_eq_true rfl⟩ (Nat.le_of_ble_eq_true rfl) ⟨_, rfl⟩ hyp (fun y3 h1 hq => ?_)
    obtain ⟨g2, rfl, hyp⟩ := hq
    obtain ⟨o4, hyp⟩ := hyp
    refine ex_i2l 73 dX9_digest_72 rfl o4 ?_
    refine s_callSl [vl x1, vl y3] 76 dX9_digest_73 rfl cvX9_226 rfl rfl ⟨Nat.le_of_ble_eq_true rfl, Nat.le_of_ble_eq_true rfl⟩ (Nat.le_of_ble_eq_true rfl) hyp (fun y6 h1 hq => ?_)
    obtain ⟨g5, rfl, hyp⟩ := hq
    refine q_lstore_n [some (vr 0), some (vl y6), none, some (vi x3)] 77 dX9_digest_76 rfl (Nat.le_of_ble_eq_true rfl) rfl rfl ?_
    refine q_iinc [some (vr 0), some (vl y6), none, some (vi (x3 + 1))] 80 dX9_digest_77 rfl rfl (Nat.le_of_ble_eq_true rfl) rfl rfl ?_
    refine ex_goto 60 dX9_digest_80 (by decide) ?_
    exact hyp
set_option maxRecDepth 4000 in
theorem uX9_leastAge {P : Int → GS → Prop} (g0 : GS) (x0 : Int) (hyp : rng x0 ∧ (¬ x0 = 1 → (P 0 g0)) ∧ (x0 = 1 → (P 14 g0))) : MXi mX9_leastAge [vi x0] g0 P := by
  refine met_of_ex (by decide +kernel) (Nat.le_of_ble_eq_true rfl) ?_
  show EX mX9_leastAge 0 [some (vi x0)] [] (hX g0) (0, 0) _
  refine ex_iload_n 1 dX9_leastAge_0 rfl rfl ?_
  refine ex_iconst 2 dX9_leastAge_1 rfl ?_
  obtain ⟨o1, hyp⟩ := hyp
  obtain ⟨ht, hf⟩ := hyp
  refine ex_icmp_ne 10 5 dX9_leastAge_2 (by decide) rfl o1 ⟨by decide, by decide⟩ (fun c2 => ?_) (fun c2 => ?_)
  · have hyp := ht c2
    clear ht hf
    refine ex_iconst 11 dX9_leastAge_10 rfl ?_
    exact ex_iret dX9_leastAge_11 (Or.inl rfl) ⟨_, rfl, _, rfl, hyp⟩
  · have hyp := hf c2
    clear ht hf
    refine ex_bipush 7 dX9_leastAge_5 rfl ⟨by decide, by decide⟩ ?_
    refine ex_goto 11 dX9_leastAge_7 (by decide) ?_
    exact ex_iret dX9_leastAge_11 (Or.inl rfl) ⟨_, rfl, _, rfl, hyp⟩
set_option maxRecDepth 4000 in
theorem uX9_mayHaveAge {P : Int → GS → Prop} (g0 : GS) (x0 : Int) (x1 : Int) (hyp : rng x0 ∧ (x0 = 0 → (P 0 g0)) ∧ (¬ x0 = 0 → (MXi mX9_leastAge [vi x0] g0 (fun y3 g2 => rng x1 ∧ rng y3 ∧ (x1 < y3 → (P 0 g2)) ∧ (y3 ≤ x1 → ((99 < x1 → (P 0 g2)) ∧ (x1 ≤ 99 → (P 1 g2)))))))) : MXi mX9_mayHaveAge [vi x0, vi x1] g0 P := by
  refine met_of_ex (by decide +kernel) (Nat.le_of_ble_eq_true rfl) ?_
  show EX mX9_mayHaveAge 0 [some (vi x0), some (vi x1)] [] (hX g0) (0, 0) _
  refine ex_iload_n 1 dX9_mayHaveAge_0 rfl rfl ?_
  obtain ⟨o1, hyp⟩ := hyp
  obtain ⟨ht, hf⟩ := hyp
  refine ex_if_eq 22 4 dX9_mayHaveAge_1 (by decide) rfl o1 (fun c8 => ?_) (fun c8 => ?_)
  · have hyp := ht c8
    clear ht hf
    refine ex_iconst 23 dX9_mayHaveAge_22 rfl ?_
    exact ex_iret dX9_mayHaveAge_23 (Or.inr ⟨rfl, Or.inl rfl⟩) ⟨_, rfl, _, rfl, hyp⟩
  · have hyp := hf c8
    clear ht hf
    refine ex_iload_n 5 dX9_mayHaveAge_4 rfl rfl ?_
    refine ex_iload_n 6 dX9_mayHaveAge_5 rfl rfl ?_
    refine s_callSi [vi x0] 9 dX9_mayHaveAge_6 rfl cvX9_233 rfl rfl ⟨Nat.le_of_ble_eq_true rfl, Nat.le_of_ble_eq_true rfl⟩ (Nat.le_of_ble_eq_true rfl) hyp (fun y3 h1 hq => ?_)
    obtain ⟨g2, rfl, hyp⟩ := hq
    obtain ⟨o4, hyp⟩ := hyp
    obtain ⟨o5, hyp⟩ := hyp
    obtain ⟨ht, hf⟩ := hyp
    refine ex_icmp_lt 22 12 dX9_mayHaveAge_9 (by decide) rfl o4 o5 (fun c7 => ?_) (fun c7 => ?_)
    · have hyp := ht c7
      clear ht hf
      refine ex_iconst 23 dX9_mayHaveAge_22 rfl ?_
      exact ex_iret dX9_mayHaveAge_23 (Or.inr ⟨rfl, Or.inl rfl⟩) ⟨_, rfl, _, rfl, hyp⟩
    · have hyp := hf c7
      clear ht hf
      refine ex_iload_n 13 dX9_mayHaveAge_12 rfl rfl ?_
      refine ex_bipush 15 dX9_mayHaveAge_13 rfl ⟨by decide, by decide⟩ ?_
      obtain ⟨ht, hf⟩ := hyp
      refine ex_icmp_gt 22 18 dX9_mayHaveAge_15 (by decide) rfl o4 ⟨by decide, by decide⟩ (fun c6 => ?_) (fun c6 => ?_)
      · have hyp := ht c6
        clear ht hf
        refine ex_iconst 23 dX9_mayHaveAge_22 rfl ?_
        exact ex_iret dX9_mayHaveAge_23 (Or.inr ⟨rfl, Or.inl rfl⟩) ⟨_, rfl, _, rfl, hyp⟩
      · have hyp := hf c6
        clear ht hf
        refine ex_iconst 19 dX9_mayHaveAge_18 rfl ?_
        refine ex_goto 23 dX9_mayHaveAge_19 (by decide) ?_
        exact ex_iret dX9_mayHaveAge_23 (Or.inr ⟨rfl, Or.inr rfl⟩) ⟨_, rfl, _, rfl, hyp⟩
set_option maxRecDepth 4000 in
theorem uX9_areTwo {P : Int → GS → Prop} (g0 : GS) (x1 : Int) (x2 : Int) (hyp : MXi mX8_has [vr 8, vi x1] g0 (fun y2 g1 => rng y2 ∧ (y2 = 0 → (P 0 g1)) ∧ (¬ y2 = 0 → (MXi mX8_has [vr 8, vi x2] g1 (fun y5 g4 => rng y5 ∧ (y5 = 0 → (P 0 g4)) ∧ (¬ y5 = 0 → (rng x1 ∧ rng x2 ∧ (x1 = x2 → (P 0 g4)) ∧ (¬ x1 = x2 → (P 1 g4))))))))) : MXi mX9_areTwo [vr 0, vi x1, vi x2] g0 P := by
  refine met_of_ex (by decide +kernel) (Nat.le_of_ble_eq_true rfl) ?_
  show EX mX9_areTwo 0 [some (vr 0), some (vi x1), some (vi x2)] [] (hX g0) (0, 0) _
  refine ex_aload_n 1 dX9_areTwo_0 rfl rfl ?_
  refine q_getR (a := 8) 9 3 4 dX9_areTwo_1 rfl fiX9_33 rfl ⟨_, rfl⟩ rfl ?_
  refine ex_iload_n 5 dX9_areTwo_4 rfl rfl ?_
  refine s_callVi [vi x1] 8 dX9_areTwo_5 rfl cvX9_111 rfl rfl ⟨Nat.le_of_ble_eq_true rfl, Nat.le_of_ble_eq_true rfl⟩ (Nat.le_of_ble_eq_true rfl) ⟨_, rfl⟩ hyp (fun y2 h1 hq => ?_)
  obtain ⟨g1, rfl, hyp⟩ := hq
  obtain ⟨o3, hyp⟩ := hyp
  obtain ⟨ht, hf⟩ := hyp
  refine ex_if_eq 31 11 dX9_areTwo_8 (by decide) rfl o3 (fun c11 => ?_) (fun c11 => ?_)
  · have hyp := ht c11
    clear ht hf
    refine ex_iconst 32 dX9_areTwo_31 rfl ?_
    exact ex_iret dX9_areTwo_32 (Or.inr ⟨rfl, Or.inl rfl⟩) ⟨_, rfl, _, rfl, hyp⟩
  · have hyp := hf c11
    clear ht hf
    refine ex_aload_n 12 dX9_areTwo_11 rfl rfl ?_
    refine q_getR (a := 8) 9 3 15 dX9_areTwo_12 rfl fiX9_33 rfl ⟨_, rfl⟩ rfl ?_
    refine ex_iload_n 16 dX9_areTwo_15 rfl rfl ?_
    refine s_callVi [vi x2] 19 dX9_areTwo_16 rfl cvX9_111 rfl rfl ⟨Nat.le_of_ble_eq_true rfl, Nat.le_of_ble_eq_true rfl⟩ (Nat.le_of_ble_eq_true rfl) ⟨_, rfl⟩ hyp (fun y5 h1 hq => ?_)
    obtain ⟨g4, rfl, hyp⟩ := hq
    obtain ⟨o6, hyp⟩ := hyp
    obtain ⟨ht, hf⟩ := hyp
    refine ex_if_eq 31 22 dX9_areTwo_19 (by decide) rfl o6 (fun c10 => ?_) (fun c10 => ?_)
    · have hyp := ht c10
      clear ht hf
      refine ex_iconst 32 dX9_areTwo_31 rfl ?_
      exact ex_iret dX9_areTwo_32 (Or.inr ⟨rfl, Or.inl rfl⟩) ⟨_, rfl, _, rfl, hyp⟩
    · have hyp := hf c10
      clear ht hf
      refine ex_iload_n 23 dX9_areTwo_22 rfl rfl ?_
      refine ex_iload_n 24 dX9_areTwo_23 rfl rfl ?_
      obtain ⟨o7, hyp⟩ := hyp
      obtain ⟨o8, hyp⟩ := hyp
      obtain ⟨ht, hf⟩ := hyp
      refine ex_icmp_eq 31 27 dX9_areTwo_24 (by decide) rfl o7 o8 (fun c9 => ?_) (fun c9 => ?_)
      · have hyp := ht c9
        clear ht hf
        refine ex_iconst 32 dX9_areTwo_31 rfl ?_
        exact ex_iret dX9_areTwo_32 (Or.inr ⟨rfl, Or.inl rfl⟩) ⟨_, rfl, _, rfl, hyp⟩
      · have hyp := hf c9
        clear ht hf
        refine ex_iconst 28 dX9_areTwo_27 rfl ?_
        refine ex_goto 32 dX9_areTwo_28 (by decide) ?_
        exact ex_iret dX9_areTwo_32 (Or.inr ⟨rfl, Or.inr rfl⟩) ⟨_, rfl, _, rfl, hyp⟩
set_option maxRecDepth 4000 in
theorem uX9_addEntriesOfPage {P : GS → Prop} (g0 : GS)  (hyp : MXv mX7_start [vr 3] g0 (fun g1 => XXv mX9_addEntriesOfPage 9 [some (vr 0), some (vi 0)] [] g1 P)) : MXv mX9_addEntriesOfPage [vr 0] g0 P := by
  refine met_of_ex (by decide +kernel) (Nat.le_of_ble_eq_true rfl) ?_
  show EX mX9_addEntriesOfPage 0 [some (vr 0), none] [] (hX g0) (0, 0) _
  refine ex_aload_n 1 dX9_addEntriesOfPage_0 rfl rfl ?_
  refine q_getR (a := 3) 9 1 4 dX9_addEntriesOfPage_1 rfl fiX9_19 rfl ⟨_, rfl⟩ rfl ?_
  refine s_callVv [] 7 dX9_addEntriesOfPage_4 rfl cvX9_79 rfl rfl ⟨Nat.le_of_ble_eq_true rfl, Nat.le_of_ble_eq_true rfl⟩ (Nat.le_of_ble_eq_true rfl) ⟨_, rfl⟩ hyp (fun h1 hq => ?_)
  obtain ⟨g1, rfl, hyp⟩ := hq
  refine ex_iconst 8 dX9_addEntriesOfPage_7 rfl ?_
  refine q_istore_n [some (vr 0), some (vi 0)] 9 dX9_addEntriesOfPage_8 rfl (Nat.le_of_ble_eq_true rfl) rfl rfl ?_
  exact hyp
set_option maxRecDepth 4000 in
theorem uX9_addEntriesOfPage_9 {P : GS → Prop} (g0 : GS) (x1 : Int) (hyp : rng x1 ∧ rng (g0.1 1 1) ∧ (g0.1 1 1 ≤ x1 → (MXv mX8_add [vr 8, vr 1, vr 3, vr 5] g0 (fun g3 => P g3))) ∧ (x1 < g0.1 1 1 → (0 ≤ x1 ∧ x1 < 60 ∧ rng (g0.1 2 (x1).toNat) ∧ (¬ g0.1 2 (x1).toNat = 59 → (MXi mX7_takes [vr 3, vi (g0.1 2 (x1).toNat)] g0 (fun y8 g7 => XXv mX9_addEntriesOfPage 9 [some (vr 0), some (vi (x1 + 1))] [] g7 P))) ∧ (g0.1 2 (x1).toNat = 59 → (MXv mX8_add [vr 8, vr 1, vr 3, vr 5] g0 (fun g9 => MXi mX7_takes [vr 3, vi (g9.1 2 (x1).toNat)] g9 (fun y11 g10 => XXv mX9_addEntriesOfPage 9 [some (vr 0), some (vi (x1 + 1))] [] g10 P))))))) : XXv mX9_addEntriesOfPage 9 [some (vr 0), some (vi x1)] [] g0 P := by
  refine ex_iload_n 10 dX9_addEntriesOfPage_9 rfl rfl ?_
  refine ex_aload_n 11 dX9_addEntriesOfPage_10 rfl rfl ?_
  refine q_getR (a := 1) 9 0 14 dX9_addEntriesOfPage_11 rfl fiX9_10 rfl ⟨_, rfl⟩ rfl ?_
  refine q_getI 5 1 17 dX9_addEntriesOfPage_14 rfl fiX9_72 (Or.inl rfl) ⟨_, rfl⟩ ?_
  obtain ⟨o1, hyp⟩ := hyp
  obtain ⟨o2, hyp⟩ := hyp
  obtain ⟨ht, hf⟩ := hyp
  refine ex_icmp_ge 76 20 dX9_addEntriesOfPage_17 (by decide) rfl o1 o2 (fun c13 => ?_) (fun c13 => ?_)
  · have hyp := ht c13
    clear ht hf
    refine ex_aload_n 77 dX9_addEntriesOfPage_76 rfl rfl ?_
    refine q_getR (a := 8) 9 3 80 dX9_addEntriesOfPage_77 rfl fiX9_33 rfl ⟨_, rfl⟩ rfl ?_
    refine ex_aload_n 81 dX9_addEntriesOfPage_80 rfl rfl ?_
    refine q_getR (a := 1) 9 0 84 dX9_addEntriesOfPage_81 rfl fiX9_10 rfl ⟨_, rfl⟩ rfl ?_
    refine ex_aload_n 85 dX9_addEntriesOfPage_84 rfl rfl ?_
    refine q_getR (a := 3) 9 1 88 dX9_addEntriesOfPage_85 rfl fiX9_19 rfl ⟨_, rfl⟩ rfl ?_
    refine ex_aload_n 89 dX9_addEntriesOfPage_88 rfl rfl ?_
    refine q_getR (a := 5) 9 2 92 dX9_addEntriesOfPage_89 rfl fiX9_26 rfl ⟨_, rfl⟩ rfl ?_
    refine s_callVv [vr 1, vr 3, vr 5] 95 dX9_addEntriesOfPage_92 rfl cvX9_236 rfl rfl ⟨Nat.le_of_ble_eq_true rfl, Nat.le_of_ble_eq_true rfl⟩ (Nat.le_of_ble_eq_true rfl) ⟨_, rfl⟩ hyp (fun h1 hq => ?_)
    obtain ⟨g3, rfl, hyp⟩ := hq
    exact ex_vret dX9_addEntriesOfPage_95 rfl ⟨rfl, _, rfl, hyp⟩
  · have hyp := hf c13
    clear ht hf
    refine ex_aload_n 21 dX9_addEntriesOfPage_20 rfl rfl ?_
    refine q_getR (a := 1) 9 0 24 dX9_addEntriesOfPage_21 rfl fiX9_10 rfl ⟨_, rfl⟩ rfl ?_
    refine q_getR (a := 2) 5 0 27 dX9_addEntriesOfPage_24 rfl fiX9_82 rfl ⟨_, rfl⟩ rfl ?_
    refine ex_iload_n 28 dX9_addEntriesOfPage_27 rfl rfl ?_
    obtain ⟨o4, hyp⟩ := hyp
    obtain ⟨o5, hyp⟩ := hyp
    refine ex_iald 29 dX9_addEntriesOfPage_28 rfl (ai_of (n := 60) rfl o4 o5 (by decide)) ?_
    refine ex_bipush 31 dX9_addEntriesOfPage_29 rfl ⟨by decide, by decide⟩ ?_
    obtain ⟨o6, hyp⟩ := hyp
    obtain ⟨ht, hf⟩ := hyp
    refine ex_icmp_ne 53 34 dX9_addEntriesOfPage_31 (by decide) rfl o6 ⟨by decide, by decide⟩ (fun c12 => ?_) (fun c12 => ?_)
    · have hyp := ht c12
      clear ht hf
      refine ex_aload_n 54 dX9_addEntriesOfPage_53 rfl rfl ?_
      refine q_getR (a := 3) 9 1 57 dX9_addEntriesOfPage_54 rfl fiX9_19 rfl ⟨_, rfl⟩ rfl ?_
      refine ex_aload_n 58 dX9_addEntriesOfPage_57 rfl rfl ?_
      refine q_getR (a := 1) 9 0 61 dX9_addEntriesOfPage_58 rfl fiX9_10 rfl ⟨_, rfl⟩ rfl ?_
      refine q_getR (a := 2) 5 0 64 dX9_addEntriesOfPage_61 rfl fiX9_82 rfl ⟨_, rfl⟩ rfl ?_
      refine ex_iload_n 65 dX9_addEntriesOfPage_64 rfl rfl ?_
      refine ex_iald 66 dX9_addEntriesOfPage_65 rfl (ai_of (n := 60) rfl o4 o5 (by decide)) ?_
      refine s_callVi [vi (g0.1 2 (x1).toNat)] 69 dX9_addEntriesOfPage_66 rfl cvX9_86 rfl rfl ⟨Nat.le_of_ble_eq_true rfl, Nat.le_of_ble_eq_true rfl⟩ (Nat.le_of_ble_eq_true rfl) ⟨_, rfl⟩ hyp (fun y8 h1 hq => ?_)
      obtain ⟨g7, rfl, hyp⟩ := hq
      refine ex_pop 70 dX9_addEntriesOfPage_69 rfl rfl ?_
      refine q_iinc [some (vr 0), some (vi (x1 + 1))] 73 dX9_addEntriesOfPage_70 rfl rfl (Nat.le_of_ble_eq_true rfl) rfl rfl ?_
      refine ex_goto 9 dX9_addEntriesOfPage_73 (by decide) ?_
      exact hyp
    · have hyp := hf c12
      clear ht hf
      refine ex_aload_n 35 dX9_addEntriesOfPage_34 rfl rfl ?_
      refine q_getR (a := 8) 9 3 38 dX9_addEntriesOfPage_35 rfl fiX9_33 rfl ⟨_, rfl⟩ rfl ?_
      refine ex_aload_n 39 dX9_addEntriesOfPage_38 rfl rfl ?_
      refine q_getR (a := 1) 9 0 42 dX9_addEntriesOfPage_39 rfl fiX9_10 rfl ⟨_, rfl⟩ rfl ?_
      refine ex_aload_n 43 dX9_addEntriesOfPage_42 rfl rfl ?_
      refine q_getR (a := 3) 9 1 46 dX9_addEntriesOfPage_43 rfl fiX9_19 rfl ⟨_, rfl⟩ rfl ?_
      refine ex_aload_n 47 dX9_addEntriesOfPage_46 rfl rfl ?_
      refine q_getR (a := 5) 9 2 50 dX9_addEntriesOfPage_47 rfl fiX9_26 rfl ⟨_, rfl⟩ rfl ?_
      refine s_callVv [vr 1, vr 3, vr 5] 53 dX9_addEntriesOfPage_50 rfl cvX9_236 rfl rfl ⟨Nat.le_of_ble_eq_true rfl, Nat.le_of_ble_eq_true rfl⟩ (Nat.le_of_ble_eq_true rfl) ⟨_, rfl⟩ hyp (fun h1 hq => ?_)
      obtain ⟨g9, rfl, hyp⟩ := hq
      refine ex_aload_n 54 dX9_addEntriesOfPage_53 rfl rfl ?_
      refine q_getR (a := 3) 9 1 57 dX9_addEntriesOfPage_54 rfl fiX9_19 rfl ⟨_, rfl⟩ rfl ?_
      refine ex_aload_n 58 dX9_addEntriesOfPage_57 rfl rfl ?_
      refine q_getR (a := 1) 9 0 61 dX9_addEntriesOfPage_58 rfl fiX9_10 rfl ⟨_, rfl⟩ rfl ?_
      refine q_getR (a := 2) 5 0 64 dX9_addEntriesOfPage_61 rfl fiX9_82 rfl ⟨_, rfl⟩ rfl ?_
      refine ex_iload_n 65 dX9_addEntriesOfPage_64 rfl rfl ?_
      refine ex_iald 66 dX9_addEntriesOfPage_65 rfl (ai_of (n := 60) rfl o4 o5 (by decide)) ?_
      refine s_callVi [vi (g9.1 2 (x1).toNat)] 69 dX9_addEntriesOfPage_66 rfl cvX9_86 rfl rfl ⟨Nat.le_of_ble_eq_true rfl, Nat.le_of_ble_eq_true rfl⟩ (Nat.le_of_ble_eq_true rfl) ⟨_, rfl⟩ hyp (fun y11 h1 hq => ?_)
      obtain ⟨g10, rfl, hyp⟩ := hq
      refine ex_pop 70 dX9_addEntriesOfPage_69 rfl rfl ?_
      refine q_iinc [some (vr 0), some (vi (x1 + 1))] 73 dX9_addEntriesOfPage_70 rfl rfl (Nat.le_of_ble_eq_true rfl) rfl rfl ?_
      refine ex_goto 9 dX9_addEntriesOfPage_73 (by decide) ?_
      exact hyp
set_option maxRecDepth 4000 in
theorem uX9_settle {P : GS → Prop} (g0 : GS)  (hyp : rng (g0.1 0 11) ∧ (¬ g0.1 0 11 = 0 → (MXv mX8_settleBorn [vr 8, vi (g0.1 0 8)] g0 (fun g2 => MXv mX6_settle [vr 65, vr 8, vi (g2.1 0 7)] g2 (fun g3 => MXv mX3_settle [vr 104, vr 8, vr 65] g3 (fun g4 => MXv mX2_settle [vr 117, vr 8, vr 65, vr 104, vi (g4.1 0 9)] g4 (fun g5 => ∀ g7 : GS, g7 = gI g5 0 11 0 → (P g7))))))) ∧ (g0.1 0 11 = 0 → (P g0))) : MXv mX9_settle [vr 0] g0 P := by
  refine met_of_ex (by decide +kernel) (Nat.le_of_ble_eq_true rfl) ?_
  show EX mX9_settle 0 [some (vr 0)] [] (hX g0) (0, 0) _
  refine ex_aload_n 1 dX9_settle_0 rfl rfl ?_
  refine q_getI 9 11 4 dX9_settle_1 rfl fiX9_68 (Or.inr rfl) ⟨_, rfl⟩ ?_
  obtain ⟨o1, hyp⟩ := hyp
  obtain ⟨ht, hf⟩ := hyp
  refine ex_if_ne 8 7 dX9_settle_4 (by decide) rfl o1 (fun c9 => ?_) (fun c9 => ?_)
  · have hyp := ht c9
    clear ht hf
    refine ex_aload_n 9 dX9_settle_8 rfl rfl ?_
    refine q_getR (a := 8) 9 3 12 dX9_settle_9 rfl fiX9_33 rfl ⟨_, rfl⟩ rfl ?_
    refine ex_aload_n 13 dX9_settle_12 rfl rfl ?_
    refine q_getI 9 8 16 dX9_settle_13 rfl fiX9_62 (Or.inl rfl) ⟨_, rfl⟩ ?_
    refine s_callVv [vi (g0.1 0 8)] 19 dX9_settle_16 rfl cvX9_240 rfl rfl ⟨Nat.le_of_ble_eq_true rfl, Nat.le_of_ble_eq_true rfl⟩ (Nat.le_of_ble_eq_true rfl) ⟨_, rfl⟩ hyp (fun h1 hq => ?_)
    obtain ⟨g2, rfl, hyp⟩ := hq
    refine ex_aload_n 20 dX9_settle_19 rfl rfl ?_
    refine q_getR (a := 65) 9 4 23 dX9_settle_20 rfl fiX9_40 rfl ⟨_, rfl⟩ rfl ?_
    refine ex_aload_n 24 dX9_settle_23 rfl rfl ?_
    refine q_getR (a := 8) 9 3 27 dX9_settle_24 rfl fiX9_33 rfl ⟨_, rfl⟩ rfl ?_
    refine ex_aload_n 28 dX9_settle_27 rfl rfl ?_
    refine q_getI 9 7 31 dX9_settle_28 rfl fiX9_58 (Or.inl rfl) ⟨_, rfl⟩ ?_
    refine s_callVv [vr 8, vi (g2.1 0 7)] 34 dX9_settle_31 rfl cvX9_243 rfl rfl ⟨Nat.le_of_ble_eq_true rfl, Nat.le_of_ble_eq_true rfl⟩ (Nat.le_of_ble_eq_true rfl) ⟨_, rfl⟩ hyp (fun h1 hq => ?_)
    obtain ⟨g3, rfl, hyp⟩ := hq
    refine ex_aload_n 35 dX9_settle_34 rfl rfl ?_
    refine q_getR (a := 104) 9 5 38 dX9_settle_35 rfl fiX9_47 rfl ⟨_, rfl⟩ rfl ?_
    refine ex_aload_n 39 dX9_settle_38 rfl rfl ?_
    refine q_getR (a := 8) 9 3 42 dX9_settle_39 rfl fiX9_33 rfl ⟨_, rfl⟩ rfl ?_
    refine ex_aload_n 43 dX9_settle_42 rfl rfl ?_
    refine q_getR (a := 65) 9 4 46 dX9_settle_43 rfl fiX9_40 rfl ⟨_, rfl⟩ rfl ?_
    refine s_callVv [vr 8, vr 65] 49 dX9_settle_46 rfl cvX9_246 rfl rfl ⟨Nat.le_of_ble_eq_true rfl, Nat.le_of_ble_eq_true rfl⟩ (Nat.le_of_ble_eq_true rfl) ⟨_, rfl⟩ hyp (fun h1 hq => ?_)
    obtain ⟨g4, rfl, hyp⟩ := hq
    refine ex_aload_n 50 dX9_settle_49 rfl rfl ?_
    refine q_getR (a := 117) 9 6 53 dX9_settle_50 rfl fiX9_54 rfl ⟨_, rfl⟩ rfl ?_
    refine ex_aload_n 54 dX9_settle_53 rfl rfl ?_
    refine q_getR (a := 8) 9 3 57 dX9_settle_54 rfl fiX9_33 rfl ⟨_, rfl⟩ rfl ?_
    refine ex_aload_n 58 dX9_settle_57 rfl rfl ?_
    refine q_getR (a := 65) 9 4 61 dX9_settle_58 rfl fiX9_40 rfl ⟨_, rfl⟩ rfl ?_
    refine ex_aload_n 62 dX9_settle_61 rfl rfl ?_
    refine q_getR (a := 104) 9 5 65 dX9_settle_62 rfl fiX9_47 rfl ⟨_, rfl⟩ rfl ?_
    refine ex_aload_n 66 dX9_settle_65 rfl rfl ?_
    refine q_getI 9 9 69 dX9_settle_66 rfl fiX9_65 (Or.inl rfl) ⟨_, rfl⟩ ?_
    refine s_callVv [vr 8, vr 65, vr 104, vi (g4.1 0 9)] 72 dX9_settle_69 rfl cvX9_249 rfl rfl ⟨Nat.le_of_ble_eq_true rfl, Nat.le_of_ble_eq_true rfl⟩ (Nat.le_of_ble_eq_true rfl) ⟨_, rfl⟩ hyp (fun h1 hq => ?_)
    obtain ⟨g5, rfl, hyp⟩ := hq
    refine ex_aload_n 73 dX9_settle_72 rfl rfl ?_
    refine ex_iconst 74 dX9_settle_73 rfl ?_
    refine q_putZ 9 11 77 dX9_settle_74 rfl fiX9_68 ff9_11 rfl ⟨_, rfl⟩ (Or.inl rfl) (fun h1 e6 => ?_)
    obtain ⟨g7, eg8⟩ : ∃ z : GS, z = gI g5 0 11 0 := ⟨_, rfl⟩
    have hyp := hyp g7 eg8
    obtain rfl : h1 = hX g7 := by rw [e6, eg8]; exact rfl
    clear e6
    exact ex_vret dX9_settle_77 rfl ⟨rfl, _, rfl, hyp⟩
  · have hyp := hf c9
    clear ht hf
    exact ex_vret dX9_settle_7 rfl ⟨rfl, _, rfl, hyp⟩
set_option maxRecDepth 4000 in
theorem uX9_tellEntry {P : Int → GS → Prop} (g0 : GS) (x1 : Int) (x2 : Int) (hyp : 0 ≤ x1 ∧ x1 < 18 ∧ g0.2.1 (x1).toNat < 18 ∧ rng x2 ∧ (x2 < 0 ∨ 7 < x2 → (P (-102) g0)) ∧ (x2 = 0 → (P (g0.1 (11 + 3 * (g0.2.1 (x1).toNat)) 4) g0)) ∧ (x2 = 1 → (P (g0.1 (11 + 3 * (g0.2.1 (x1).toNat)) 5) g0)) ∧ (x2 = 2 → (P (g0.1 (11 + 3 * (g0.2.1 (x1).toNat)) 6) g0)) ∧ (x2 = 3 → (P (g0.1 (11 + 3 * (g0.2.1 (x1).toNat)) 3) g0)) ∧ (x2 = 4 → (P (g0.1 (11 + 3 * (g0.2.1 (x1).toNat)) 8) g0)) ∧ (x2 = 5 → (P (g0.1 (11 + 3 * (g0.2.1 (x1).toNat)) 9) g0)) ∧ (x2 = 6 → (P (g0.1 119 (x1).toNat) g0)) ∧ (x2 = 7 → (rng (g0.1 119 (x1).toNat) ∧ (¬ g0.1 119 (x1).toNat = (-1) → (P 0 g0)) ∧ (g0.1 119 (x1).toNat = (-1) → (P 1 g0))))) : MXi mX9_tellEntry [vr 0, vi x1, vi x2] g0 P := by
  refine met_of_ex (by decide +kernel) (Nat.le_of_ble_eq_true rfl) ?_
  show EX mX9_tellEntry 0 [some (vr 0), some (vi x1), some (vi x2), none] [] (hX g0) (0, 0) _
  refine ex_aload_n 1 dX9_tellEntry_0 rfl rfl ?_
  refine q_getR (a := 8) 9 3 4 dX9_tellEntry_1 rfl fiX9_33 rfl ⟨_, rfl⟩ rfl ?_
  refine q_getR (a := 9) 8 0 7 dX9_tellEntry_4 rfl fiX9_121 rfl ⟨_, rfl⟩ rfl ?_
  refine ex_iload_n 8 dX9_tellEntry_7 rfl rfl ?_
  obtain ⟨o1, hyp⟩ := hyp
  obtain ⟨o2, hyp⟩ := hyp
  obtain ⟨o3, hyp⟩ := hyp
  refine ex_aald (a := (11 + 3 * (g0.2.1 (x1).toNat))) 21 9 dX9_tellEntry_8 rfl (by decide) (ai_of (n := 18) rfl o1 o2 (by decide)) (rxR g0 (ltN (n := 18) o1 o2)) ?_
  refine q_astore_n [some (vr 0), some (vi x1), some (vi x2), some (vr (11 + 3 * (g0.2.1 (x1).toNat)))] 10 dX9_tellEntry_9 rfl (Nat.le_of_ble_eq_true rfl) rfl rfl ?_
  refine ex_iload_n 11 dX9_tellEntry_10 rfl rfl ?_
  obtain ⟨o4, hyp⟩ := hyp
  obtain ⟨hd, hv0, hv1, hv2, hv3, hv4, hv5, hv6, hv7⟩ := hyp
  rcases (show (x2 < 0 ∨ 7 < x2) ∨ x2 = 0 ∨ x2 = 1 ∨ x2 = 2 ∨ x2 = 3 ∨ x2 = 4 ∨ x2 = 5 ∨ x2 = 6 ∨ x2 = 7 by omega) with c | c | c | c | c | c | c | c | c
  · refine ex_tswOut 115 dX9_tellEntry_11 o4 c (by decide) ?_
    have hyp := hd c
    refine ex_bipush 117 dX9_tellEntry_115 rfl ⟨by decide, by decide⟩ ?_
    exact ex_iret dX9_tellEntry_117 (Or.inl rfl) ⟨_, rfl, _, rfl, hyp⟩
  · refine ex_tswIn 0 56 dX9_tellEntry_11 c ⟨by decide, by decide⟩ (by decide) (by decide) rfl (by decide) ?_
    have hyp := hv0 c
    refine ex_aload_n 57 dX9_tellEntry_56 rfl rfl ?_
    refine q_getI 0 4 60 dX9_tellEntry_57 rfl fiX9_133 (Or.inl rfl) (obE o3) ?_
    exact ex_iret dX9_tellEntry_60 (Or.inl rfl) ⟨_, rfl, _, rfl, hyp⟩
  · refine ex_tswIn 1 61 dX9_tellEntry_11 c ⟨by decide, by decide⟩ (by decide) (by decide) rfl (by decide) ?_
    have hyp := hv1 c
    refine ex_aload_n 62 dX9_tellEntry_61 rfl rfl ?_
    refine q_getI 0 5 65 dX9_tellEntry_62 rfl fiX9_136 (Or.inl rfl) (obE o3) ?_
    exact ex_iret dX9_tellEntry_65 (Or.inl rfl) ⟨_, rfl, _, rfl, hyp⟩
  · refine ex_tswIn 2 66 dX9_tellEntry_11 c ⟨by decide, by decide⟩ (by decide) (by decide) rfl (by decide) ?_
    have hyp := hv2 c
    refine ex_aload_n 67 dX9_tellEntry_66 rfl rfl ?_
    refine q_getI 0 6 70 dX9_tellEntry_67 rfl fiX9_147 (Or.inl rfl) (obE o3) ?_
    exact ex_iret dX9_tellEntry_70 (Or.inl rfl) ⟨_, rfl, _, rfl, hyp⟩
  · refine ex_tswIn 3 71 dX9_tellEntry_11 c ⟨by decide, by decide⟩ (by decide) (by decide) rfl (by decide) ?_
    have hyp := hv3 c
    refine ex_aload_n 72 dX9_tellEntry_71 rfl rfl ?_
    refine q_getI 0 3 75 dX9_tellEntry_72 rfl fiX9_125 (Or.inl rfl) (obE o3) ?_
    exact ex_iret dX9_tellEntry_75 (Or.inl rfl) ⟨_, rfl, _, rfl, hyp⟩
  · refine ex_tswIn 4 76 dX9_tellEntry_11 c ⟨by decide, by decide⟩ (by decide) (by decide) rfl (by decide) ?_
    have hyp := hv4 c
    refine ex_aload_n 77 dX9_tellEntry_76 rfl rfl ?_
    refine q_getI 0 8 80 dX9_tellEntry_77 rfl fiX9_252 (Or.inl rfl) (obE o3) ?_
    exact ex_iret dX9_tellEntry_80 (Or.inl rfl) ⟨_, rfl, _, rfl, hyp⟩
  · refine ex_tswIn 5 81 dX9_tellEntry_11 c ⟨by decide, by decide⟩ (by decide) (by decide) rfl (by decide) ?_
    have hyp := hv5 c
    refine ex_aload_n 82 dX9_tellEntry_81 rfl rfl ?_
    refine q_getI 0 9 85 dX9_tellEntry_82 rfl fiX9_255 (Or.inl rfl) (obE o3) ?_
    exact ex_iret dX9_tellEntry_85 (Or.inl rfl) ⟨_, rfl, _, rfl, hyp⟩
  · refine ex_tswIn 6 86 dX9_tellEntry_11 c ⟨by decide, by decide⟩ (by decide) (by decide) rfl (by decide) ?_
    have hyp := hv6 c
    refine ex_aload_n 87 dX9_tellEntry_86 rfl rfl ?_
    refine q_getR (a := 117) 9 6 90 dX9_tellEntry_87 rfl fiX9_54 rfl ⟨_, rfl⟩ rfl ?_
    refine q_getR (a := 119) 2 1 93 dX9_tellEntry_90 rfl fiX9_258 rfl ⟨_, rfl⟩ rfl ?_
    refine ex_iload_n 94 dX9_tellEntry_93 rfl rfl ?_
    refine ex_iald 95 dX9_tellEntry_94 rfl (ai_of (n := 18) rfl o1 o2 (by decide)) ?_
    exact ex_iret dX9_tellEntry_95 (Or.inl rfl) ⟨_, rfl, _, rfl, hyp⟩
  · refine ex_tswIn 7 96 dX9_tellEntry_11 c ⟨by decide, by decide⟩ (by decide) (by decide) rfl (by decide) ?_
    have hyp := hv7 c
    refine ex_aload_n 97 dX9_tellEntry_96 rfl rfl ?_
    refine q_getR (a := 117) 9 6 100 dX9_tellEntry_97 rfl fiX9_54 rfl ⟨_, rfl⟩ rfl ?_
    refine q_getR (a := 119) 2 1 103 dX9_tellEntry_100 rfl fiX9_258 rfl ⟨_, rfl⟩ rfl ?_
    refine ex_iload_n 104 dX9_tellEntry_103 rfl rfl ?_
    refine ex_iald 105 dX9_tellEntry_104 rfl (ai_of (n := 18) rfl o1 o2 (by decide)) ?_
    refine ex_iconst 106 dX9_tellEntry_105 rfl ?_
    obtain ⟨o5, hyp⟩ := hyp
    obtain ⟨ht, hf⟩ := hyp
    refine ex_icmp_ne 113 109 dX9_tellEntry_106 (by decide) rfl o5 ⟨by decide, by decide⟩ (fun c6 => ?_) (fun c6 => ?_)
    · have hyp := ht c6
      clear ht hf
      refine ex_iconst 114 dX9_tellEntry_113 rfl ?_
      exact ex_iret dX9_tellEntry_114 (Or.inl rfl) ⟨_, rfl, _, rfl, hyp⟩
    · have hyp := hf c6
      clear ht hf
      refine ex_iconst 110 dX9_tellEntry_109 rfl ?_
      refine ex_goto 114 dX9_tellEntry_110 (by decide) ?_
      exact ex_iret dX9_tellEntry_114 (Or.inl rfl) ⟨_, rfl, _, rfl, hyp⟩
set_option maxRecDepth 4000 in
theorem uX9_tellTwo {P : Int → GS → Prop} (g0 : GS) (x1 : Int) (x2 : Int) (x3 : Int) (hyp : 0 ≤ x1 ∧ x1 < 18 ∧ g0.2.1 (x1).toNat < 18 ∧ 0 ≤ x2 ∧ x2 < 18 ∧ g0.2.1 (x2).toNat < 18 ∧ rng x3 ∧ (x3 < 0 ∨ 4 < x3 → (P (-102) g0)) ∧ (x3 = 0 → (MXi mX0_distanceTo [vr (11 + 3 * (g0.2.1 (x1).toNat)), vr (11 + 3 * (g0.2.1 (x2).toNat))] g0 (fun y9 g8 => P y9 g8))) ∧ (x3 = 1 → (MXi mX0_likenessTo [vr (11 + 3 * (g0.2.1 (x1).toNat)), vr (11 + 3 * (g0.2.1 (x2).toNat))] g0 (fun y11 g10 => P y11 g10))) ∧ (x3 = 2 → (P (g0.1 (67 + (x1).toNat) (x2).toNat) g0)) ∧ (x3 = 3 → (P (g0.1 (86 + (x1).toNat) (x2).toNat) g0)) ∧ (x3 = 4 → (MXi mX0_yearsWith [vr (11 + 3 * (g0.2.1 (x1).toNat)), vr (11 + 3 * (g0.2.1 (x2).toNat))] g0 (fun y13 g12 => P y13 g12)))) : MXi mX9_tellTwo [vr 0, vi x1, vi x2, vi x3] g0 P := by
  refine met_of_ex (by decide +kernel) (Nat.le_of_ble_eq_true rfl) ?_
  show EX mX9_tellTwo 0 [some (vr 0), some (vi x1), some (vi x2), some (vi x3), none, none] [] (hX g0) (0, 0) _
  refine ex_aload_n 1 dX9_tellTwo_0 rfl rfl ?_
  refine q_getR (a := 8) 9 3 4 dX9_tellTwo_1 rfl fiX9_33 rfl ⟨_, rfl⟩ rfl ?_
  refine q_getR (a := 9) 8 0 7 dX9_tellTwo_4 rfl fiX9_121 rfl ⟨_, rfl⟩ rfl ?_
  refine ex_iload_n 8 dX9_tellTwo_7 rfl rfl ?_
  obtain ⟨o1, hyp⟩ := hyp
  obtain ⟨o2, hyp⟩ := hyp
  obtain ⟨o3, hyp⟩ := hyp
  refine ex_aald (a := (11 + 3 * (g0.2.1 (x1).toNat))) 21 9 dX9_tellTwo_8 rfl (by decide) (ai_of (n := 18) rfl o1 o2 (by decide)) (rxR g0 (ltN (n := 18) o1 o2)) ?_
  refine q_astore [some (vr 0), some (vi x1), some (vi x2), some (vi x3), some (vr (11 + 3 * (g0.2.1 (x1).toNat))), none] 11 dX9_tellTwo_9 rfl (Nat.le_of_ble_eq_true rfl) rfl rfl ?_
  refine ex_aload_n 12 dX9_tellTwo_11 rfl rfl ?_
  refine q_getR (a := 8) 9 3 15 dX9_tellTwo_12 rfl fiX9_33 rfl ⟨_, rfl⟩ rfl ?_
  refine q_getR (a := 9) 8 0 18 dX9_tellTwo_15 rfl fiX9_121 rfl ⟨_, rfl⟩ rfl ?_
  refine ex_iload_n 19 dX9_tellTwo_18 rfl rfl ?_
  obtain ⟨o4, hyp⟩ := hyp
  obtain ⟨o5, hyp⟩ := hyp
  obtain ⟨o6, hyp⟩ := hyp
  refine ex_aald (a := (11 + 3 * (g0.2.1 (x2).toNat))) 21 20 dX9_tellTwo_19 rfl (by decide) (ai_of (n := 18) rfl o4 o5 (by decide)) (rxR g0 (ltN (n := 18) o4 o5)) ?_
  refine q_astore [some (vr 0), some (vi x1), some (vi x2), some (vi x3), some (vr (11 + 3 * (g0.2.1 (x1).toNat))), some (vr (11 + 3 * (g0.2.1 (x2).toNat)))] 22 dX9_tellTwo_20 rfl (Nat.le_of_ble_eq_true rfl) rfl rfl ?_
  refine ex_iload_n 23 dX9_tellTwo_22 rfl rfl ?_
  obtain ⟨o7, hyp⟩ := hyp
  obtain ⟨hd, hv0, hv1, hv2, hv3, hv4⟩ := hyp
  rcases (show (x3 < 0 ∨ 4 < x3) ∨ x3 = 0 ∨ x3 = 1 ∨ x3 = 2 ∨ x3 = 3 ∨ x3 = 4 by omega) with c | c | c | c | c | c
  · refine ex_tswOut 104 dX9_tellTwo_23 o7 c (by decide) ?_
    have hyp := hd c
    refine ex_bipush 106 dX9_tellTwo_104 rfl ⟨by decide, by decide⟩ ?_
    exact ex_iret dX9_tellTwo_106 (Or.inl rfl) ⟨_, rfl, _, rfl, hyp⟩
  · refine ex_tswIn 0 56 dX9_tellTwo_23 c ⟨by decide, by decide⟩ (by decide) (by decide) rfl (by decide) ?_
    have hyp := hv0 c
    refine ex_aload 58 dX9_tellTwo_56 rfl rfl ?_
    refine ex_aload 60 dX9_tellTwo_58 rfl rfl ?_
    refine s_callVi [vr (11 + 3 * (g0.2.1 (x2).toNat))] 63 dX9_tellTwo_60 rfl cvX9_261 rfl rfl ⟨Nat.le_of_ble_eq_true rfl, Nat.le_of_ble_eq_true rfl⟩ (Nat.le_of_ble_eq_true rfl) (obE o3) hyp (fun y9 h1 hq => ?_)
    obtain ⟨g8, rfl, hyp⟩ := hq
    exact ex_iret dX9_tellTwo_63 (Or.inl rfl) ⟨_, rfl, _, rfl, hyp⟩
  · refine ex_tswIn 1 64 dX9_tellTwo_23 c ⟨by decide, by decide⟩ (by decide) (by decide) rfl (by decide) ?_
    have hyp := hv1 c
    refine ex_aload 66 dX9_tellTwo_64 rfl rfl ?_
    refine ex_aload 68 dX9_tellTwo_66 rfl rfl ?_
    refine s_callVi [vr (11 + 3 * (g0.2.1 (x2).toNat))] 71 dX9_tellTwo_68 rfl cvX9_265 rfl rfl ⟨Nat.le_of_ble_eq_true rfl, Nat.le_of_ble_eq_true rfl⟩ (Nat.le_of_ble_eq_true rfl) (obE o3) hyp (fun y11 h1 hq => ?_)
    obtain ⟨g10, rfl, hyp⟩ := hq
    exact ex_iret dX9_tellTwo_71 (Or.inl rfl) ⟨_, rfl, _, rfl, hyp⟩
  · refine ex_tswIn 2 72 dX9_tellTwo_23 c ⟨by decide, by decide⟩ (by decide) (by decide) rfl (by decide) ?_
    have hyp := hv2 c
    refine ex_aload_n 73 dX9_tellTwo_72 rfl rfl ?_
    refine q_getR (a := 65) 9 4 76 dX9_tellTwo_73 rfl fiX9_40 rfl ⟨_, rfl⟩ rfl ?_
    refine q_getR (a := 66) 6 0 79 dX9_tellTwo_76 rfl fiX9_268 rfl ⟨_, rfl⟩ rfl ?_
    refine ex_iload_n 80 dX9_tellTwo_79 rfl rfl ?_
    refine ex_aald (a := (67 + (x1).toNat)) 23 81 dX9_tellTwo_80 rfl (by decide) (ai_of (n := 18) rfl o1 o2 (by decide)) (rxW g0 (ltN (n := 18) o1 o2)) ?_
    refine ex_iload_n 82 dX9_tellTwo_81 rfl rfl ?_
    refine ex_iald 83 dX9_tellTwo_82 rfl (ai_of (n := 18) (txW _ (ltN (n := 18) o1 o2)) o4 o5 (by decide)) ?_
    exact ex_iret dX9_tellTwo_83 (Or.inl rfl) ⟨_, rfl, _, rfl, hyp⟩
  · refine ex_tswIn 3 84 dX9_tellTwo_23 c ⟨by decide, by decide⟩ (by decide) (by decide) rfl (by decide) ?_
    have hyp := hv3 c
    refine ex_aload_n 85 dX9_tellTwo_84 rfl rfl ?_
    refine q_getR (a := 65) 9 4 88 dX9_tellTwo_85 rfl fiX9_40 rfl ⟨_, rfl⟩ rfl ?_
    refine q_getR (a := 85) 6 1 91 dX9_tellTwo_88 rfl fiX9_272 rfl ⟨_, rfl⟩ rfl ?_
    refine ex_iload_n 92 dX9_tellTwo_91 rfl rfl ?_
    refine ex_aald (a := (86 + (x1).toNat)) 23 93 dX9_tellTwo_92 rfl (by decide) (ai_of (n := 18) rfl o1 o2 (by decide)) (rxV g0 (ltN (n := 18) o1 o2)) ?_
    refine ex_iload_n 94 dX9_tellTwo_93 rfl rfl ?_
    refine ex_iald 95 dX9_tellTwo_94 rfl (ai_of (n := 18) (txV _ (ltN (n := 18) o1 o2)) o4 o5 (by decide)) ?_
    exact ex_iret dX9_tellTwo_95 (Or.inl rfl) ⟨_, rfl, _, rfl, hyp⟩
  · refine ex_tswIn 4 96 dX9_tellTwo_23 c ⟨by decide, by decide⟩ (by decide) (by decide) rfl (by decide) ?_
    have hyp := hv4 c
    refine ex_aload 98 dX9_tellTwo_96 rfl rfl ?_
    refine ex_aload 100 dX9_tellTwo_98 rfl rfl ?_
    refine s_callVi [vr (11 + 3 * (g0.2.1 (x2).toNat))] 103 dX9_tellTwo_100 rfl cvX9_275 rfl rfl ⟨Nat.le_of_ble_eq_true rfl, Nat.le_of_ble_eq_true rfl⟩ (Nat.le_of_ble_eq_true rfl) (obE o3) hyp (fun y13 h1 hq => ?_)
    obtain ⟨g12, rfl, hyp⟩ := hq
    exact ex_iret dX9_tellTwo_103 (Or.inl rfl) ⟨_, rfl, _, rfl, hyp⟩
set_option maxRecDepth 4000 in
theorem uX9_tellLives {P : Int → GS → Prop} (g0 : GS) (x1 : Int) (hyp : rng x1 ∧ (x1 < 0 ∨ 5 < x1 → (P (-102) g0)) ∧ (x1 = 0 → (P (g0.1 117 2) g0)) ∧ (x1 = 1 → (P (g0.1 104 1) g0)) ∧ (x1 = 2 → (P (g0.1 104 2) g0)) ∧ (x1 = 3 → (P (g0.1 117 4) g0)) ∧ (x1 = 4 → (MXi mX2_countShaky [vr 117] g0 (fun y3 g2 => P y3 g2))) ∧ (x1 = 5 → (MXi mX2_countSingle [vr 117] g0 (fun y5 g4 => P y5 g4)))) : MXi mX9_tellLives [vr 0, vi x1] g0 P := by
  refine met_of_ex (by decide +kernel) (Nat.le_of_ble_eq_true rfl) ?_
  show EX mX9_tellLives 0 [some (vr 0), some (vi x1)] [] (hX g0) (0, 0) _
  refine ex_iload_n 1 dX9_tellLives_0 rfl rfl ?_
  obtain ⟨o1, hyp⟩ := hyp
  obtain ⟨hd, hv0, hv1, hv2, hv3, hv4, hv5⟩ := hyp
  rcases (show (x1 < 0 ∨ 5 < x1) ∨ x1 = 0 ∨ x1 = 1 ∨ x1 = 2 ∨ x1 = 3 ∨ x1 = 4 ∨ x1 = 5 by omega) with c | c | c | c | c | c | c
  · refine ex_tswOut 88 dX9_tellLives_1 o1 c (by decide) ?_
    have hyp := hd c
    refine ex_bipush 90 dX9_tellLives_88 rfl ⟨by decide, by decide⟩ ?_
    exact ex_iret dX9_tellLives_90 (Or.inl rfl) ⟨_, rfl, _, rfl, hyp⟩
  · refine ex_tswIn 0 40 dX9_tellLives_1 c ⟨by decide, by decide⟩ (by decide) (by decide) rfl (by decide) ?_
    have hyp := hv0 c
    refine ex_aload_n 41 dX9_tellLives_40 rfl rfl ?_
    refine q_getR (a := 117) 9 6 44 dX9_tellLives_41 rfl fiX9_54 rfl ⟨_, rfl⟩ rfl ?_
    refine q_getI 2 2 47 dX9_tellLives_44 rfl fiX9_278 (Or.inl rfl) ⟨_, rfl⟩ ?_
    exact ex_iret dX9_tellLives_47 (Or.inl rfl) ⟨_, rfl, _, rfl, hyp⟩
  · refine ex_tswIn 1 48 dX9_tellLives_1 c ⟨by decide, by decide⟩ (by decide) (by decide) rfl (by decide) ?_
    have hyp := hv1 c
    refine ex_aload_n 49 dX9_tellLives_48 rfl rfl ?_
    refine q_getR (a := 104) 9 5 52 dX9_tellLives_49 rfl fiX9_47 rfl ⟨_, rfl⟩ rfl ?_
    refine q_getI 3 1 55 dX9_tellLives_52 rfl fiX9_279 (Or.inl rfl) ⟨_, rfl⟩ ?_
    exact ex_iret dX9_tellLives_55 (Or.inl rfl) ⟨_, rfl, _, rfl, hyp⟩
  · refine ex_tswIn 2 56 dX9_tellLives_1 c ⟨by decide, by decide⟩ (by decide) (by decide) rfl (by decide) ?_
    have hyp := hv2 c
    refine ex_aload_n 57 dX9_tellLives_56 rfl rfl ?_
    refine q_getR (a := 104) 9 5 60 dX9_tellLives_57 rfl fiX9_47 rfl ⟨_, rfl⟩ rfl ?_
    refine q_getI 3 2 63 dX9_tellLives_60 rfl fiX9_281 (Or.inl rfl) ⟨_, rfl⟩ ?_
    exact ex_iret dX9_tellLives_63 (Or.inl rfl) ⟨_, rfl, _, rfl, hyp⟩
  · refine ex_tswIn 3 64 dX9_tellLives_1 c ⟨by decide, by decide⟩ (by decide) (by decide) rfl (by decide) ?_
    have hyp := hv3 c
    refine ex_aload_n 65 dX9_tellLives_64 rfl rfl ?_
    refine q_getR (a := 117) 9 6 68 dX9_tellLives_65 rfl fiX9_54 rfl ⟨_, rfl⟩ rfl ?_
    refine q_getI 2 4 71 dX9_tellLives_68 rfl fiX9_283 (Or.inl rfl) ⟨_, rfl⟩ ?_
    exact ex_iret dX9_tellLives_71 (Or.inl rfl) ⟨_, rfl, _, rfl, hyp⟩
  · refine ex_tswIn 4 72 dX9_tellLives_1 c ⟨by decide, by decide⟩ (by decide) (by decide) rfl (by decide) ?_
    have hyp := hv4 c
    refine ex_aload_n 73 dX9_tellLives_72 rfl rfl ?_
    refine q_getR (a := 117) 9 6 76 dX9_tellLives_73 rfl fiX9_54 rfl ⟨_, rfl⟩ rfl ?_
    refine s_callVi [] 79 dX9_tellLives_76 rfl cvX9_286 rfl rfl ⟨Nat.le_of_ble_eq_true rfl, Nat.le_of_ble_eq_true rfl⟩ (Nat.le_of_ble_eq_true rfl) ⟨_, rfl⟩ hyp (fun y3 h1 hq => ?_)
    obtain ⟨g2, rfl, hyp⟩ := hq
    exact ex_iret dX9_tellLives_79 (Or.inl rfl) ⟨_, rfl, _, rfl, hyp⟩
  · refine ex_tswIn 5 80 dX9_tellLives_1 c ⟨by decide, by decide⟩ (by decide) (by decide) rfl (by decide) ?_
    have hyp := hv5 c
    refine ex_aload_n 81 dX9_tellLives_80 rfl rfl ?_
    refine q_getR (a := 117) 9 6 84 dX9_tellLives_81 rfl fiX9_54 rfl ⟨_, rfl⟩ rfl ?_
    refine s_callVi [] 87 dX9_tellLives_84 rfl cvX9_289 rfl rfl ⟨Nat.le_of_ble_eq_true rfl, Nat.le_of_ble_eq_true rfl⟩ (Nat.le_of_ble_eq_true rfl) ⟨_, rfl⟩ hyp (fun y5 h1 hq => ?_)
    obtain ⟨g4, rfl, hyp⟩ := hq
    exact ex_iret dX9_tellLives_87 (Or.inl rfl) ⟨_, rfl, _, rfl, hyp⟩
set_option maxRecDepth 4000 in
theorem uX9_tellLife {P : Int → GS → Prop} (g0 : GS) (s0 : Nat) (hs0 : s0 < 18) (x1 : Int) (hyp : rng x1 ∧ (x1 < 0 ∨ 7 < x1 → (P (-102) g0)) ∧ (x1 = 0 → (P (g0.1 (121 + 2 * s0) 3) g0)) ∧ (x1 = 1 → (P (g0.1 (121 + 2 * s0) 4) g0)) ∧ (x1 = 2 → (MXi mX1_weddings [vr (121 + 2 * s0)] g0 (fun y3 g2 => P y3 g2))) ∧ (x1 = 3 → (MXi mX1_isBorn [vr (121 + 2 * s0)] g0 (fun y5 g4 => rng y5 ∧ (y5 = 0 → (P (-1) g4)) ∧ (¬ y5 = 0 → (P (g4.1 (121 + 2 * s0) 5) g4))))) ∧ (x1 = 4 → (MXi mX1_isBorn [vr (121 + 2 * s0)] g0 (fun y9 g8 => rng y9 ∧ (y9 = 0 → (P (-1) g8)) ∧ (¬ y9 = 0 → (P (g8.1 (121 + 2 * s0) 6) g8))))) ∧ (x1 = 5 → (rng (g0.1 (121 + 2 * s0) 8) ∧ (g0.1 (121 + 2 * s0) 8 = 0 → (P 0 g0)) ∧ (¬ g0.1 (121 + 2 * s0) 8 = 0 → (P 1 g0)))) ∧ (x1 = 6 → (P (g0.1 (121 + 2 * s0) 1) g0)) ∧ (x1 = 7 → (P (g0.1 (121 + 2 * s0) 7) g0))) : MXi mX9_tellLife [vr (121 + 2 * s0), vi x1] g0 P := by
  refine met_of_ex (by decide +kernel) (Nat.le_of_ble_eq_true rfl) ?_
  show EX mX9_tellLife 0 [some (vr (121 + 2 * s0)), some (vi x1)] [] (hX g0) (0, 0) _
  refine ex_iload_n 1 dX9_tellLife_0 rfl rfl ?_
  obtain ⟨o1, hyp⟩ := hyp
  obtain ⟨hd, hv0, hv1, hv2, hv3, hv4, hv5, hv6, hv7⟩ := hyp
  rcases (show (x1 < 0 ∨ 7 < x1) ∨ x1 = 0 ∨ x1 = 1 ∨ x1 = 2 ∨ x1 = 3 ∨ x1 = 4 ∨ x1 = 5 ∨ x1 = 6 ∨ x1 = 7 by omega) with c | c | c | c | c | c | c | c | c
  · refine ex_tswOut 118 dX9_tellLife_1 o1 c (by decide) ?_
    have hyp := hd c
    refine ex_bipush 120 dX9_tellLife_118 rfl ⟨by decide, by decide⟩ ?_
    exact ex_iret dX9_tellLife_120 (Or.inl rfl) ⟨_, rfl, _, rfl, hyp⟩
  · refine ex_tswIn 0 48 dX9_tellLife_1 c ⟨by decide, by decide⟩ (by decide) (by decide) rfl (by decide) ?_
    have hyp := hv0 c
    refine ex_aload_n 49 dX9_tellLife_48 rfl rfl ?_
    refine q_getI 1 3 52 dX9_tellLife_49 rfl fiX9_292 (Or.inl rfl) (obL hs0) ?_
    exact ex_iret dX9_tellLife_52 (Or.inl rfl) ⟨_, rfl, _, rfl, hyp⟩
  · refine ex_tswIn 1 53 dX9_tellLife_1 c ⟨by decide, by decide⟩ (by decide) (by decide) rfl (by decide) ?_
    have hyp := hv1 c
    refine ex_aload_n 54 dX9_tellLife_53 rfl rfl ?_
    refine q_getI 1 4 57 dX9_tellLife_54 rfl fiX9_295 (Or.inl rfl) (obL hs0) ?_
    exact ex_iret dX9_tellLife_57 (Or.inl rfl) ⟨_, rfl, _, rfl, hyp⟩
  · refine ex_tswIn 2 58 dX9_tellLife_1 c ⟨by decide, by decide⟩ (by decide) (by decide) rfl (by decide) ?_
    have hyp := hv2 c
    refine ex_aload_n 59 dX9_tellLife_58 rfl rfl ?_
    refine s_callVi [] 62 dX9_tellLife_59 rfl cvX9_180 rfl rfl ⟨Nat.le_of_ble_eq_true rfl, Nat.le_of_ble_eq_true rfl⟩ (Nat.le_of_ble_eq_true rfl) (obL hs0) hyp (fun y3 h1 hq => ?_)
    obtain ⟨g2, rfl, hyp⟩ := hq
    exact ex_iret dX9_tellLife_62 (Or.inl rfl) ⟨_, rfl, _, rfl, hyp⟩
  · refine ex_tswIn 3 63 dX9_tellLife_1 c ⟨by decide, by decide⟩ (by decide) (by decide) rfl (by decide) ?_
    have hyp := hv3 c
    refine ex_aload_n 64 dX9_tellLife_63 rfl rfl ?_
    refine s_callVi [] 67 dX9_tellLife_64 rfl cvX9_298 rfl rfl ⟨Nat.le_of_ble_eq_true rfl, Nat.le_of_ble_eq_true rfl⟩ (Nat.le_of_ble_eq_true rfl) (obL hs0) hyp (fun y5 h1 hq => ?_)
    obtain ⟨g4, rfl, hyp⟩ := hq
    obtain ⟨o6, hyp⟩ := hyp
    obtain ⟨ht, hf⟩ := hyp
    refine ex_if_eq 77 70 dX9_tellLife_67 (by decide) rfl o6 (fun c7 => ?_) (fun c7 => ?_)
    · have hyp := ht c7
      clear ht hf
      refine ex_iconst 78 dX9_tellLife_77 rfl ?_
      exact ex_iret dX9_tellLife_78 (Or.inl rfl) ⟨_, rfl, _, rfl, hyp⟩
    · have hyp := hf c7
      clear ht hf
      refine ex_aload_n 71 dX9_tellLife_70 rfl rfl ?_
      refine q_getI 1 5 74 dX9_tellLife_71 rfl fiX9_301 (Or.inl rfl) (obL hs0) ?_
      refine ex_goto 78 dX9_tellLife_74 (by decide) ?_
      exact ex_iret dX9_tellLife_78 (Or.inl rfl) ⟨_, rfl, _, rfl, hyp⟩
  · refine ex_tswIn 4 79 dX9_tellLife_1 c ⟨by decide, by decide⟩ (by decide) (by decide) rfl (by decide) ?_
    have hyp := hv4 c
    refine ex_aload_n 80 dX9_tellLife_79 rfl rfl ?_
    refine s_callVi [] 83 dX9_tellLife_80 rfl cvX9_298 rfl rfl ⟨Nat.le_of_ble_eq_true rfl, Nat.le_of_ble_eq_true rfl⟩ (Nat.le_of_ble_eq_true rfl) (obL hs0) hyp (fun y9 h1 hq => ?_)
    obtain ⟨g8, rfl, hyp⟩ := hq
    obtain ⟨o10, hyp⟩ := hyp
    obtain ⟨ht, hf⟩ := hyp
    refine ex_if_eq 93 86 dX9_tellLife_83 (by decide) rfl o10 (fun c11 => ?_) (fun c11 => ?_)
    · have hyp := ht c11
      clear ht hf
      refine ex_iconst 94 dX9_tellLife_93 rfl ?_
      exact ex_iret dX9_tellLife_94 (Or.inl rfl) ⟨_, rfl, _, rfl, hyp⟩
    · have hyp := hf c11
      clear ht hf
      refine ex_aload_n 87 dX9_tellLife_86 rfl rfl ?_
      refine q_getI 1 6 90 dX9_tellLife_87 rfl fiX9_302 (Or.inl rfl) (obL hs0) ?_
      refine ex_goto 94 dX9_tellLife_90 (by decide) ?_
      exact ex_iret dX9_tellLife_94 (Or.inl rfl) ⟨_, rfl, _, rfl, hyp⟩
  · refine ex_tswIn 5 95 dX9_tellLife_1 c ⟨by decide, by decide⟩ (by decide) (by decide) rfl (by decide) ?_
    have hyp := hv5 c
    refine ex_aload_n 96 dX9_tellLife_95 rfl rfl ?_
    refine q_getI 1 8 99 dX9_tellLife_96 rfl fiX9_303 (Or.inr rfl) (obL hs0) ?_
    obtain ⟨o12, hyp⟩ := hyp
    obtain ⟨ht, hf⟩ := hyp
    refine ex_if_eq 106 102 dX9_tellLife_99 (by decide) rfl o12 (fun c13 => ?_) (fun c13 => ?_)
    · have hyp := ht c13
      clear ht hf
      refine ex_iconst 107 dX9_tellLife_106 rfl ?_
      exact ex_iret dX9_tellLife_107 (Or.inl rfl) ⟨_, rfl, _, rfl, hyp⟩
    · have hyp := hf c13
      clear ht hf
      refine ex_iconst 103 dX9_tellLife_102 rfl ?_
      refine ex_goto 107 dX9_tellLife_103 (by decide) ?_
      exact ex_iret dX9_tellLife_107 (Or.inl rfl) ⟨_, rfl, _, rfl, hyp⟩
  · refine ex_tswIn 6 108 dX9_tellLife_1 c ⟨by decide, by decide⟩ (by decide) (by decide) rfl (by decide) ?_
    have hyp := hv6 c
    refine ex_aload_n 109 dX9_tellLife_108 rfl rfl ?_
    refine q_getI 1 1 112 dX9_tellLife_109 rfl fiX9_306 (Or.inl rfl) (obL hs0) ?_
    exact ex_iret dX9_tellLife_112 (Or.inl rfl) ⟨_, rfl, _, rfl, hyp⟩
  · refine ex_tswIn 7 113 dX9_tellLife_1 c ⟨by decide, by decide⟩ (by decide) (by decide) rfl (by decide) ?_
    have hyp := hv7 c
    refine ex_aload_n 114 dX9_tellLife_113 rfl rfl ?_
    refine q_getI 1 7 117 dX9_tellLife_114 rfl fiX9_307 (Or.inl rfl) (obL hs0) ?_
    exact ex_iret dX9_tellLife_117 (Or.inl rfl) ⟨_, rfl, _, rfl, hyp⟩
set_option maxRecDepth 4000 in
theorem uX9_mixed {P : Int → GS → Prop} (g0 : GS) (x0 : Int) (x2 : Int) (hyp : P ((31 * x0) + x2) g0) : MXl mX9_mixed [vl x0, vl x2] g0 P := by
  refine met_of_ex (by decide +kernel) (Nat.le_of_ble_eq_true rfl) ?_
  show EX mX9_mixed 0 [some (vl x0), none, some (vl x2), none] [] (hX g0) (0, 0) _
  refine ex_ldc2 (n := 31) 3 dX9_mixed_0 rfl (wt4 75 rfl rfl) ?_
  refine ex_lload_n 4 dX9_mixed_3 rfl rfl ?_
  refine ex_lmul 5 dX9_mixed_4 rfl ?_
  refine ex_lload_n 6 dX9_mixed_5 rfl rfl ?_
  refine ex_ladd 7 dX9_mixed_6 rfl ?_
  exact ex_lret dX9_mixed_7 rfl ⟨_, rfl, _, rfl, hyp⟩
set_option maxRecDepth 4000 in
theorem uX9_mixEntries {P : Int → GS → Prop} (g0 : GS) (x1 : Int) (hyp : XXl mX9_mixEntries 5 [some (vr 0), none, none, some (vl x1), none, some (vi 0), none, none] [] g0 P) : MXl mX9_mixEntries [vr 0, vl x1] g0 P := by
  refine met_of_ex (by decide +kernel) (Nat.le_of_ble_eq_true rfl) ?_
  show EX mX9_mixEntries 0 [some (vr 0), some (vl x1), none, none, none, none, none, none] [] (hX g0) (0, 0) _
  refine ex_lload_n 1 dX9_mixEntries_0 rfl rfl ?_
  refine q_lstore_n [some (vr 0), some (vl x1), none, some (vl x1), none, none, none, none] 2 dX9_mixEntries_1 rfl (Nat.le_of_ble_eq_true rfl) rfl rfl ?_
  refine ex_iconst 3 dX9_mixEntries_2 rfl ?_
  refine q_istore [some (vr 0), some (vl x1), none, some (vl x1), none, some (vi 0), none, none] 5 dX9_mixEntries_3 rfl (Nat.le_of_ble_eq_true rfl) rfl rfl ?_
  refine ex_dropL (ls' := [some (vr 0), none, none, some (vl x1), none, some (vi 0), none, none]) 1 rfl ?_
  exact hyp
set_option maxRecDepth 4000 in
theorem uX9_mixEntries_5 {P : Int → GS → Prop} (g0 : GS) (x3 : Int) (x5 : Int) (hyp : rng x5 ∧ rng (g0.1 8 2) ∧ (g0.1 8 2 ≤ x5 → (P x3 g0)) ∧ (x5 < g0.1 8 2 → (XXl mX9_mixEntries 20 [some (vr 0), none, none, some (vl x3), none, some (vi x5), some (vi 0), none] [] g0 P))) : XXl mX9_mixEntries 5 [some (vr 0), none, none, some (vl x3), none, some (vi x5), none, none] [] g0 P := by
  refine ex_iload 7 dX9_mixEntries_5 rfl rfl ?_
  refine ex_aload_n 8 dX9_mixEntries_7 rfl rfl ?_
  refine q_getR (a := 8) 9 3 11 dX9_mixEntries_8 rfl fiX9_33 rfl ⟨_, rfl⟩ rfl ?_
  refine q_getI 8 2 14 dX9_mixEntries_11 rfl fiX9_142 (Or.inl rfl) ⟨_, rfl⟩ ?_
  obtain ⟨o1, hyp⟩ := hyp
  obtain ⟨o2, hyp⟩ := hyp
  obtain ⟨ht, hf⟩ := hyp
  refine ex_icmp_ge 128 17 dX9_mixEntries_14 (by decide) rfl o1 o2 (fun c3 => ?_) (fun c3 => ?_)
  · have hyp := ht c3
    clear ht hf
    refine ex_lload_n 129 dX9_mixEntries_128 rfl rfl ?_
    exact ex_lret dX9_mixEntries_129 rfl ⟨_, rfl, _, rfl, hyp⟩
  · have hyp := hf c3
    clear ht hf
    refine ex_iconst 18 dX9_mixEntries_17 rfl ?_
    refine q_istore [some (vr 0), none, none, some (vl x3), none, some (vi x5), some (vi 0), none] 20 dX9_mixEntries_18 rfl (Nat.le_of_ble_eq_true rfl) rfl rfl ?_
    exact hyp
set_option maxRecDepth 4000 in
theorem uX9_mixEntries_20 {P : Int → GS → Prop} (g0 : GS) (x3 : Int) (x5 : Int) (x6 : Int) (hyp : rng x6 ∧ (7 < x6 → (0 ≤ x5 ∧ x5 < 18 ∧ g0.2.1 (x5).toNat < 18 ∧ XXl mX9_mixEntries 62 [some (vr 0), none, none, some (vl x3), none, some (vi x5), some (vr (11 + 3 * (g0.2.1 (x5).toNat))), some (vi 0)] [] g0 P)) ∧ (x6 ≤ 7 → (MXi mX9_tellEntry [vr 0, vi x5, vi x6] g0 (fun y6 g5 => rng y6 ∧ MXl mX9_mixed [vl x3, vl y6] g5 (fun y9 g8 => XXl mX9_mixEntries 20 [some (vr 0), none, none, some (vl y9), none, some (vi x5), some (vi (x6 + 1)), none] [] g8 P))))) : XXl mX9_mixEntries 20 [some (vr 0), none, none, some (vl x3), none, some (vi x5), some (vi x6), none] [] g0 P := by
  refine ex_iload 22 dX9_mixEntries_20 rfl rfl ?_
  refine ex_bipush 24 dX9_mixEntries_22 rfl ⟨by decide, by decide⟩ ?_
  obtain ⟨o1, hyp⟩ := hyp
  obtain ⟨ht, hf⟩ := hyp
  refine ex_icmp_gt 47 27 dX9_mixEntries_24 (by decide) rfl o1 ⟨by decide, by decide⟩ (fun c10 => ?_) (fun c10 => ?_)
  · have hyp := ht c10
    clear ht hf
    refine ex_aload_n 48 dX9_mixEntries_47 rfl rfl ?_
    refine q_getR (a := 8) 9 3 51 dX9_mixEntries_48 rfl fiX9_33 rfl ⟨_, rfl⟩ rfl ?_
    refine q_getR (a := 9) 8 0 54 dX9_mixEntries_51 rfl fiX9_121 rfl ⟨_, rfl⟩ rfl ?_
    refine ex_iload 56 dX9_mixEntries_54 rfl rfl ?_
    obtain ⟨o2, hyp⟩ := hyp
    obtain ⟨o3, hyp⟩ := hyp
    obtain ⟨o4, hyp⟩ := hyp
    refine ex_aald (a := (11 + 3 * (g0.2.1 (x5).toNat))) 21 57 dX9_mixEntries_56 rfl (by decide) (ai_of (n := 18) rfl o2 o3 (by decide)) (rxR g0 (ltN (n := 18) o2 o3)) ?_
    refine q_astore [some (vr 0), none, none, some (vl x3), none, some (vi x5), some (vr (11 + 3 * (g0.2.1 (x5).toNat))), none] 59 dX9_mixEntries_57 rfl (Nat.le_of_ble_eq_true rfl) rfl rfl ?_
    refine ex_iconst 60 dX9_mixEntries_59 rfl ?_
    refine q_istore [some (vr 0), none, none, some (vl x3), none, some (vi x5), some (vr (11 + 3 * (g0.2.1 (x5).toNat))), some (vi 0)] 62 dX9_mixEntries_60 rfl (Nat.le_of_ble_eq_true rfl) rfl rfl ?_
    exact hyp
  · have hyp := hf c10
    clear ht hf
    refine ex_lload_n 28 dX9_mixEntries_27 rfl rfl ?_
    refine ex_aload_n 29 dX9_mixEntries_28 rfl rfl ?_
    refine ex_iload 31 dX9_mixEntries_29 rfl rfl ?_
    refine ex_iload 33 dX9_mixEntries_31 rfl rfl ?_
    refine s_callVi [vi x5, vi x6] 36 dX9_mixEntries_33 rfl cvX9_117 rfl rfl ⟨Nat.le_of_ble_eq_true rfl, Nat.le_of_ble_eq_true rfl⟩ (Nat.le_of_ble_eq_true rfl) ⟨_, rfl⟩ hyp (fun y6 h1 hq => ?_)
    obtain ⟨g5, rfl, hyp⟩ := hq
    obtain ⟨o7, hyp⟩ := hyp
    refine ex_i2l 37 dX9_mixEntries_36 rfl o7 ?_
    refine s_callSl [vl x3, vl y6] 40 dX9_mixEntries_37 rfl cvX9_226 rfl rfl ⟨Nat.le_of_ble_eq_true rfl, Nat.le_of_ble_eq_true rfl⟩ (Nat.le_of_ble_eq_true rfl) hyp (fun y9 h1 hq => ?_)
    obtain ⟨g8, rfl, hyp⟩ := hq
    refine q_lstore_n [some (vr 0), none, none, some (vl y9), none, some (vi x5), some (vi x6), none] 41 dX9_mixEntries_40 rfl (Nat.le_of_ble_eq_true rfl) rfl rfl ?_
    refine q_iinc [some (vr 0), none, none, some (vl y9), none, some (vi x5), some (vi (x6 + 1)), none] 44 dX9_mixEntries_41 rfl rfl (Nat.le_of_ble_eq_true rfl) rfl rfl ?_
    refine ex_goto 20 dX9_mixEntries_44 (by decide) ?_
    exact hyp
set_option maxRecDepth 4000 in
theorem uX9_mixEntries_62 {P : Int → GS → Prop} (g0 : GS) (x3 : Int) (x5 : Int) (s6 : Nat) (hs6 : s6 < 18) (x7 : Int) (hyp : rng x7 ∧ rng (g0.1 (11 + 3 * s6) 3) ∧ (g0.1 (11 + 3 * s6) 3 ≤ x7 → (MXi mX6_countFitting [vr 65, vi x5] g0 (fun y4 g3 => rng y4 ∧ MXl mX9_mixed [vl x3, vl y4] g3 (fun y7 g6 => MXi mX6_bestFor [vr 65, vi x5] g6 (fun y9 g8 => rng y9 ∧ MXl mX9_mixed [vl y7, vl y9] g8 (fun y12 g11 => XXl mX9_mixEntries 5 [some (vr 0), none, none, some (vl y12), none, some (vi (x5 + 1)), none, none] [] g11 P)))))) ∧ (x7 < g0.1 (11 + 3 * s6) 3 → (0 ≤ x7 ∧ x7 < 8 ∧ rng (g0.1 (12 + 3 * s6) (x7).toNat) ∧ MXl mX9_mixed [vl x3, vl (g0.1 (12 + 3 * s6) (x7).toNat)] g0 (fun y17 g16 => XXl mX9_mixEntries 62 [some (vr 0), none, none, some (vl y17), none, some (vi x5), some (vr (11 + 3 * s6)), some (vi (x7 + 1))] [] g16 P)))) : XXl mX9_mixEntries 62 [some (vr 0), none, none, some (vl x3), none, some (vi x5), some (vr (11 + 3 * s6)), some (vi x7)] [] g0 P := by
  refine ex_iload 64 dX9_mixEntries_62 rfl rfl ?_
  refine ex_aload 66 dX9_mixEntries_64 rfl rfl ?_
  refine q_getI 0 3 69 dX9_mixEntries_66 rfl fiX9_125 (Or.inl rfl) (obE hs6) ?_
  obtain ⟨o1, hyp⟩ := hyp
  obtain ⟨o2, hyp⟩ := hyp
  obtain ⟨ht, hf⟩ := hyp
  refine ex_icmp_ge 92 72 dX9_mixEntries_69 (by decide) rfl o1 o2 (fun c18 => ?_) (fun c18 => ?_)
  · have hyp := ht c18
    clear ht hf
    refine ex_lload_n 93 dX9_mixEntries_92 rfl rfl ?_
    refine ex_aload_n 94 dX9_mixEntries_93 rfl rfl ?_
    refine q_getR (a := 65) 9 4 97 dX9_mixEntries_94 rfl fiX9_40 rfl ⟨_, rfl⟩ rfl ?_
    refine ex_iload 99 dX9_mixEntries_97 rfl rfl ?_
    refine s_callVi [vi x5] 102 dX9_mixEntries_99 rfl cvX9_161 rfl rfl ⟨Nat.le_of_ble_eq_true rfl, Nat.le_of_ble_eq_true rfl⟩ (Nat.le_of_ble_eq_true rfl) ⟨_, rfl⟩ hyp (fun y4 h1 hq => ?_)
    obtain ⟨g3, rfl, hyp⟩ := hq
    obtain ⟨o5, hyp⟩ := hyp
    refine ex_i2l 103 dX9_mixEntries_102 rfl o5 ?_
    refine s_callSl [vl x3, vl y4] 106 dX9_mixEntries_103 rfl cvX9_226 rfl rfl ⟨Nat.le_of_ble_eq_true rfl, Nat.le_of_ble_eq_true rfl⟩ (Nat.le_of_ble_eq_true rfl) hyp (fun y7 h1 hq => ?_)
    obtain ⟨g6, rfl, hyp⟩ := hq
    refine q_lstore_n [some (vr 0), none, none, some (vl y7), none, some (vi x5), some (vr (11 + 3 * s6)), some (vi x7)] 107 dX9_mixEntries_106 rfl (Nat.le_of_ble_eq_true rfl) rfl rfl ?_
    refine ex_lload_n 108 dX9_mixEntries_107 rfl rfl ?_
    refine ex_aload_n 109 dX9_mixEntries_108 rfl rfl ?_
    refine q_getR (a := 65) 9 4 112 dX9_mixEntries_109 rfl fiX9_40 rfl ⟨_, rfl⟩ rfl ?_
    refine ex_iload 114 dX9_mixEntries_112 rfl rfl ?_
    refine s_callVi [vi x5] 117 dX9_mixEntries_114 rfl cvX9_165 rfl rfl ⟨Nat.le_of_ble_eq_true rfl, Nat.le_of_ble_eq_true rfl⟩ (Nat.le_of_ble_eq_true rfl) ⟨_, rfl⟩ hyp (fun y9 h1 hq => ?_)
    obtain ⟨g8, rfl, hyp⟩ := hq
    obtain ⟨o10, hyp⟩ := hyp
    refine ex_i2l 118 dX9_mixEntries_117 rfl o10 ?_
    refine s_callSl [vl y7, vl y9] 121 dX9_mixEntries_118 rfl cvX9_226 rfl rfl ⟨Nat.le_of_ble_eq_true rfl, Nat.le_of_ble_eq_true rfl⟩ (Nat.le_of_ble_eq_true rfl) hyp (fun y12 h1 hq => ?_)
    obtain ⟨g11, rfl, hyp⟩ := hq
    refine q_lstore_n [some (vr 0), none, none, some (vl y12), none, some (vi x5), some (vr (11 + 3 * s6)), some (vi x7)] 122 dX9_mixEntries_121 rfl (Nat.le_of_ble_eq_true rfl) rfl rfl ?_
    refine q_iinc [some (vr 0), none, none, some (vl y12), none, some (vi (x5 + 1)), some (vr (11 + 3 * s6)), some (vi x7)] 125 dX9_mixEntries_122 rfl rfl (Nat.le_of_ble_eq_true rfl) rfl rfl ?_
    refine ex_goto 5 dX9_mixEntries_125 (by decide) ?_
    refine ex_dropL (ls' := [some (vr 0), none, none, some (vl y12), none, some (vi (x5 + 1)), none, some (vi x7)]) 6 rfl ?_
    refine ex_dropL (ls' := [some (vr 0), none, none, some (vl y12), none, some (vi (x5 + 1)), none, none]) 7 rfl ?_
    exact hyp
  · have hyp := hf c18
    clear ht hf
    refine ex_lload_n 73 dX9_mixEntries_72 rfl rfl ?_
    refine ex_aload 75 dX9_mixEntries_73 rfl rfl ?_
    refine q_getR (a := (12 + 3 * s6)) 0 1 78 dX9_mixEntries_75 rfl fiX9_130 rfl (obE hs6) (rxN g0 hs6) ?_
    refine ex_iload 80 dX9_mixEntries_78 rfl rfl ?_
    obtain ⟨o13, hyp⟩ := hyp
    obtain ⟨o14, hyp⟩ := hyp
    refine ex_iald 81 dX9_mixEntries_80 rfl (ai_of (n := 8) (txN _ hs6) o13 o14 (by decide)) ?_
    obtain ⟨o15, hyp⟩ := hyp
    refine ex_i2l 82 dX9_mixEntries_81 rfl o15 ?_
    refine s_callSl [vl x3, vl (g0.1 (12 + 3 * s6) (x7).toNat)] 85 dX9_mixEntries_82 rfl cvX9_226 rfl rfl ⟨Nat.le_of_ble_eq_true rfl, Nat.le_of_ble_eq_true rfl⟩ (Nat.le_of_ble_eq_true rfl) hyp (fun y17 h1 hq => ?_)
    obtain ⟨g16, rfl, hyp⟩ := hq
    refine q_lstore_n [some (vr 0), none, none, some (vl y17), none, some (vi x5), some (vr (11 + 3 * s6)), some (vi x7)] 86 dX9_mixEntries_85 rfl (Nat.le_of_ble_eq_true rfl) rfl rfl ?_
    refine q_iinc [some (vr 0), none, none, some (vl y17), none, some (vi x5), some (vr (11 + 3 * s6)), some (vi (x7 + 1))] 89 dX9_mixEntries_86 rfl rfl (Nat.le_of_ble_eq_true rfl) rfl rfl ?_
    refine ex_goto 62 dX9_mixEntries_89 (by decide) ?_
    exact hyp
set_option maxRecDepth 4000 in
theorem uX9_mixTwos {P : Int → GS → Prop} (g0 : GS) (x1 : Int) (hyp : XXl mX9_mixTwos 5 [some (vr 0), none, none, some (vl x1), none, some (vi 0), none, none] [] g0 P) : MXl mX9_mixTwos [vr 0, vl x1] g0 P := by
  refine met_of_ex (by decide +kernel) (Nat.le_of_ble_eq_true rfl) ?_
  show EX mX9_mixTwos 0 [some (vr 0), some (vl x1), none, none, none, none, none, none] [] (hX g0) (0, 0) _
  refine ex_lload_n 1 dX9_mixTwos_0 rfl rfl ?_
  refine q_lstore_n [some (vr 0), some (vl x1), none, some (vl x1), none, none, none, none] 2 dX9_mixTwos_1 rfl (Nat.le_of_ble_eq_true rfl) rfl rfl ?_
  refine ex_iconst 3 dX9_mixTwos_2 rfl ?_
  refine q_istore [some (vr 0), some (vl x1), none, some (vl x1), none, some (vi 0), none, none] 5 dX9_mixTwos_3 rfl (Nat.le_of_ble_eq_true rfl) rfl rfl ?_
  refine ex_dropL (ls' := [some (vr 0), none, none, some (vl x1), none, some (vi 0), none, none]) 1 rfl ?_
  exact hyp
set_option maxRecDepth 4000 in
theorem uX9_mixTwos_5 {P : Int → GS → Prop} (g0 : GS) (x3 : Int) (x5 : Int) (hyp : rng x5 ∧ rng (g0.1 8 2) ∧ (g0.1 8 2 ≤ x5 → (P x3 g0)) ∧ (x5 < g0.1 8 2 → (XXl mX9_mixTwos 23 [some (vr 0), none, none, some (vl x3), none, some (vi x5), some (vi (x5 + 1)), none] [] g0 P))) : XXl mX9_mixTwos 5 [some (vr 0), none, none, some (vl x3), none, some (vi x5), none, none] [] g0 P := by
  refine ex_iload 7 dX9_mixTwos_5 rfl rfl ?_
  refine ex_aload_n 8 dX9_mixTwos_7 rfl rfl ?_
  refine q_getR (a := 8) 9 3 11 dX9_mixTwos_8 rfl fiX9_33 rfl ⟨_, rfl⟩ rfl ?_
  refine q_getI 8 2 14 dX9_mixTwos_11 rfl fiX9_142 (Or.inl rfl) ⟨_, rfl⟩ ?_
  obtain ⟨o1, hyp⟩ := hyp
  obtain ⟨o2, hyp⟩ := hyp
  obtain ⟨ht, hf⟩ := hyp
  refine ex_icmp_ge 78 17 dX9_mixTwos_14 (by decide) rfl o1 o2 (fun c3 => ?_) (fun c3 => ?_)
  · have hyp := ht c3
    clear ht hf
    refine ex_lload_n 79 dX9_mixTwos_78 rfl rfl ?_
    exact ex_lret dX9_mixTwos_79 rfl ⟨_, rfl, _, rfl, hyp⟩
  · have hyp := hf c3
    clear ht hf
    refine ex_iload 19 dX9_mixTwos_17 rfl rfl ?_
    refine ex_iconst 20 dX9_mixTwos_19 rfl ?_
    refine ex_iadd 21 dX9_mixTwos_20 rfl ?_
    refine q_istore [some (vr 0), none, none, some (vl x3), none, some (vi x5), some (vi (x5 + 1)), none] 23 dX9_mixTwos_21 rfl (Nat.le_of_ble_eq_true rfl) rfl rfl ?_
    exact hyp
set_option maxRecDepth 4000 in
theorem uX9_mixTwos_23 {P : Int → GS → Prop} (g0 : GS) (x3 : Int) (x5 : Int) (x6 : Int) (hyp : rng x6 ∧ rng (g0.1 8 2) ∧ (g0.1 8 2 ≤ x6 → (XXl mX9_mixTwos 5 [some (vr 0), none, none, some (vl x3), none, some (vi (x5 + 1)), none, none] [] g0 P)) ∧ (x6 < g0.1 8 2 → (XXl mX9_mixTwos 38 [some (vr 0), none, none, some (vl x3), none, some (vi x5), some (vi x6), some (vi 0)] [] g0 P))) : XXl mX9_mixTwos 23 [some (vr 0), none, none, some (vl x3), none, some (vi x5), some (vi x6), none] [] g0 P := by
  refine ex_iload 25 dX9_mixTwos_23 rfl rfl ?_
  refine ex_aload_n 26 dX9_mixTwos_25 rfl rfl ?_
  refine q_getR (a := 8) 9 3 29 dX9_mixTwos_26 rfl fiX9_33 rfl ⟨_, rfl⟩ rfl ?_
  refine q_getI 8 2 32 dX9_mixTwos_29 rfl fiX9_142 (Or.inl rfl) ⟨_, rfl⟩ ?_
  obtain ⟨o1, hyp⟩ := hyp
  obtain ⟨o2, hyp⟩ := hyp
  obtain ⟨ht, hf⟩ := hyp
  refine ex_icmp_ge 72 35 dX9_mixTwos_32 (by decide) rfl o1 o2 (fun c3 => ?_) (fun c3 => ?_)
  · have hyp := ht c3
    clear ht hf
    refine q_iinc [some (vr 0), none, none, some (vl x3), none, some (vi (x5 + 1)), some (vi x6), none] 75 dX9_mixTwos_72 rfl rfl (Nat.le_of_ble_eq_true rfl) rfl rfl ?_
    refine ex_goto 5 dX9_mixTwos_75 (by decide) ?_
    refine ex_dropL (ls' := [some (vr 0), none, none, some (vl x3), none, some (vi (x5 + 1)), none, none]) 6 rfl ?_
    exact hyp
  · have hyp := hf c3
    clear ht hf
    refine ex_iconst 36 dX9_mixTwos_35 rfl ?_
    refine q_istore [some (vr 0), none, none, some (vl x3), none, some (vi x5), some (vi x6), some (vi 0)] 38 dX9_mixTwos_36 rfl (Nat.le_of_ble_eq_true rfl) rfl rfl ?_
    exact hyp
set_option maxRecDepth 4000 in
theorem uX9_mixTwos_38 {P : Int → GS → Prop} (g0 : GS) (x3 : Int) (x5 : Int) (x6 : Int) (x7 : Int) (hyp : rng x7 ∧ (4 < x7 → (XXl mX9_mixTwos 23 [some (vr 0), none, none, some (vl x3), none, some (vi x5), some (vi (x6 + 1)), none] [] g0 P)) ∧ (x7 ≤ 4 → (MXi mX9_tellTwo [vr 0, vi x5, vi x6, vi x7] g0 (fun y3 g2 => rng y3 ∧ MXl mX9_mixed [vl x3, vl y3] g2 (fun y6 g5 => XXl mX9_mixTwos 38 [some (vr 0), none, none, some (vl y6), none, some (vi x5), some (vi x6), some (vi (x7 + 1))] [] g5 P))))) : XXl mX9_mixTwos 38 [some (vr 0), none, none, some (vl x3), none, some (vi x5), some (vi x6), some (vi x7)] [] g0 P := by
  refine ex_iload 40 dX9_mixTwos_38 rfl rfl ?_
  refine ex_iconst 41 dX9_mixTwos_40 rfl ?_
  obtain ⟨o1, hyp⟩ := hyp
  obtain ⟨ht, hf⟩ := hyp
  refine ex_icmp_gt 66 44 dX9_mixTwos_41 (by decide) rfl o1 ⟨by decide, by decide⟩ (fun c7 => ?_) (fun c7 => ?_)
  · have hyp := ht c7
    clear ht hf
    refine q_iinc [some (vr 0), none, none, some (vl x3), none, some (vi x5), some (vi (x6 + 1)), some (vi x7)] 69 dX9_mixTwos_66 rfl rfl (Nat.le_of_ble_eq_true rfl) rfl rfl ?_
    refine ex_goto 23 dX9_mixTwos_69 (by decide) ?_
    refine ex_dropL (ls' := [some (vr 0), none, none, some (vl x3), none, some (vi x5), some (vi (x6 + 1)), none]) 7 rfl ?_
    exact hyp
  · have hyp := hf c7
    clear ht hf
    refine ex_lload_n 45 dX9_mixTwos_44 rfl rfl ?_
    refine ex_aload_n 46 dX9_mixTwos_45 rfl rfl ?_
    refine ex_iload 48 dX9_mixTwos_46 rfl rfl ?_
    refine ex_iload 50 dX9_mixTwos_48 rfl rfl ?_
    refine ex_iload 52 dX9_mixTwos_50 rfl rfl ?_
    refine s_callVi [vi x5, vi x6, vi x7] 55 dX9_mixTwos_52 rfl cvX9_157 rfl rfl ⟨Nat.le_of_ble_eq_true rfl, Nat.le_of_ble_eq_true rfl⟩ (Nat.le_of_ble_eq_true rfl) ⟨_, rfl⟩ hyp (fun y3 h1 hq => ?_)
    obtain ⟨g2, rfl, hyp⟩ := hq
    obtain ⟨o4, hyp⟩ := hyp
    refine ex_i2l 56 dX9_mixTwos_55 rfl o4 ?_
    refine s_callSl [vl x3, vl y3] 59 dX9_mixTwos_56 rfl cvX9_226 rfl rfl ⟨Nat.le_of_ble_eq_true rfl, Nat.le_of_ble_eq_true rfl⟩ (Nat.le_of_ble_eq_true rfl) hyp (fun y6 h1 hq => ?_)
    obtain ⟨g5, rfl, hyp⟩ := hq
    refine q_lstore_n [some (vr 0), none, none, some (vl y6), none, some (vi x5), some (vi x6), some (vi x7)] 60 dX9_mixTwos_59 rfl (Nat.le_of_ble_eq_true rfl) rfl rfl ?_
    refine q_iinc [some (vr 0), none, none, some (vl y6), none, some (vi x5), some (vi x6), some (vi (x7 + 1))] 63 dX9_mixTwos_60 rfl rfl (Nat.le_of_ble_eq_true rfl) rfl rfl ?_
    refine ex_goto 38 dX9_mixTwos_63 (by decide) ?_
    exact hyp
set_option maxRecDepth 4000 in
theorem uX9_mixLives {P : Int → GS → Prop} (g0 : GS) (x1 : Int) (hyp : XXl mX9_mixLives 5 [some (vr 0), none, none, some (vl x1), none, some (vi 0), none, none] [] g0 P) : MXl mX9_mixLives [vr 0, vl x1] g0 P := by
  refine met_of_ex (by decide +kernel) (Nat.le_of_ble_eq_true rfl) ?_
  show EX mX9_mixLives 0 [some (vr 0), some (vl x1), none, none, none, none, none, none] [] (hX g0) (0, 0) _
  refine ex_lload_n 1 dX9_mixLives_0 rfl rfl ?_
  refine q_lstore_n [some (vr 0), some (vl x1), none, some (vl x1), none, none, none, none] 2 dX9_mixLives_1 rfl (Nat.le_of_ble_eq_true rfl) rfl rfl ?_
  refine ex_iconst 3 dX9_mixLives_2 rfl ?_
  refine q_istore [some (vr 0), some (vl x1), none, some (vl x1), none, some (vi 0), none, none] 5 dX9_mixLives_3 rfl (Nat.le_of_ble_eq_true rfl) rfl rfl ?_
  refine ex_dropL (ls' := [some (vr 0), none, none, some (vl x1), none, some (vi 0), none, none]) 1 rfl ?_
  exact hyp
set_option maxRecDepth 4000 in
theorem uX9_mixLives_5 {P : Int → GS → Prop} (g0 : GS) (x3 : Int) (x5 : Int) (hyp : rng x5 ∧ (5 < x5 → (XXl mX9_mixLives 32 [some (vr 0), none, none, some (vl x3), none, some (vi 0), none, none] [] g0 P)) ∧ (x5 ≤ 5 → (MXi mX9_tellLives [vr 0, vi x5] g0 (fun y3 g2 => rng y3 ∧ MXl mX9_mixed [vl x3, vl y3] g2 (fun y6 g5 => XXl mX9_mixLives 5 [some (vr 0), none, none, some (vl y6), none, some (vi (x5 + 1)), none, none] [] g5 P))))) : XXl mX9_mixLives 5 [some (vr 0), none, none, some (vl x3), none, some (vi x5), none, none] [] g0 P := by
  refine ex_iload 7 dX9_mixLives_5 rfl rfl ?_
  refine ex_iconst 8 dX9_mixLives_7 rfl ?_
  obtain ⟨o1, hyp⟩ := hyp
  obtain ⟨ht, hf⟩ := hyp
  refine ex_icmp_gt 29 11 dX9_mixLives_8 (by decide) rfl o1 ⟨by decide, by decide⟩ (fun c7 => ?_) (fun c7 => ?_)
  · have hyp := ht c7
    clear ht hf
    refine ex_iconst 30 dX9_mixLives_29 rfl ?_
    refine q_istore [some (vr 0), none, none, some (vl x3), none, some (vi 0), none, none] 32 dX9_mixLives_30 rfl (Nat.le_of_ble_eq_true rfl) rfl rfl ?_
    exact hyp
  · have hyp := hf c7
    clear ht hf
    refine ex_lload_n 12 dX9_mixLives_11 rfl rfl ?_
    refine ex_aload_n 13 dX9_mixLives_12 rfl rfl ?_
    refine ex_iload 15 dX9_mixLives_13 rfl rfl ?_
    refine s_callVi [vi x5] 18 dX9_mixLives_15 rfl cvX9_168 rfl rfl ⟨Nat.le_of_ble_eq_true rfl, Nat.le_of_ble_eq_true rfl⟩ (Nat.le_of_ble_eq_true rfl) ⟨_, rfl⟩ hyp (fun y3 h1 hq => ?_)
    obtain ⟨g2, rfl, hyp⟩ := hq
    obtain ⟨o4, hyp⟩ := hyp
    refine ex_i2l 19 dX9_mixLives_18 rfl o4 ?_
    refine s_callSl [vl x3, vl y3] 22 dX9_mixLives_19 rfl cvX9_226 rfl rfl ⟨Nat.le_of_ble_eq_true rfl, Nat.le_of_ble_eq_true rfl⟩ (Nat.le_of_ble_eq_true rfl) hyp (fun y6 h1 hq => ?_)
    obtain ⟨g5, rfl, hyp⟩ := hq
    refine q_lstore_n [some (vr 0), none, none, some (vl y6), none, some (vi x5), none, none] 23 dX9_mixLives_22 rfl (Nat.le_of_ble_eq_true rfl) rfl rfl ?_
    refine q_iinc [some (vr 0), none, none, some (vl y6), none, some (vi (x5 + 1)), none, none] 26 dX9_mixLives_23 rfl rfl (Nat.le_of_ble_eq_true rfl) rfl rfl ?_
    refine ex_goto 5 dX9_mixLives_26 (by decide) ?_
    exact hyp
set_option maxRecDepth 4000 in
theorem uX9_mixLives_32 {P : Int → GS → Prop} (g0 : GS) (x3 : Int) (x5 : Int) (hyp : rng x5 ∧ rng (g0.1 117 2) ∧ (g0.1 117 2 ≤ x5 → (P x3 g0)) ∧ (x5 < g0.1 117 2 → (0 ≤ x5 ∧ x5 < 18 ∧ XXl mX9_mixLives 59 [some (vr 0), none, none, some (vl x3), none, some (vi x5), some (vr (121 + 2 * (x5).toNat)), some (vi 0)] [] g0 P))) : XXl mX9_mixLives 32 [some (vr 0), none, none, some (vl x3), none, some (vi x5), none, none] [] g0 P := by
  refine ex_iload 34 dX9_mixLives_32 rfl rfl ?_
  refine ex_aload_n 35 dX9_mixLives_34 rfl rfl ?_
  refine q_getR (a := 117) 9 6 38 dX9_mixLives_35 rfl fiX9_54 rfl ⟨_, rfl⟩ rfl ?_
  refine q_getI 2 2 41 dX9_mixLives_38 rfl fiX9_278 (Or.inl rfl) ⟨_, rfl⟩ ?_
  obtain ⟨o1, hyp⟩ := hyp
  obtain ⟨o2, hyp⟩ := hyp
  obtain ⟨ht, hf⟩ := hyp
  refine ex_icmp_ge 128 44 dX9_mixLives_41 (by decide) rfl o1 o2 (fun c5 => ?_) (fun c5 => ?_)
  · have hyp := ht c5
    clear ht hf
    refine ex_lload_n 129 dX9_mixLives_128 rfl rfl ?_
    exact ex_lret dX9_mixLives_129 rfl ⟨_, rfl, _, rfl, hyp⟩
  · have hyp := hf c5
    clear ht hf
    refine ex_aload_n 45 dX9_mixLives_44 rfl rfl ?_
    refine q_getR (a := 117) 9 6 48 dX9_mixLives_45 rfl fiX9_54 rfl ⟨_, rfl⟩ rfl ?_
    refine q_getR (a := 118) 2 0 51 dX9_mixLives_48 rfl fiX9_172 rfl ⟨_, rfl⟩ rfl ?_
    refine ex_iload 53 dX9_mixLives_51 rfl rfl ?_
    obtain ⟨o3, hyp⟩ := hyp
    obtain ⟨o4, hyp⟩ := hyp
    refine ex_aald (a := (121 + 2 * (x5).toNat)) 22 54 dX9_mixLives_53 rfl (by decide) (ai_of (n := 18) rfl o3 o4 (by decide)) (rxA g0 (ltN (n := 18) o3 o4)) ?_
    refine q_astore [some (vr 0), none, none, some (vl x3), none, some (vi x5), some (vr (121 + 2 * (x5).toNat)), none] 56 dX9_mixLives_54 rfl (Nat.le_of_ble_eq_true rfl) rfl rfl ?_
    refine ex_iconst 57 dX9_mixLives_56 rfl ?_
    refine q_istore [some (vr 0), none, none, some (vl x3), none, some (vi x5), some (vr (121 + 2 * (x5).toNat)), some (vi 0)] 59 dX9_mixLives_57 rfl (Nat.le_of_ble_eq_true rfl) rfl rfl ?_
    exact hyp
set_option maxRecDepth 4000 in
theorem uX9_mixLives_59 {P : Int → GS → Prop} (g0 : GS) (x3 : Int) (x5 : Int) (s6 : Nat) (hs6 : s6 < 18) (x7 : Int) (hyp : rng x7 ∧ (7 < x7 → (XXl mX9_mixLives 92 [some (vr 0), none, none, some (vl x3), none, some (vi x5), some (vr (121 + 2 * s6)), some (vi (g0.1 (121 + 2 * s6) 2))] [] g0 P)) ∧ (x7 ≤ 7 → (MXi mX9_tellLife [vr (121 + 2 * s6), vi x7] g0 (fun y3 g2 => rng y3 ∧ MXl mX9_mixed [vl x3, vl y3] g2 (fun y6 g5 => XXl mX9_mixLives 59 [some (vr 0), none, none, some (vl y6), none, some (vi x5), some (vr (121 + 2 * s6)), some (vi (x7 + 1))] [] g5 P))))) : XXl mX9_mixLives 59 [some (vr 0), none, none, some (vl x3), none, some (vi x5), some (vr (121 + 2 * s6)), some (vi x7)] [] g0 P := by
  refine ex_iload 61 dX9_mixLives_59 rfl rfl ?_
  refine ex_bipush 63 dX9_mixLives_61 rfl ⟨by decide, by decide⟩ ?_
  obtain ⟨o1, hyp⟩ := hyp
  obtain ⟨ht, hf⟩ := hyp
  refine ex_icmp_gt 85 66 dX9_mixLives_63 (by decide) rfl o1 ⟨by decide, by decide⟩ (fun c7 => ?_) (fun c7 => ?_)
  · have hyp := ht c7
    clear ht hf
    refine ex_aload 87 dX9_mixLives_85 rfl rfl ?_
    refine q_getI 1 2 90 dX9_mixLives_87 rfl fiX9_188 (Or.inl rfl) (obL hs6) ?_
    refine q_istore [some (vr 0), none, none, some (vl x3), none, some (vi x5), some (vr (121 + 2 * s6)), some (vi (g0.1 (121 + 2 * s6) 2))] 92 dX9_mixLives_90 rfl (Nat.le_of_ble_eq_true rfl) rfl rfl ?_
    exact hyp
  · have hyp := hf c7
    clear ht hf
    refine ex_lload_n 67 dX9_mixLives_66 rfl rfl ?_
    refine ex_aload 69 dX9_mixLives_67 rfl rfl ?_
    refine ex_iload 71 dX9_mixLives_69 rfl rfl ?_
    refine s_callSi [vr (121 + 2 * s6), vi x7] 74 dX9_mixLives_71 rfl cvX9_176 rfl rfl ⟨Nat.le_of_ble_eq_true rfl, Nat.le_of_ble_eq_true rfl⟩ (Nat.le_of_ble_eq_true rfl) hyp (fun y3 h1 hq => ?_)
    obtain ⟨g2, rfl, hyp⟩ := hq
    obtain ⟨o4, hyp⟩ := hyp
    refine ex_i2l 75 dX9_mixLives_74 rfl o4 ?_
    refine s_callSl [vl x3, vl y3] 78 dX9_mixLives_75 rfl cvX9_226 rfl rfl ⟨Nat.le_of_ble_eq_true rfl, Nat.le_of_ble_eq_true rfl⟩ (Nat.le_of_ble_eq_true rfl) hyp (fun y6 h1 hq => ?_)
    obtain ⟨g5, rfl, hyp⟩ := hq
    refine q_lstore_n [some (vr 0), none, none, some (vl y6), none, some (vi x5), some (vr (121 + 2 * s6)), some (vi x7)] 79 dX9_mixLives_78 rfl (Nat.le_of_ble_eq_true rfl) rfl rfl ?_
    refine q_iinc [some (vr 0), none, none, some (vl y6), none, some (vi x5), some (vr (121 + 2 * s6)), some (vi (x7 + 1))] 82 dX9_mixLives_79 rfl rfl (Nat.le_of_ble_eq_true rfl) rfl rfl ?_
    refine ex_goto 59 dX9_mixLives_82 (by decide) ?_
    exact hyp
set_option maxRecDepth 4000 in
theorem uX9_mixLives_92 {P : Int → GS → Prop} (g0 : GS) (x3 : Int) (x5 : Int) (s6 : Nat) (hs6 : s6 < 18) (x7 : Int) (hyp : rng x7 ∧ rng (g0.1 (121 + 2 * s6) 1) ∧ (g0.1 (121 + 2 * s6) 1 ≤ x7 → (XXl mX9_mixLives 32 [some (vr 0), none, none, some (vl x3), none, some (vi (x5 + 1)), none, none] [] g0 P)) ∧ (x7 < g0.1 (121 + 2 * s6) 1 → (0 ≤ x7 ∧ x7 < 5 ∧ rng (g0.1 (122 + 2 * s6) (x7).toNat) ∧ MXl mX9_mixed [vl x3, vl (g0.1 (122 + 2 * s6) (x7).toNat)] g0 (fun y7 g6 => XXl mX9_mixLives 92 [some (vr 0), none, none, some (vl y7), none, some (vi x5), some (vr (121 + 2 * s6)), some (vi (x7 + 1))] [] g6 P)))) : XXl mX9_mixLives 92 [some (vr 0), none, none, some (vl x3), none, some (vi x5), some (vr (121 + 2 * s6)), some (vi x7)] [] g0 P := by
  refine ex_iload 94 dX9_mixLives_92 rfl rfl ?_
  refine ex_aload 96 dX9_mixLives_94 rfl rfl ?_
  refine q_getI 1 1 99 dX9_mixLives_96 rfl fiX9_306 (Or.inl rfl) (obL hs6) ?_
  obtain ⟨o1, hyp⟩ := hyp
  obtain ⟨o2, hyp⟩ := hyp
  obtain ⟨ht, hf⟩ := hyp
  refine ex_icmp_ge 122 102 dX9_mixLives_99 (by decide) rfl o1 o2 (fun c8 => ?_) (fun c8 => ?_)
  · have hyp := ht c8
    clear ht hf
    refine q_iinc [some (vr 0), none, none, some (vl x3), none, some (vi (x5 + 1)), some (vr (121 + 2 * s6)), some (vi x7)] 125 dX9_mixLives_122 rfl rfl (Nat.le_of_ble_eq_true rfl) rfl rfl ?_
    refine ex_goto 32 dX9_mixLives_125 (by decide) ?_
    refine ex_dropL (ls' := [some (vr 0), none, none, some (vl x3), none, some (vi (x5 + 1)), none, some (vi x7)]) 6 rfl ?_
    refine ex_dropL (ls' := [some (vr 0), none, none, some (vl x3), none, some (vi (x5 + 1)), none, none]) 7 rfl ?_
    exact hyp
  · have hyp := hf c8
    clear ht hf
    refine ex_lload_n 103 dX9_mixLives_102 rfl rfl ?_
    refine ex_aload 105 dX9_mixLives_103 rfl rfl ?_
    refine q_getR (a := (122 + 2 * s6)) 1 0 108 dX9_mixLives_105 rfl fiX9_185 rfl (obL hs6) (rxM g0 hs6) ?_
    refine ex_iload 110 dX9_mixLives_108 rfl rfl ?_
    obtain ⟨o3, hyp⟩ := hyp
    obtain ⟨o4, hyp⟩ := hyp
    refine ex_iald 111 dX9_mixLives_110 rfl (ai_of (n := 5) (txQ _ hs6) o3 o4 (by decide)) ?_
    obtain ⟨o5, hyp⟩ := hyp
    refine ex_i2l 112 dX9_mixLives_111 rfl o5 ?_
    refine s_callSl [vl x3, vl (g0.1 (122 + 2 * s6) (x7).toNat)] 115 dX9_mixLives_112 rfl cvX9_226 rfl rfl ⟨Nat.le_of_ble_eq_true rfl, Nat.le_of_ble_eq_true rfl⟩ (Nat.le_of_ble_eq_true rfl) hyp (fun y7 h1 hq => ?_)
    obtain ⟨g6, rfl, hyp⟩ := hq
    refine q_lstore_n [some (vr 0), none, none, some (vl y7), none, some (vi x5), some (vr (121 + 2 * s6)), some (vi x7)] 116 dX9_mixLives_115 rfl (Nat.le_of_ble_eq_true rfl) rfl rfl ?_
    refine q_iinc [some (vr 0), none, none, some (vl y7), none, some (vi x5), some (vr (121 + 2 * s6)), some (vi (x7 + 1))] 119 dX9_mixLives_116 rfl rfl (Nat.le_of_ble_eq_true rfl) rfl rfl ?_
    refine ex_goto 92 dX9_mixLives_119 (by decide) ?_
    exact hyp

set_option maxRecDepth 4000 in
theorem tX2_settle {P : PH → Prop} (h0 : PH) (a0 : Nat) (a1 : Nat) (a2 : Nat) (a3 : Nat) (x4 : Int) (hyp : OB h0 2 a0 ∧ ∀ h2 : PH, h2 = px_upI h0 a0 2 0 → (∀ h5 : PH, h5 = px_upI h2 a0 4 0 → (METv mX2_openByMatch [vr a0, vr a1, vr a3] h5 (0, 0) (fun h8 => h8.1 = h5.1 → (∀ h11 : PH, h11 = px_upI h8 a0 3 (h8.2.1 a0 2) → (EXv mX2_settle 27 [some (vr a0), some (vr a1), some (vr a2), none, some (vi x4), some (vi 0)] [] h11 (0, 0) P)))))) : METv mX2_settle [vr a0, vr a1, vr a2, vr a3, vi x4] h0 (0, 0) P := by
  refine met_of_ex (by decide +kernel) (Nat.le_of_ble_eq_true rfl) ?_
  show EX mX2_settle 0 [some (vr a0), some (vr a1), some (vr a2), some (vr a3), some (vi x4), none] [] h0 (0, 0) _
  refine ex_aload_n 1 dX2_settle_0 rfl rfl ?_
  refine ex_iconst 2 dX2_settle_1 rfl ?_
  obtain ⟨o1, hyp⟩ := hyp
  refine q_putI 2 2 5 dX2_settle_2 rfl fiX2_25 ff2_2 rfl o1 (fun h2 e3 => ?_)
  have hyp := hyp h2 e3
  refine ex_aload_n 6 dX2_settle_5 rfl rfl ?_
  refine ex_iconst 7 dX2_settle_6 rfl ?_
  have f4 := OB.of (KI e3) o1
  refine q_putI 2 4 10 dX2_settle_7 rfl fiX2_29 ff2_4 rfl f4 (fun h5 e6 => ?_)
  have hyp := hyp h5 e6
  refine ex_aload_n 11 dX2_settle_10 rfl rfl ?_
  refine ex_aload_n 12 dX2_settle_11 rfl rfl ?_
  refine ex_aload_n 13 dX2_settle_12 rfl rfl ?_
  have f7 := OB.of (KI e6) f4
  refine q_callVv [vr a1, vr a3] 16 dX2_settle_13 rfl cvX2_32 rfl rfl ⟨Nat.le_of_ble_eq_true rfl, Nat.le_of_ble_eq_true rfl⟩ (Nat.le_of_ble_eq_true rfl) f7 hyp (fun h8 k9 hyp => ?_)
  refine ex_aload_n 17 dX2_settle_16 rfl rfl ?_
  refine ex_aload_n 18 dX2_settle_17 rfl rfl ?_
  have f10 := OB.of k9 f7
  refine q_getI 2 2 21 dX2_settle_18 rfl fiX2_25 (Or.inl rfl) f10 ?_
  refine q_putI 2 3 24 dX2_settle_21 rfl fiX2_36 ff2_3 rfl f10 (fun h11 e12 => ?_)
  have hyp := hyp h11 e12
  refine ex_iconst 25 dX2_settle_24 rfl ?_
  refine q_istore [some (vr a0), some (vr a1), some (vr a2), some (vr a3), some (vi x4), some (vi 0)] 27 dX2_settle_25 rfl (Nat.le_of_ble_eq_true rfl) rfl rfl ?_
  refine ex_dropL (ls' := [some (vr a0), some (vr a1), some (vr a2), none, some (vi x4), some (vi 0)]) 3 rfl ?_
  exact hyp
set_option maxRecDepth 4000 in
theorem tX2_settle_27 {P : PH → Prop} (h0 : PH) (a0 : Nat) (a1 : Nat) (a2 : Nat) (x4 : Int) (x5 : Int) (hyp : OB h0 2 a0 ∧ rng x5 ∧ rng (h0.2.1 a0 3) ∧ (h0.2.1 a0 3 ≤ x5 → (EXv mX2_settle 69 [some (vr a0), some (vr a1), some (vr a2), none, some (vi x4), some (vi 0)] [] h0 (0, 0) P)) ∧ (x5 < h0.2.1 a0 3 → (∃ r4 : Nat, h0.2.2 a0 0 = some r4 ∧ AI h0 22 r4 x5 ∧ ∃ r7 : Nat, h0.2.2 r4 (x5).toNat = some r7 ∧ METi mX2_isShaky [vr r7, vr a1, vr a2, vi x4] h0 (fun y11 h9 => h9.1 = h0.1 → (OB h9 1 r7 ∧ (y11 = 0 ∨ y11 = 1) ∧ ∀ h13 : PH, h13 = px_upI h9 r7 8 y11 → (EXv mX2_settle 27 [some (vr a0), some (vr a1), some (vr a2), none, some (vi x4), some (vi (x5 + 1))] [] h13 (0, 0) P)))))) : EXv mX2_settle 27 [some (vr a0), some (vr a1), some (vr a2), none, some (vi x4), some (vi x5)] [] h0 (0, 0) P := by
  refine ex_iload 29 dX2_settle_27 rfl rfl ?_
  refine ex_aload_n 30 dX2_settle_29 rfl rfl ?_
  obtain ⟨o1, hyp⟩ := hyp
  refine q_getI 2 3 33 dX2_settle_30 rfl fiX2_36 (Or.inl rfl) o1 ?_
  obtain ⟨o2, hyp⟩ := hyp
  obtain ⟨o3, hyp⟩ := hyp
  obtain ⟨ht, hf⟩ := hyp
  refine ex_icmp_ge 66 36 dX2_settle_33 (by decide) rfl o2 o3 (fun c16 => ?_) (fun c16 => ?_)
  · have hyp := ht c16
    clear ht hf
    refine ex_iconst 67 dX2_settle_66 rfl ?_
    refine q_istore [some (vr a0), some (vr a1), some (vr a2), none, some (vi x4), some (vi 0)] 69 dX2_settle_67 rfl (Nat.le_of_ble_eq_true rfl) rfl rfl ?_
    exact hyp
  · have hyp := hf c16
    clear ht hf
    refine ex_aload_n 37 dX2_settle_36 rfl rfl ?_
    obtain ⟨r4, f5, hyp⟩ := hyp
    refine q_getR 2 0 40 dX2_settle_37 rfl fiX2_11 rfl o1 f5 ?_
    refine ex_iload 42 dX2_settle_40 rfl rfl ?_
    obtain ⟨o6, hyp⟩ := hyp
    obtain ⟨r7, f8, hyp⟩ := hyp
    refine ex_aald 22 43 dX2_settle_42 rfl (by decide) o6 f8 ?_
    refine ex_aload_n 44 dX2_settle_43 rfl rfl ?_
    refine q_getR 2 0 47 dX2_settle_44 rfl fiX2_11 rfl o1 f5 ?_
    refine ex_iload 49 dX2_settle_47 rfl rfl ?_
    refine ex_aald 22 50 dX2_settle_49 rfl (by decide) o6 f8 ?_
    refine ex_aload_n 51 dX2_settle_50 rfl rfl ?_
    refine ex_aload_n 52 dX2_settle_51 rfl rfl ?_
    refine ex_iload 54 dX2_settle_52 rfl rfl ?_
    refine q_callSi [vr r7, vr a1, vr a2, vi x4] 57 dX2_settle_54 rfl cvX2_39 rfl rfl ⟨Nat.le_of_ble_eq_true rfl, Nat.le_of_ble_eq_true rfl⟩ (Nat.le_of_ble_eq_true rfl) hyp (fun y11 h9 k10 hyp => ?_)
    obtain ⟨o12, hyp⟩ := hyp
    obtain ⟨o15, hyp⟩ := hyp
    refine q_putZ 1 8 60 dX2_settle_57 rfl fiX2_43 ff1_8 rfl o12 o15 (fun h13 e14 => ?_)
    have hyp := hyp h13 e14
    refine q_iinc [some (vr a0), some (vr a1), some (vr a2), none, some (vi x4), some (vi (x5 + 1))] 63 dX2_settle_60 rfl rfl (Nat.le_of_ble_eq_true rfl) rfl rfl ?_
    refine ex_goto 27 dX2_settle_63 (by decide) ?_
    exact hyp
set_option maxRecDepth 4000 in
theorem tX2_settle_69 {P : PH → Prop} (h0 : PH) (a0 : Nat) (a1 : Nat) (a2 : Nat) (x4 : Int) (x5 : Int) (hyp : OB h0 8 a1 ∧ rng x5 ∧ rng (h0.2.1 a1 2) ∧ (h0.2.1 a1 2 ≤ x5 → (P h0)) ∧ (x5 < h0.2.1 a1 2 → (∃ r4 : Nat, h0.2.2 a1 0 = some r4 ∧ AI h0 21 r4 x5 ∧ ∃ r7 : Nat, h0.2.2 r4 (x5).toNat = some r7 ∧ OB h0 0 r7 ∧ rng (h0.2.1 r7 4) ∧ (¬ h0.2.1 r7 4 = 1 → (EXv mX2_settle 69 [some (vr a0), some (vr a1), some (vr a2), none, some (vi x4), some (vi (x5 + 1))] [] h0 (0, 0) P)) ∧ (h0.2.1 r7 4 = 1 → (OB h0 2 a0 ∧ METv mX2_layWedding [vr a0, vi x5, vr a1, vr a2, vi x4] h0 (0, 0) (fun h12 => h12.1 = h0.1 → (EXv mX2_settle 69 [some (vr a0), some (vr a1), some (vr a2), none, some (vi x4), some (vi (x5 + 1))] [] h12 (0, 0) P))))))) : EXv mX2_settle 69 [some (vr a0), some (vr a1), some (vr a2), none, some (vi x4), some (vi x5)] [] h0 (0, 0) P := by
  refine ex_iload 71 dX2_settle_69 rfl rfl ?_
  refine ex_aload_n 72 dX2_settle_71 rfl rfl ?_
  obtain ⟨o1, hyp⟩ := hyp
  refine q_getI 8 2 75 dX2_settle_72 rfl fiX2_47 (Or.inl rfl) o1 ?_
  obtain ⟨o2, hyp⟩ := hyp
  obtain ⟨o3, hyp⟩ := hyp
  obtain ⟨ht, hf⟩ := hyp
  refine ex_icmp_ge 108 78 dX2_settle_75 (by decide) rfl o2 o3 (fun c15 => ?_) (fun c15 => ?_)
  · have hyp := ht c15
    clear ht hf
    exact ex_vret dX2_settle_108 rfl ⟨rfl, hyp⟩
  · have hyp := hf c15
    clear ht hf
    refine ex_aload_n 79 dX2_settle_78 rfl rfl ?_
    obtain ⟨r4, f5, hyp⟩ := hyp
    refine q_getR 8 0 82 dX2_settle_79 rfl fiX2_50 rfl o1 f5 ?_
    refine ex_iload 84 dX2_settle_82 rfl rfl ?_
    obtain ⟨o6, hyp⟩ := hyp
    obtain ⟨r7, f8, hyp⟩ := hyp
    refine ex_aald 21 85 dX2_settle_84 rfl (by decide) o6 f8 ?_
    obtain ⟨o9, hyp⟩ := hyp
    refine q_getI 0 4 88 dX2_settle_85 rfl fiX2_54 (Or.inl rfl) o9 ?_
    refine ex_iconst 89 dX2_settle_88 rfl ?_
    obtain ⟨o10, hyp⟩ := hyp
    obtain ⟨ht, hf⟩ := hyp
    refine ex_icmp_ne 102 92 dX2_settle_89 (by decide) rfl o10 ⟨by decide, by decide⟩ (fun c14 => ?_) (fun c14 => ?_)
    · have hyp := ht c14
      clear ht hf
      refine q_iinc [some (vr a0), some (vr a1), some (vr a2), none, some (vi x4), some (vi (x5 + 1))] 105 dX2_settle_102 rfl rfl (Nat.le_of_ble_eq_true rfl) rfl rfl ?_
      refine ex_goto 69 dX2_settle_105 (by decide) ?_
      exact hyp
    · have hyp := hf c14
      clear ht hf
      refine ex_aload_n 93 dX2_settle_92 rfl rfl ?_
      refine ex_iload 95 dX2_settle_93 rfl rfl ?_
      refine ex_aload_n 96 dX2_settle_95 rfl rfl ?_
      refine ex_aload_n 97 dX2_settle_96 rfl rfl ?_
      refine ex_iload 99 dX2_settle_97 rfl rfl ?_
      obtain ⟨o11, hyp⟩ := hyp
      refine q_callVv [vi x5, vr a1, vr a2, vi x4] 102 dX2_settle_99 rfl cvX2_59 rfl rfl ⟨Nat.le_of_ble_eq_true rfl, Nat.le_of_ble_eq_true rfl⟩ (Nat.le_of_ble_eq_true rfl) o11 hyp (fun h12 k13 hyp => ?_)
      refine q_iinc [some (vr a0), some (vr a1), some (vr a2), none, some (vi x4), some (vi (x5 + 1))] 105 dX2_settle_102 rfl rfl (Nat.le_of_ble_eq_true rfl) rfl rfl ?_
      refine ex_goto 69 dX2_settle_105 (by decide) ?_
      exact hyp
set_option maxRecDepth 4000 in
theorem tX2_has {P : Int → PH → Prop} (h0 : PH) (a0 : Nat) (x1 : Int) (hyp : rng x1 ∧ (x1 < 0 → (P 0 h0)) ∧ (0 ≤ x1 → (OB h0 2 a0 ∧ rng (h0.2.1 a0 2) ∧ (h0.2.1 a0 2 ≤ x1 → (P 0 h0)) ∧ (x1 < h0.2.1 a0 2 → (P 1 h0))))) : METi mX2_has [vr a0, vi x1] h0 P := by
  refine met_of_ex (by decide +kernel) (Nat.le_of_ble_eq_true rfl) ?_
  show EX mX2_has 0 [some (vr a0), some (vi x1)] [] h0 (0, 0) _
  refine ex_iload_n 1 dX2_has_0 rfl rfl ?_
  obtain ⟨o1, hyp⟩ := hyp
  obtain ⟨ht, hf⟩ := hyp
  refine ex_if_lt 16 4 dX2_has_1 (by decide) rfl o1 (fun c5 => ?_) (fun c5 => ?_)
  · have hyp := ht c5
    clear ht hf
    refine ex_iconst 17 dX2_has_16 rfl ?_
    exact ex_iret dX2_has_17 (Or.inr ⟨rfl, Or.inl rfl⟩) ⟨_, rfl, hyp⟩
  · have hyp := hf c5
    clear ht hf
    refine ex_iload_n 5 dX2_has_4 rfl rfl ?_
    refine ex_aload_n 6 dX2_has_5 rfl rfl ?_
    obtain ⟨o2, hyp⟩ := hyp
    refine q_getI 2 2 9 dX2_has_6 rfl fiX2_25 (Or.inl rfl) o2 ?_
    obtain ⟨o3, hyp⟩ := hyp
    obtain ⟨ht, hf⟩ := hyp
    refine ex_icmp_ge 16 12 dX2_has_9 (by decide) rfl o1 o3 (fun c4 => ?_) (fun c4 => ?_)
    · have hyp := ht c4
      clear ht hf
      refine ex_iconst 17 dX2_has_16 rfl ?_
      exact ex_iret dX2_has_17 (Or.inr ⟨rfl, Or.inl rfl⟩) ⟨_, rfl, hyp⟩
    · have hyp := hf c4
      clear ht hf
      refine ex_iconst 13 dX2_has_12 rfl ?_
      refine ex_goto 17 dX2_has_13 (by decide) ?_
      exact ex_iret dX2_has_17 (Or.inr ⟨rfl, Or.inr rfl⟩) ⟨_, rfl, hyp⟩
set_option maxRecDepth 4000 in
theorem tX2_countShaky {P : Int → PH → Prop} (h0 : PH) (a0 : Nat) (hyp : EXi mX2_countShaky 4 [some (vr a0), some (vi 0), some (vi 0)] [] h0 P) : METi mX2_countShaky [vr a0] h0 P := by
  refine met_of_ex (by decide +kernel) (Nat.le_of_ble_eq_true rfl) ?_
  show EX mX2_countShaky 0 [some (vr a0), none, none] [] h0 (0, 0) _
  refine ex_iconst 1 dX2_countShaky_0 rfl ?_
  refine q_istore_n [some (vr a0), some (vi 0), none] 2 dX2_countShaky_1 rfl (Nat.le_of_ble_eq_true rfl) rfl rfl ?_
  refine ex_iconst 3 dX2_countShaky_2 rfl ?_
  refine q_istore_n [some (vr a0), some (vi 0), some (vi 0)] 4 dX2_countShaky_3 rfl (Nat.le_of_ble_eq_true rfl) rfl rfl ?_
  exact hyp
set_option maxRecDepth 4000 in
theorem tX2_countShaky_4 {P : Int → PH → Prop} (h0 : PH) (a0 : Nat) (x1 : Int) (x2 : Int) (hyp : OB h0 2 a0 ∧ rng x2 ∧ rng (h0.2.1 a0 2) ∧ (h0.2.1 a0 2 ≤ x2 → (P x1 h0)) ∧ (x2 < h0.2.1 a0 2 → (∃ r4 : Nat, h0.2.2 a0 0 = some r4 ∧ AI h0 22 r4 x2 ∧ ∃ r7 : Nat, h0.2.2 r4 (x2).toNat = some r7 ∧ OB h0 1 r7 ∧ rng (h0.2.1 r7 8) ∧ (h0.2.1 r7 8 = 0 → (EXi mX2_countShaky 4 [some (vr a0), some (vi (x1 + 0)), some (vi (x2 + 1))] [] h0 P)) ∧ (¬ h0.2.1 r7 8 = 0 → (EXi mX2_countShaky 4 [some (vr a0), some (vi (x1 + 1)), some (vi (x2 + 1))] [] h0 P))))) : EXi mX2_countShaky 4 [some (vr a0), some (vi x1), some (vi x2)] [] h0 P := by
  refine ex_iload_n 5 dX2_countShaky_4 rfl rfl ?_
  refine ex_aload_n 6 dX2_countShaky_5 rfl rfl ?_
  obtain ⟨o1, hyp⟩ := hyp
  refine q_getI 2 2 9 dX2_countShaky_6 rfl fiX2_25 (Or.inl rfl) o1 ?_
  obtain ⟨o2, hyp⟩ := hyp
  obtain ⟨o3, hyp⟩ := hyp
  obtain ⟨ht, hf⟩ := hyp
  refine ex_icmp_ge 38 12 dX2_countShaky_9 (by decide) rfl o2 o3 (fun c12 => ?_) (fun c12 => ?_)
  · have hyp := ht c12
    clear ht hf
    refine ex_iload_n 39 dX2_countShaky_38 rfl rfl ?_
    exact ex_iret dX2_countShaky_39 (Or.inl rfl) ⟨_, rfl, hyp⟩
  · have hyp := hf c12
    clear ht hf
    refine ex_iload_n 13 dX2_countShaky_12 rfl rfl ?_
    refine ex_aload_n 14 dX2_countShaky_13 rfl rfl ?_
    obtain ⟨r4, f5, hyp⟩ := hyp
    refine q_getR 2 0 17 dX2_countShaky_14 rfl fiX2_11 rfl o1 f5 ?_
    refine ex_iload_n 18 dX2_countShaky_17 rfl rfl ?_
    obtain ⟨o6, hyp⟩ := hyp
    obtain ⟨r7, f8, hyp⟩ := hyp
    refine ex_aald 22 19 dX2_countShaky_18 rfl (by decide) o6 f8 ?_
    obtain ⟨o9, hyp⟩ := hyp
    refine q_getI 1 8 22 dX2_countShaky_19 rfl fiX2_43 (Or.inr rfl) o9 ?_
    obtain ⟨o10, hyp⟩ := hyp
    obtain ⟨ht, hf⟩ := hyp
    refine ex_if_eq 29 25 dX2_countShaky_22 (by decide) rfl o10 (fun c11 => ?_) (fun c11 => ?_)
    · have hyp := ht c11
      clear ht hf
      refine ex_iconst 30 dX2_countShaky_29 rfl ?_
      refine ex_iadd 31 dX2_countShaky_30 rfl ?_
      refine q_istore_n [some (vr a0), some (vi (x1 + 0)), some (vi x2)] 32 dX2_countShaky_31 rfl (Nat.le_of_ble_eq_true rfl) rfl rfl ?_
      refine q_iinc [some (vr a0), some (vi (x1 + 0)), some (vi (x2 + 1))] 35 dX2_countShaky_32 rfl rfl (Nat.le_of_ble_eq_true rfl) rfl rfl ?_
      refine ex_goto 4 dX2_countShaky_35 (by decide) ?_
      exact hyp
    · have hyp := hf c11
      clear ht hf
      refine ex_iconst 26 dX2_countShaky_25 rfl ?_
      refine ex_goto 30 dX2_countShaky_26 (by decide) ?_
      refine ex_iadd 31 dX2_countShaky_30 rfl ?_
      refine q_istore_n [some (vr a0), some (vi (x1 + 1)), some (vi x2)] 32 dX2_countShaky_31 rfl (Nat.le_of_ble_eq_true rfl) rfl rfl ?_
      refine q_iinc [some (vr a0), some (vi (x1 + 1)), some (vi (x2 + 1))] 35 dX2_countShaky_32 rfl rfl (Nat.le_of_ble_eq_true rfl) rfl rfl ?_
      refine ex_goto 4 dX2_countShaky_35 (by decide) ?_
      exact hyp
set_option maxRecDepth 4000 in
theorem tX2_countSingle {P : Int → PH → Prop} (h0 : PH) (a0 : Nat) (hyp : EXi mX2_countSingle 4 [some (vr a0), some (vi 0), some (vi 0)] [] h0 P) : METi mX2_countSingle [vr a0] h0 P := by
  refine met_of_ex (by decide +kernel) (Nat.le_of_ble_eq_true rfl) ?_
  show EX mX2_countSingle 0 [some (vr a0), none, none] [] h0 (0, 0) _
  refine ex_iconst 1 dX2_countSingle_0 rfl ?_
  refine q_istore_n [some (vr a0), some (vi 0), none] 2 dX2_countSingle_1 rfl (Nat.le_of_ble_eq_true rfl) rfl rfl ?_
  refine ex_iconst 3 dX2_countSingle_2 rfl ?_
  refine q_istore_n [some (vr a0), some (vi 0), some (vi 0)] 4 dX2_countSingle_3 rfl (Nat.le_of_ble_eq_true rfl) rfl rfl ?_
  exact hyp
set_option maxRecDepth 4000 in
theorem tX2_countSingle_4 {P : Int → PH → Prop} (h0 : PH) (a0 : Nat) (x1 : Int) (x2 : Int) (hyp : OB h0 2 a0 ∧ rng x2 ∧ rng (h0.2.1 a0 2) ∧ (h0.2.1 a0 2 ≤ x2 → (P x1 h0)) ∧ (x2 < h0.2.1 a0 2 → (∃ r4 : Nat, h0.2.2 a0 0 = some r4 ∧ AI h0 22 r4 x2 ∧ ∃ r7 : Nat, h0.2.2 r4 (x2).toNat = some r7 ∧ OB h0 1 r7 ∧ rng (h0.2.1 r7 1) ∧ (¬ h0.2.1 r7 1 = 1 → (EXi mX2_countSingle 4 [some (vr a0), some (vi (x1 + 0)), some (vi (x2 + 1))] [] h0 P)) ∧ (h0.2.1 r7 1 = 1 → (EXi mX2_countSingle 4 [some (vr a0), some (vi (x1 + 1)), some (vi (x2 + 1))] [] h0 P))))) : EXi mX2_countSingle 4 [some (vr a0), some (vi x1), some (vi x2)] [] h0 P := by
  refine ex_iload_n 5 dX2_countSingle_4 rfl rfl ?_
  refine ex_aload_n 6 dX2_countSingle_5 rfl rfl ?_
  obtain ⟨o1, hyp⟩ := hyp
  refine q_getI 2 2 9 dX2_countSingle_6 rfl fiX2_25 (Or.inl rfl) o1 ?_
  obtain ⟨o2, hyp⟩ := hyp
  obtain ⟨o3, hyp⟩ := hyp
  obtain ⟨ht, hf⟩ := hyp
  refine ex_icmp_ge 39 12 dX2_countSingle_9 (by decide) rfl o2 o3 (fun c12 => ?_) (fun c12 => ?_)
  · have hyp := ht c12
    clear ht hf
    refine ex_iload_n 40 dX2_countSingle_39 rfl rfl ?_
    exact ex_iret dX2_countSingle_40 (Or.inl rfl) ⟨_, rfl, hyp⟩
  · have hyp := hf c12
    clear ht hf
    refine ex_iload_n 13 dX2_countSingle_12 rfl rfl ?_
    refine ex_aload_n 14 dX2_countSingle_13 rfl rfl ?_
    obtain ⟨r4, f5, hyp⟩ := hyp
    refine q_getR 2 0 17 dX2_countSingle_14 rfl fiX2_11 rfl o1 f5 ?_
    refine ex_iload_n 18 dX2_countSingle_17 rfl rfl ?_
    obtain ⟨o6, hyp⟩ := hyp
    obtain ⟨r7, f8, hyp⟩ := hyp
    refine ex_aald 22 19 dX2_countSingle_18 rfl (by decide) o6 f8 ?_
    obtain ⟨o9, hyp⟩ := hyp
    refine q_getI 1 1 22 dX2_countSingle_19 rfl fiX2_63 (Or.inl rfl) o9 ?_
    refine ex_iconst 23 dX2_countSingle_22 rfl ?_
    obtain ⟨o10, hyp⟩ := hyp
    obtain ⟨ht, hf⟩ := hyp
    refine ex_icmp_ne 30 26 dX2_countSingle_23 (by decide) rfl o10 ⟨by decide, by decide⟩ (fun c11 => ?_) (fun c11 => ?_)
    · have hyp := ht c11
      clear ht hf
      refine ex_iconst 31 dX2_countSingle_30 rfl ?_
      refine ex_iadd 32 dX2_countSingle_31 rfl ?_
      refine q_istore_n [some (vr a0), some (vi (x1 + 0)), some (vi x2)] 33 dX2_countSingle_32 rfl (Nat.le_of_ble_eq_true rfl) rfl rfl ?_
      refine q_iinc [some (vr a0), some (vi (x1 + 0)), some (vi (x2 + 1))] 36 dX2_countSingle_33 rfl rfl (Nat.le_of_ble_eq_true rfl) rfl rfl ?_
      refine ex_goto 4 dX2_countSingle_36 (by decide) ?_
      exact hyp
    · have hyp := hf c11
      clear ht hf
      refine ex_iconst 27 dX2_countSingle_26 rfl ?_
      refine ex_goto 31 dX2_countSingle_27 (by decide) ?_
      refine ex_iadd 32 dX2_countSingle_31 rfl ?_
      refine q_istore_n [some (vr a0), some (vi (x1 + 1)), some (vi x2)] 33 dX2_countSingle_32 rfl (Nat.le_of_ble_eq_true rfl) rfl rfl ?_
      refine q_iinc [some (vr a0), some (vi (x1 + 1)), some (vi (x2 + 1))] 36 dX2_countSingle_33 rfl rfl (Nat.le_of_ble_eq_true rfl) rfl rfl ?_
      refine ex_goto 4 dX2_countSingle_36 (by decide) ?_
      exact hyp
set_option maxRecDepth 4000 in
theorem tX2_openByMatch {P : PH → Prop} (h0 : PH) (a0 : Nat) (a1 : Nat) (a2 : Nat) (hyp : EXv mX2_openByMatch 2 [some (vr a0), some (vr a1), some (vr a2), some (vi 0), none, none] [] h0 (0, 0) P) : METv mX2_openByMatch [vr a0, vr a1, vr a2] h0 (0, 0) P := by
  refine met_of_ex (by decide +kernel) (Nat.le_of_ble_eq_true rfl) ?_
  show EX mX2_openByMatch 0 [some (vr a0), some (vr a1), some (vr a2), none, none, none] [] h0 (0, 0) _
  refine ex_iconst 1 dX2_openByMatch_0 rfl ?_
  refine q_istore_n [some (vr a0), some (vr a1), some (vr a2), some (vi 0), none, none] 2 dX2_openByMatch_1 rfl (Nat.le_of_ble_eq_true rfl) rfl rfl ?_
  exact hyp
set_option maxRecDepth 4000 in
theorem tX2_openByMatch_2 {P : PH → Prop} (h0 : PH) (a0 : Nat) (a1 : Nat) (a2 : Nat) (x3 : Int) (hyp : OB h0 8 a1 ∧ rng x3 ∧ rng (h0.2.1 a1 2) ∧ (h0.2.1 a1 2 ≤ x3 → (EXv mX2_openByMatch 67 [some (vr a0), some (vr a1), some (vr a2), some (vi 0), none, none] [] h0 (0, 0) P)) ∧ (x3 < h0.2.1 a1 2 → (∃ r4 : Nat, h0.2.2 a1 0 = some r4 ∧ AI h0 21 r4 x3 ∧ ∃ r7 : Nat, h0.2.2 r4 (x3).toNat = some r7 ∧ OB h0 0 r7 ∧ rng (h0.2.1 r7 4) ∧ (¬ h0.2.1 r7 4 = 0 → (EXv mX2_openByMatch 2 [some (vr a0), some (vr a1), some (vr a2), some (vi (x3 + 1)), none, none] [] h0 (0, 0) P)) ∧ (h0.2.1 r7 4 = 0 → (OB h0 2 a0 ∧ METi mX2_open [vr a0] h0 (fun y14 h12 => h12.1 = h0.1 → (METv mX2_add [vr a0, vi x3, vi y14, vr a1] h12 (0, 0) (fun h16 => h16.1 = h12.1 → (OB h16 3 a2 ∧ ∃ r19 : Nat, h16.2.2 a2 0 = some r19 ∧ AI h16 20 r19 x3 ∧ rng (h16.2.1 r19 (x3).toNat) ∧ (h16.2.1 r19 (x3).toNat = (-1) → (EXv mX2_openByMatch 2 [some (vr a0), some (vr a1), some (vr a2), some (vi (x3 + 1)), none, none] [] h16 (0, 0) P)) ∧ (¬ h16.2.1 r19 (x3).toNat = (-1) → (METv mX2_add [vr a0, vi (h16.2.1 r19 (x3).toNat), vi y14, vr a1] h16 (0, 0) (fun h24 => h24.1 = h16.1 → (EXv mX2_openByMatch 2 [some (vr a0), some (vr a1), some (vr a2), some (vi (x3 + 1)), none, none] [] h24 (0, 0) P))))))))))))) : EXv mX2_openByMatch 2 [some (vr a0), some (vr a1), some (vr a2), some (vi x3), none, none] [] h0 (0, 0) P := by
  refine ex_iload_n 3 dX2_openByMatch_2 rfl rfl ?_
  refine ex_aload_n 4 dX2_openByMatch_3 rfl rfl ?_
  obtain ⟨o1, hyp⟩ := hyp
  refine q_getI 8 2 7 dX2_openByMatch_4 rfl fiX2_47 (Or.inl rfl) o1 ?_
  obtain ⟨o2, hyp⟩ := hyp
  obtain ⟨o3, hyp⟩ := hyp
  obtain ⟨ht, hf⟩ := hyp
  refine ex_icmp_ge 65 10 dX2_openByMatch_7 (by decide) rfl o2 o3 (fun c28 => ?_) (fun c28 => ?_)
  · have hyp := ht c28
    clear ht hf
    refine ex_iconst 66 dX2_openByMatch_65 rfl ?_
    refine q_istore_n [some (vr a0), some (vr a1), some (vr a2), some (vi 0), none, none] 67 dX2_openByMatch_66 rfl (Nat.le_of_ble_eq_true rfl) rfl rfl ?_
    exact hyp
  · have hyp := hf c28
    clear ht hf
    refine ex_aload_n 11 dX2_openByMatch_10 rfl rfl ?_
    obtain ⟨r4, f5, hyp⟩ := hyp
    refine q_getR 8 0 14 dX2_openByMatch_11 rfl fiX2_50 rfl o1 f5 ?_
    refine ex_iload_n 15 dX2_openByMatch_14 rfl rfl ?_
    obtain ⟨o6, hyp⟩ := hyp
    obtain ⟨r7, f8, hyp⟩ := hyp
    refine ex_aald 21 16 dX2_openByMatch_15 rfl (by decide) o6 f8 ?_
    obtain ⟨o9, hyp⟩ := hyp
    refine q_getI 0 4 19 dX2_openByMatch_16 rfl fiX2_54 (Or.inl rfl) o9 ?_
    obtain ⟨o10, hyp⟩ := hyp
    obtain ⟨ht, hf⟩ := hyp
    refine ex_if_ne 59 22 dX2_openByMatch_19 (by decide) rfl o10 (fun c27 => ?_) (fun c27 => ?_)
    · have hyp := ht c27
      clear ht hf
      refine q_iinc [some (vr a0), some (vr a1), some (vr a2), some (vi (x3 + 1)), none, none] 62 dX2_openByMatch_59 rfl rfl (Nat.le_of_ble_eq_true rfl) rfl rfl ?_
      refine ex_goto 2 dX2_openByMatch_62 (by decide) ?_
      exact hyp
    · have hyp := hf c27
      clear ht hf
      refine ex_aload_n 23 dX2_openByMatch_22 rfl rfl ?_
      obtain ⟨o11, hyp⟩ := hyp
      refine q_callVi [] 26 dX2_openByMatch_23 rfl cvX2_64 rfl rfl ⟨Nat.le_of_ble_eq_true rfl, Nat.le_of_ble_eq_true rfl⟩ (Nat.le_of_ble_eq_true rfl) o11 hyp (fun y14 h12 k13 hyp => ?_)
      refine q_istore [some (vr a0), some (vr a1), some (vr a2), some (vi x3), some (vi y14), none] 28 dX2_openByMatch_26 rfl (Nat.le_of_ble_eq_true rfl) rfl rfl ?_
      refine ex_aload_n 29 dX2_openByMatch_28 rfl rfl ?_
      refine ex_iload_n 30 dX2_openByMatch_29 rfl rfl ?_
      refine ex_iload 32 dX2_openByMatch_30 rfl rfl ?_
      refine ex_aload_n 33 dX2_openByMatch_32 rfl rfl ?_
      have f15 := OB.of k13 o11
      refine q_callVv [vi x3, vi y14, vr a1] 36 dX2_openByMatch_33 rfl cvX2_68 rfl rfl ⟨Nat.le_of_ble_eq_true rfl, Nat.le_of_ble_eq_true rfl⟩ (Nat.le_of_ble_eq_true rfl) f15 hyp (fun h16 k17 hyp => ?_)
      refine ex_aload_n 37 dX2_openByMatch_36 rfl rfl ?_
      obtain ⟨o18, hyp⟩ := hyp
      obtain ⟨r19, f20, hyp⟩ := hyp
      refine q_getR 3 0 40 dX2_openByMatch_37 rfl fiX2_72 rfl o18 f20 ?_
      refine ex_iload_n 41 dX2_openByMatch_40 rfl rfl ?_
      obtain ⟨o21, hyp⟩ := hyp
      refine ex_iald 42 dX2_openByMatch_41 rfl o21 ?_
      refine q_istore [some (vr a0), some (vr a1), some (vr a2), some (vi x3), some (vi y14), some (vi (h16.2.1 r19 (x3).toNat))] 44 dX2_openByMatch_42 rfl (Nat.le_of_ble_eq_true rfl) rfl rfl ?_
      refine ex_iload 46 dX2_openByMatch_44 rfl rfl ?_
      refine ex_iconst 47 dX2_openByMatch_46 rfl ?_
      obtain ⟨o22, hyp⟩ := hyp
      obtain ⟨ht, hf⟩ := hyp
      refine ex_icmp_eq 59 50 dX2_openByMatch_47 (by decide) rfl o22 ⟨by decide, by decide⟩ (fun c26 => ?_) (fun c26 => ?_)
      · have hyp := ht c26
        clear ht hf
        refine q_iinc [some (vr a0), some (vr a1), some (vr a2), some (vi (x3 + 1)), some (vi y14), some (vi (h16.2.1 r19 (x3).toNat))] 62 dX2_openByMatch_59 rfl rfl (Nat.le_of_ble_eq_true rfl) rfl rfl ?_
        refine ex_goto 2 dX2_openByMatch_62 (by decide) ?_
        refine ex_dropL (ls' := [some (vr a0), some (vr a1), some (vr a2), some (vi (x3 + 1)), none, some (vi (h16.2.1 r19 (x3).toNat))]) 4 rfl ?_
        refine ex_dropL (ls' := [some (vr a0), some (vr a1), some (vr a2), some (vi (x3 + 1)), none, none]) 5 rfl ?_
        exact hyp
      · have hyp := hf c26
        clear ht hf
        refine ex_aload_n 51 dX2_openByMatch_50 rfl rfl ?_
        refine ex_iload 53 dX2_openByMatch_51 rfl rfl ?_
        refine ex_iload 55 dX2_openByMatch_53 rfl rfl ?_
        refine ex_aload_n 56 dX2_openByMatch_55 rfl rfl ?_
        have f23 := OB.of k17 f15
        refine q_callVv [vi (h16.2.1 r19 (x3).toNat), vi y14, vr a1] 59 dX2_openByMatch_56 rfl cvX2_68 rfl rfl ⟨Nat.le_of_ble_eq_true rfl, Nat.le_of_ble_eq_true rfl⟩ (Nat.le_of_ble_eq_true rfl) f23 hyp (fun h24 k25 hyp => ?_)
        refine q_iinc [some (vr a0), some (vr a1), some (vr a2), some (vi (x3 + 1)), some (vi y14), some (vi (h16.2.1 r19 (x3).toNat))] 62 dX2_openByMatch_59 rfl rfl (Nat.le_of_ble_eq_true rfl) rfl rfl ?_
        refine ex_goto 2 dX2_openByMatch_62 (by decide) ?_
        refine ex_dropL (ls' := [some (vr a0), some (vr a1), some (vr a2), some (vi (x3 + 1)), none, some (vi (h16.2.1 r19 (x3).toNat))]) 4 rfl ?_
        refine ex_dropL (ls' := [some (vr a0), some (vr a1), some (vr a2), some (vi (x3 + 1)), none, none]) 5 rfl ?_
        exact hyp
set_option maxRecDepth 4000 in
theorem tX2_openByMatch_67 {P : PH → Prop} (h0 : PH) (a0 : Nat) (a1 : Nat) (a2 : Nat) (x3 : Int) (hyp : OB h0 8 a1 ∧ rng x3 ∧ rng (h0.2.1 a1 2) ∧ (h0.2.1 a1 2 ≤ x3 → (P h0)) ∧ (x3 < h0.2.1 a1 2 → (∃ r4 : Nat, h0.2.2 a1 0 = some r4 ∧ AI h0 21 r4 x3 ∧ ∃ r7 : Nat, h0.2.2 r4 (x3).toNat = some r7 ∧ OB h0 0 r7 ∧ rng (h0.2.1 r7 4) ∧ (¬ h0.2.1 r7 4 = 2 → (EXv mX2_openByMatch 67 [some (vr a0), some (vr a1), some (vr a2), some (vi (x3 + 1)), none, none] [] h0 (0, 0) P)) ∧ (h0.2.1 r7 4 = 2 → (OB h0 3 a2 ∧ ∃ r12 : Nat, h0.2.2 a2 0 = some r12 ∧ AI h0 20 r12 x3 ∧ rng (h0.2.1 r12 (x3).toNat) ∧ (¬ h0.2.1 r12 (x3).toNat = (-1) → (EXv mX2_openByMatch 67 [some (vr a0), some (vr a1), some (vr a2), some (vi (x3 + 1)), none, none] [] h0 (0, 0) P)) ∧ (h0.2.1 r12 (x3).toNat = (-1) → (OB h0 2 a0 ∧ METi mX2_open [vr a0] h0 (fun y19 h17 => h17.1 = h0.1 → (METv mX2_add [vr a0, vi x3, vi y19, vr a1] h17 (0, 0) (fun h21 => h21.1 = h17.1 → (EXv mX2_openByMatch 67 [some (vr a0), some (vr a1), some (vr a2), some (vi (x3 + 1)), none, none] [] h21 (0, 0) P))))))))))) : EXv mX2_openByMatch 67 [some (vr a0), some (vr a1), some (vr a2), some (vi x3), none, none] [] h0 (0, 0) P := by
  refine ex_iload_n 68 dX2_openByMatch_67 rfl rfl ?_
  refine ex_aload_n 69 dX2_openByMatch_68 rfl rfl ?_
  obtain ⟨o1, hyp⟩ := hyp
  refine q_getI 8 2 72 dX2_openByMatch_69 rfl fiX2_47 (Or.inl rfl) o1 ?_
  obtain ⟨o2, hyp⟩ := hyp
  obtain ⟨o3, hyp⟩ := hyp
  obtain ⟨ht, hf⟩ := hyp
  refine ex_icmp_ge 114 75 dX2_openByMatch_72 (by decide) rfl o2 o3 (fun c25 => ?_) (fun c25 => ?_)
  · have hyp := ht c25
    clear ht hf
    exact ex_vret dX2_openByMatch_114 rfl ⟨rfl, hyp⟩
  · have hyp := hf c25
    clear ht hf
    refine ex_aload_n 76 dX2_openByMatch_75 rfl rfl ?_
    obtain ⟨r4, f5, hyp⟩ := hyp
    refine q_getR 8 0 79 dX2_openByMatch_76 rfl fiX2_50 rfl o1 f5 ?_
    refine ex_iload_n 80 dX2_openByMatch_79 rfl rfl ?_
    obtain ⟨o6, hyp⟩ := hyp
    obtain ⟨r7, f8, hyp⟩ := hyp
    refine ex_aald 21 81 dX2_openByMatch_80 rfl (by decide) o6 f8 ?_
    obtain ⟨o9, hyp⟩ := hyp
    refine q_getI 0 4 84 dX2_openByMatch_81 rfl fiX2_54 (Or.inl rfl) o9 ?_
    refine ex_iconst 85 dX2_openByMatch_84 rfl ?_
    obtain ⟨o10, hyp⟩ := hyp
    obtain ⟨ht, hf⟩ := hyp
    refine ex_icmp_ne 108 88 dX2_openByMatch_85 (by decide) rfl o10 ⟨by decide, by decide⟩ (fun c24 => ?_) (fun c24 => ?_)
    · have hyp := ht c24
      clear ht hf
      refine q_iinc [some (vr a0), some (vr a1), some (vr a2), some (vi (x3 + 1)), none, none] 111 dX2_openByMatch_108 rfl rfl (Nat.le_of_ble_eq_true rfl) rfl rfl ?_
      refine ex_goto 67 dX2_openByMatch_111 (by decide) ?_
      exact hyp
    · have hyp := hf c24
      clear ht hf
      refine ex_aload_n 89 dX2_openByMatch_88 rfl rfl ?_
      obtain ⟨o11, hyp⟩ := hyp
      obtain ⟨r12, f13, hyp⟩ := hyp
      refine q_getR 3 0 92 dX2_openByMatch_89 rfl fiX2_72 rfl o11 f13 ?_
      refine ex_iload_n 93 dX2_openByMatch_92 rfl rfl ?_
      obtain ⟨o14, hyp⟩ := hyp
      refine ex_iald 94 dX2_openByMatch_93 rfl o14 ?_
      refine ex_iconst 95 dX2_openByMatch_94 rfl ?_
      obtain ⟨o15, hyp⟩ := hyp
      obtain ⟨ht, hf⟩ := hyp
      refine ex_icmp_ne 108 98 dX2_openByMatch_95 (by decide) rfl o15 ⟨by decide, by decide⟩ (fun c23 => ?_) (fun c23 => ?_)
      · have hyp := ht c23
        clear ht hf
        refine q_iinc [some (vr a0), some (vr a1), some (vr a2), some (vi (x3 + 1)), none, none] 111 dX2_openByMatch_108 rfl rfl (Nat.le_of_ble_eq_true rfl) rfl rfl ?_
        refine ex_goto 67 dX2_openByMatch_111 (by decide) ?_
        exact hyp
      · have hyp := hf c23
        clear ht hf
        refine ex_aload_n 99 dX2_openByMatch_98 rfl rfl ?_
        refine ex_iload_n 100 dX2_openByMatch_99 rfl rfl ?_
        refine ex_aload_n 101 dX2_openByMatch_100 rfl rfl ?_
        obtain ⟨o16, hyp⟩ := hyp
        refine q_callVi [] 104 dX2_openByMatch_101 rfl cvX2_64 rfl rfl ⟨Nat.le_of_ble_eq_true rfl, Nat.le_of_ble_eq_true rfl⟩ (Nat.le_of_ble_eq_true rfl) o16 hyp (fun y19 h17 k18 hyp => ?_)
        refine ex_aload_n 105 dX2_openByMatch_104 rfl rfl ?_
        have f20 := OB.of k18 o16
        refine q_callVv [vi x3, vi y19, vr a1] 108 dX2_openByMatch_105 rfl cvX2_68 rfl rfl ⟨Nat.le_of_ble_eq_true rfl, Nat.le_of_ble_eq_true rfl⟩ (Nat.le_of_ble_eq_true rfl) f20 hyp (fun h21 k22 hyp => ?_)
        refine q_iinc [some (vr a0), some (vr a1), some (vr a2), some (vi (x3 + 1)), none, none] 111 dX2_openByMatch_108 rfl rfl (Nat.le_of_ble_eq_true rfl) rfl rfl ?_
        refine ex_goto 67 dX2_openByMatch_111 (by decide) ?_
        exact hyp
set_option maxRecDepth 4000 in
theorem tX2_open {P : Int → PH → Prop} (h0 : PH) (a0 : Nat) (hyp : OB h0 2 a0 ∧ rng (h0.2.1 a0 2) ∧ (18 ≤ h0.2.1 a0 2 → (P ((h0.2.1 a0 2) - 1) h0)) ∧ (h0.2.1 a0 2 < 18 → (∃ r3 : Nat, h0.2.2 a0 0 = some r3 ∧ AI h0 22 r3 (h0.2.1 a0 2) ∧ ∃ r6 : Nat, h0.2.2 r3 (h0.2.1 a0 2).toNat = some r6 ∧ OB h0 1 r6 ∧ METv mX1_clear [vr r6] h0 (0, 0) (fun h9 => h9.1 = h0.1 → (∀ h12 : PH, h12 = px_upI h9 a0 2 ((h9.2.1 a0 2) + 1) → (P ((h12.2.1 a0 2) - 1) h12)))))) : METi mX2_open [vr a0] h0 P := by
  refine met_of_ex (by decide +kernel) (Nat.le_of_ble_eq_true rfl) ?_
  show EX mX2_open 0 [some (vr a0)] [] h0 (0, 0) _
  refine ex_aload_n 1 dX2_open_0 rfl rfl ?_
  obtain ⟨o1, hyp⟩ := hyp
  refine q_getI 2 2 4 dX2_open_1 rfl fiX2_25 (Or.inl rfl) o1 ?_
  refine ex_bipush 6 dX2_open_4 rfl ⟨by decide, by decide⟩ ?_
  obtain ⟨o2, hyp⟩ := hyp
  obtain ⟨ht, hf⟩ := hyp
  refine ex_icmp_ge 31 9 dX2_open_6 (by decide) rfl o2 ⟨by decide, by decide⟩ (fun c15 => ?_) (fun c15 => ?_)
  · have hyp := ht c15
    clear ht hf
    refine ex_aload_n 32 dX2_open_31 rfl rfl ?_
    refine q_getI 2 2 35 dX2_open_32 rfl fiX2_25 (Or.inl rfl) o1 ?_
    refine ex_iconst 36 dX2_open_35 rfl ?_
    refine ex_isub 37 dX2_open_36 rfl ?_
    exact ex_iret dX2_open_37 (Or.inl rfl) ⟨_, rfl, hyp⟩
  · have hyp := hf c15
    clear ht hf
    refine ex_aload_n 10 dX2_open_9 rfl rfl ?_
    obtain ⟨r3, f4, hyp⟩ := hyp
    refine q_getR 2 0 13 dX2_open_10 rfl fiX2_11 rfl o1 f4 ?_
    refine ex_aload_n 14 dX2_open_13 rfl rfl ?_
    refine q_getI 2 2 17 dX2_open_14 rfl fiX2_25 (Or.inl rfl) o1 ?_
    obtain ⟨o5, hyp⟩ := hyp
    obtain ⟨r6, f7, hyp⟩ := hyp
    refine ex_aald 22 18 dX2_open_17 rfl (by decide) o5 f7 ?_
    obtain ⟨o8, hyp⟩ := hyp
    refine q_callVv [] 21 dX2_open_18 rfl cvX2_77 rfl rfl ⟨Nat.le_of_ble_eq_true rfl, Nat.le_of_ble_eq_true rfl⟩ (Nat.le_of_ble_eq_true rfl) o8 hyp (fun h9 k10 hyp => ?_)
    refine ex_aload_n 22 dX2_open_21 rfl rfl ?_
    refine ex_dup 23 dX2_open_22 rfl rfl ?_
    have f11 := OB.of k10 o1
    refine q_getI 2 2 26 dX2_open_23 rfl fiX2_25 (Or.inl rfl) f11 ?_
    refine ex_iconst 27 dX2_open_26 rfl ?_
    refine ex_iadd 28 dX2_open_27 rfl ?_
    refine q_putI 2 2 31 dX2_open_28 rfl fiX2_25 ff2_2 rfl f11 (fun h12 e13 => ?_)
    have hyp := hyp h12 e13
    refine ex_aload_n 32 dX2_open_31 rfl rfl ?_
    have f14 := OB.of (KI e13) f11
    refine q_getI 2 2 35 dX2_open_32 rfl fiX2_25 (Or.inl rfl) f14 ?_
    refine ex_iconst 36 dX2_open_35 rfl ?_
    refine ex_isub 37 dX2_open_36 rfl ?_
    exact ex_iret dX2_open_37 (Or.inl rfl) ⟨_, rfl, hyp⟩
set_option maxRecDepth 4000 in
theorem tX2_add {P : PH → Prop} (h0 : PH) (a0 : Nat) (x1 : Int) (x2 : Int) (a3 : Nat) (hyp : OB h0 2 a0 ∧ METi mX2_has [vr a0, vi x2] h0 (fun y4 h2 => h2.1 = h0.1 → (rng y4 ∧ (y4 = 0 → (P h2)) ∧ (¬ y4 = 0 → (∃ r7 : Nat, h2.2.2 a0 0 = some r7 ∧ AI h2 22 r7 x2 ∧ ∃ r10 : Nat, h2.2.2 r7 (x2).toNat = some r10 ∧ OB h2 8 a3 ∧ ∃ r13 : Nat, h2.2.2 a3 0 = some r13 ∧ AI h2 21 r13 x1 ∧ ∃ r16 : Nat, h2.2.2 r13 (x1).toNat = some r16 ∧ OB h2 1 r10 ∧ METv mX1_add [vr r10, vi x1, vr r16] h2 (0, 0) (fun h19 => h19.1 = h2.1 → (∃ r22 : Nat, h19.2.2 a0 1 = some r22 ∧ AI h19 20 r22 x1 ∧ ∀ h25 : PH, h25 = px_upI h19 r22 (x1).toNat x2 → (P h25)))))))) : METv mX2_add [vr a0, vi x1, vi x2, vr a3] h0 (0, 0) P := by
  refine met_of_ex (by decide +kernel) (Nat.le_of_ble_eq_true rfl) ?_
  show EX mX2_add 0 [some (vr a0), some (vi x1), some (vi x2), some (vr a3)] [] h0 (0, 0) _
  refine ex_aload_n 1 dX2_add_0 rfl rfl ?_
  refine ex_iload_n 2 dX2_add_1 rfl rfl ?_
  obtain ⟨o1, hyp⟩ := hyp
  refine q_callVi [vi x2] 5 dX2_add_2 rfl cvX2_80 rfl rfl ⟨Nat.le_of_ble_eq_true rfl, Nat.le_of_ble_eq_true rfl⟩ (Nat.le_of_ble_eq_true rfl) o1 hyp (fun y4 h2 k3 hyp => ?_)
  obtain ⟨o5, hyp⟩ := hyp
  obtain ⟨ht, hf⟩ := hyp
  refine ex_if_eq 31 8 dX2_add_5 (by decide) rfl o5 (fun c27 => ?_) (fun c27 => ?_)
  · have hyp := ht c27
    clear ht hf
    exact ex_vret dX2_add_31 rfl ⟨rfl, hyp⟩
  · have hyp := hf c27
    clear ht hf
    refine ex_aload_n 9 dX2_add_8 rfl rfl ?_
    have f6 := OB.of k3 o1
    obtain ⟨r7, f8, hyp⟩ := hyp
    refine q_getR 2 0 12 dX2_add_9 rfl fiX2_11 rfl f6 f8 ?_
    refine ex_iload_n 13 dX2_add_12 rfl rfl ?_
    obtain ⟨o9, hyp⟩ := hyp
    obtain ⟨r10, f11, hyp⟩ := hyp
    refine ex_aald 22 14 dX2_add_13 rfl (by decide) o9 f11 ?_
    refine ex_iload_n 15 dX2_add_14 rfl rfl ?_
    refine ex_aload_n 16 dX2_add_15 rfl rfl ?_
    obtain ⟨o12, hyp⟩ := hyp
    obtain ⟨r13, f14, hyp⟩ := hyp
    refine q_getR 8 0 19 dX2_add_16 rfl fiX2_50 rfl o12 f14 ?_
    refine ex_iload_n 20 dX2_add_19 rfl rfl ?_
    obtain ⟨o15, hyp⟩ := hyp
    obtain ⟨r16, f17, hyp⟩ := hyp
    refine ex_aald 21 21 dX2_add_20 rfl (by decide) o15 f17 ?_
    obtain ⟨o18, hyp⟩ := hyp
    refine q_callVv [vi x1, vr r16] 24 dX2_add_21 rfl cvX2_84 rfl rfl ⟨Nat.le_of_ble_eq_true rfl, Nat.le_of_ble_eq_true rfl⟩ (Nat.le_of_ble_eq_true rfl) o18 hyp (fun h19 k20 hyp => ?_)
    refine ex_aload_n 25 dX2_add_24 rfl rfl ?_
    have f21 := OB.of k20 f6
    obtain ⟨r22, f23, hyp⟩ := hyp
    refine q_getR 2 1 28 dX2_add_25 rfl fiX2_17 rfl f21 f23 ?_
    refine ex_iload_n 29 dX2_add_28 rfl rfl ?_
    refine ex_iload_n 30 dX2_add_29 rfl rfl ?_
    obtain ⟨o24, hyp⟩ := hyp
    refine ex_iast 31 dX2_add_30 rfl o24 (fun h25 e26 => ?_)
    have hyp := hyp h25 e26
    exact ex_vret dX2_add_31 rfl ⟨rfl, hyp⟩
set_option maxRecDepth 4000 in
theorem tX2_isShaky {P : Int → PH → Prop} (h0 : PH) (a0 : Nat) (a1 : Nat) (a2 : Nat) (x3 : Int) (hyp : OB h0 1 a0 ∧ rng (h0.2.1 a0 3) ∧ (h0.2.1 a0 3 = (-1) → (P 0 h0)) ∧ (¬ h0.2.1 a0 3 = (-1) → (rng (h0.2.1 a0 4) ∧ (¬ h0.2.1 a0 4 = (-1) → (OB h0 6 a2 ∧ ∃ r5 : Nat, h0.2.2 a2 1 = some r5 ∧ AI h0 23 r5 (h0.2.1 a0 3) ∧ ∃ r8 : Nat, h0.2.2 r5 (h0.2.1 a0 3).toNat = some r8 ∧ AI h0 20 r8 (h0.2.1 a0 4) ∧ EXi mX2_isShaky 37 [some (vr a0), some (vr a1), some (vr a2), some (vi x3), some (vi (h0.2.1 r8 (h0.2.1 a0 4).toNat)), some (vi 0), none, none, none] [] h0 P)) ∧ (h0.2.1 a0 4 = (-1) → (P 0 h0))))) : METi mX2_isShaky [vr a0, vr a1, vr a2, vi x3] h0 P := by
  refine met_of_ex (by decide +kernel) (Nat.le_of_ble_eq_true rfl) ?_
  show EX mX2_isShaky 0 [some (vr a0), some (vr a1), some (vr a2), some (vi x3), none, none, none, none, none] [] h0 (0, 0) _
  refine ex_aload_n 1 dX2_isShaky_0 rfl rfl ?_
  obtain ⟨o1, hyp⟩ := hyp
  refine q_getI 1 3 4 dX2_isShaky_1 rfl fiX2_87 (Or.inl rfl) o1 ?_
  refine ex_iconst 5 dX2_isShaky_4 rfl ?_
  obtain ⟨o2, hyp⟩ := hyp
  obtain ⟨ht, hf⟩ := hyp
  refine ex_icmp_eq 16 8 dX2_isShaky_5 (by decide) rfl o2 ⟨by decide, by decide⟩ (fun c12 => ?_) (fun c12 => ?_)
  · have hyp := ht c12
    clear ht hf
    refine ex_iconst 17 dX2_isShaky_16 rfl ?_
    exact ex_iret dX2_isShaky_17 (Or.inr ⟨rfl, Or.inl rfl⟩) ⟨_, rfl, hyp⟩
  · have hyp := hf c12
    clear ht hf
    refine ex_aload_n 9 dX2_isShaky_8 rfl rfl ?_
    refine q_getI 1 4 12 dX2_isShaky_9 rfl fiX2_90 (Or.inl rfl) o1 ?_
    refine ex_iconst 13 dX2_isShaky_12 rfl ?_
    obtain ⟨o3, hyp⟩ := hyp
    obtain ⟨ht, hf⟩ := hyp
    refine ex_icmp_ne 18 16 dX2_isShaky_13 (by decide) rfl o3 ⟨by decide, by decide⟩ (fun c11 => ?_) (fun c11 => ?_)
    · have hyp := ht c11
      clear ht hf
      refine ex_aload_n 19 dX2_isShaky_18 rfl rfl ?_
      obtain ⟨o4, hyp⟩ := hyp
      obtain ⟨r5, f6, hyp⟩ := hyp
      refine q_getR 6 1 22 dX2_isShaky_19 rfl fiX2_93 rfl o4 f6 ?_
      refine ex_aload_n 23 dX2_isShaky_22 rfl rfl ?_
      refine q_getI 1 3 26 dX2_isShaky_23 rfl fiX2_87 (Or.inl rfl) o1 ?_
      obtain ⟨o7, hyp⟩ := hyp
      obtain ⟨r8, f9, hyp⟩ := hyp
      refine ex_aald 23 27 dX2_isShaky_26 rfl (by decide) o7 f9 ?_
      refine ex_aload_n 28 dX2_isShaky_27 rfl rfl ?_
      refine q_getI 1 4 31 dX2_isShaky_28 rfl fiX2_90 (Or.inl rfl) o1 ?_
      obtain ⟨o10, hyp⟩ := hyp
      refine ex_iald 32 dX2_isShaky_31 rfl o10 ?_
      refine q_istore [some (vr a0), some (vr a1), some (vr a2), some (vi x3), some (vi (h0.2.1 r8 (h0.2.1 a0 4).toNat)), none, none, none, none] 34 dX2_isShaky_32 rfl (Nat.le_of_ble_eq_true rfl) rfl rfl ?_
      refine ex_iconst 35 dX2_isShaky_34 rfl ?_
      refine q_istore [some (vr a0), some (vr a1), some (vr a2), some (vi x3), some (vi (h0.2.1 r8 (h0.2.1 a0 4).toNat)), some (vi 0), none, none, none] 37 dX2_isShaky_35 rfl (Nat.le_of_ble_eq_true rfl) rfl rfl ?_
      exact hyp
    · have hyp := hf c11
      clear ht hf
      refine ex_iconst 17 dX2_isShaky_16 rfl ?_
      exact ex_iret dX2_isShaky_17 (Or.inr ⟨rfl, Or.inl rfl⟩) ⟨_, rfl, hyp⟩
set_option maxRecDepth 4000 in
theorem tX2_isShaky_37 {P : Int → PH → Prop} (h0 : PH) (a0 : Nat) (a1 : Nat) (a2 : Nat) (x3 : Int) (x4 : Int) (x5 : Int) (hyp : OB h0 8 a1 ∧ rng x5 ∧ rng (h0.2.1 a1 2) ∧ (h0.2.1 a1 2 ≤ x5 → (P 0 h0)) ∧ (x5 < h0.2.1 a1 2 → (∃ r4 : Nat, h0.2.2 a1 0 = some r4 ∧ AI h0 21 r4 x5 ∧ ∃ r7 : Nat, h0.2.2 r4 (x5).toNat = some r7 ∧ OB h0 0 r7 ∧ rng (h0.2.1 r7 4) ∧ (¬ h0.2.1 r7 4 = 2 → ((¬ h0.2.1 r7 4 = 0 → (EXi mX2_isShaky 84 [some (vr a0), some (vr a1), some (vr a2), some (vi x3), some (vi x4), some (vi x5), none, none, none] [vi (-1)] h0 P)) ∧ (h0.2.1 r7 4 = 0 → (OB h0 1 a0 ∧ EXi mX2_isShaky 84 [some (vr a0), some (vr a1), some (vr a2), some (vi x3), some (vi x4), some (vi x5), none, none, none] [vi (h0.2.1 a0 4)] h0 P)))) ∧ (h0.2.1 r7 4 = 2 → (OB h0 1 a0 ∧ EXi mX2_isShaky 84 [some (vr a0), some (vr a1), some (vr a2), some (vi x3), some (vi x4), some (vi x5), none, none, none] [vi (h0.2.1 a0 3)] h0 P))))) : EXi mX2_isShaky 37 [some (vr a0), some (vr a1), some (vr a2), some (vi x3), some (vi x4), some (vi x5), none, none, none] [] h0 P := by
  refine ex_iload 39 dX2_isShaky_37 rfl rfl ?_
  refine ex_aload_n 40 dX2_isShaky_39 rfl rfl ?_
  obtain ⟨o1, hyp⟩ := hyp
  refine q_getI 8 2 43 dX2_isShaky_40 rfl fiX2_47 (Or.inl rfl) o1 ?_
  obtain ⟨o2, hyp⟩ := hyp
  obtain ⟨o3, hyp⟩ := hyp
  obtain ⟨ht, hf⟩ := hyp
  refine ex_icmp_ge 158 46 dX2_isShaky_43 (by decide) rfl o2 o3 (fun c15 => ?_) (fun c15 => ?_)
  · have hyp := ht c15
    clear ht hf
    refine ex_iconst 159 dX2_isShaky_158 rfl ?_
    exact ex_iret dX2_isShaky_159 (Or.inr ⟨rfl, Or.inl rfl⟩) ⟨_, rfl, hyp⟩
  · have hyp := hf c15
    clear ht hf
    refine ex_aload_n 47 dX2_isShaky_46 rfl rfl ?_
    obtain ⟨r4, f5, hyp⟩ := hyp
    refine q_getR 8 0 50 dX2_isShaky_47 rfl fiX2_50 rfl o1 f5 ?_
    refine ex_iload 52 dX2_isShaky_50 rfl rfl ?_
    obtain ⟨o6, hyp⟩ := hyp
    obtain ⟨r7, f8, hyp⟩ := hyp
    refine ex_aald 21 53 dX2_isShaky_52 rfl (by decide) o6 f8 ?_
    obtain ⟨o9, hyp⟩ := hyp
    refine q_getI 0 4 56 dX2_isShaky_53 rfl fiX2_54 (Or.inl rfl) o9 ?_
    refine q_istore [some (vr a0), some (vr a1), some (vr a2), some (vi x3), some (vi x4), some (vi x5), some (vi (h0.2.1 r7 4)), none, none] 58 dX2_isShaky_56 rfl (Nat.le_of_ble_eq_true rfl) rfl rfl ?_
    refine ex_iload 60 dX2_isShaky_58 rfl rfl ?_
    refine ex_iconst 61 dX2_isShaky_60 rfl ?_
    obtain ⟨o10, hyp⟩ := hyp
    obtain ⟨ht, hf⟩ := hyp
    refine ex_icmp_ne 71 64 dX2_isShaky_61 (by decide) rfl o10 ⟨by decide, by decide⟩ (fun c14 => ?_) (fun c14 => ?_)
    · have hyp := ht c14
      clear ht hf
      refine ex_iload 73 dX2_isShaky_71 rfl rfl ?_
      obtain ⟨ht, hf⟩ := hyp
      refine ex_if_ne 83 76 dX2_isShaky_73 (by decide) rfl o10 (fun c12 => ?_) (fun c12 => ?_)
      · have hyp := ht c12
        clear ht hf
        refine ex_iconst 84 dX2_isShaky_83 rfl ?_
        refine ex_dropL (ls' := [some (vr a0), some (vr a1), some (vr a2), some (vi x3), some (vi x4), some (vi x5), none, none, none]) 6 rfl ?_
        exact hyp
      · have hyp := hf c12
        clear ht hf
        refine ex_aload_n 77 dX2_isShaky_76 rfl rfl ?_
        obtain ⟨o11, hyp⟩ := hyp
        refine q_getI 1 4 80 dX2_isShaky_77 rfl fiX2_90 (Or.inl rfl) o11 ?_
        refine ex_goto 84 dX2_isShaky_80 (by decide) ?_
        refine ex_dropL (ls' := [some (vr a0), some (vr a1), some (vr a2), some (vi x3), some (vi x4), some (vi x5), none, none, none]) 6 rfl ?_
        exact hyp
    · have hyp := hf c14
      clear ht hf
      refine ex_aload_n 65 dX2_isShaky_64 rfl rfl ?_
      obtain ⟨o13, hyp⟩ := hyp
      refine q_getI 1 3 68 dX2_isShaky_65 rfl fiX2_87 (Or.inl rfl) o13 ?_
      refine ex_goto 84 dX2_isShaky_68 (by decide) ?_
      refine ex_dropL (ls' := [some (vr a0), some (vr a1), some (vr a2), some (vi x3), some (vi x4), some (vi x5), none, none, none]) 6 rfl ?_
      exact hyp
set_option maxRecDepth 4000 in
theorem tX2_isShaky_84 {P : Int → PH → Prop} (h0 : PH) (a0 : Nat) (a1 : Nat) (a2 : Nat) (x3 : Int) (x4 : Int) (x5 : Int) (xs0 : Int) (hyp : rng xs0 ∧ (xs0 = (-1) → (EXi mX2_isShaky 37 [some (vr a0), some (vr a1), some (vr a2), some (vi x3), some (vi x4), some (vi (x5 + 1)), none, none, none] [] h0 P)) ∧ (¬ xs0 = (-1) → (OB h0 1 a0 ∧ rng x5 ∧ rng (h0.2.1 a0 3) ∧ (x5 = h0.2.1 a0 3 → (EXi mX2_isShaky 37 [some (vr a0), some (vr a1), some (vr a2), some (vi x3), some (vi x4), some (vi (x5 + 1)), none, none, none] [] h0 P)) ∧ (¬ x5 = h0.2.1 a0 3 → (rng (h0.2.1 a0 4) ∧ (x5 = h0.2.1 a0 4 → (EXi mX2_isShaky 37 [some (vr a0), some (vr a1), some (vr a2), some (vi x3), some (vi x4), some (vi (x5 + 1)), none, none, none] [] h0 P)) ∧ (¬ x5 = h0.2.1 a0 4 → (OB h0 6 a2 ∧ METi mX6_fit [vr a2, vi xs0, vi x5] h0 (fun y9 h7 => h7.1 = h0.1 → (rng y9 ∧ (y9 = 0 → (EXi mX2_isShaky 37 [some (vr a0), some (vr a1), some (vr a2), some (vi x3), some (vi x4), some (vi (x5 + 1)), none, none, none] [] h7 P)) ∧ (¬ y9 = 0 → (∃ r12 : Nat, h7.2.2 a2 1 = some r12 ∧ AI h7 23 r12 xs0 ∧ ∃ r15 : Nat, h7.2.2 r12 (xs0).toNat = some r15 ∧ AI h7 20 r15 x5 ∧ rng (x4 - (h7.2.1 r15 (x5).toNat)) ∧ rng x3 ∧ (x3 < x4 - (h7.2.1 r15 (x5).toNat) → (EXi mX2_isShaky 37 [some (vr a0), some (vr a1), some (vr a2), some (vi x3), some (vi x4), some (vi (x5 + 1)), none, none, none] [] h7 P)) ∧ (x4 - (h7.2.1 r15 (x5).toNat) ≤ x3 → (P 1 h7))))))))))))) : EXi mX2_isShaky 84 [some (vr a0), some (vr a1), some (vr a2), some (vi x3), some (vi x4), some (vi x5), none, none, none] [vi xs0] h0 P := by
  refine q_istore [some (vr a0), some (vr a1), some (vr a2), some (vi x3), some (vi x4), some (vi x5), none, some (vi xs0), none] 86 dX2_isShaky_84 rfl (Nat.le_of_ble_eq_true rfl) rfl rfl ?_
  refine ex_iload 88 dX2_isShaky_86 rfl rfl ?_
  refine ex_iconst 89 dX2_isShaky_88 rfl ?_
  obtain ⟨o1, hyp⟩ := hyp
  obtain ⟨ht, hf⟩ := hyp
  refine ex_icmp_eq 114 92 dX2_isShaky_89 (by decide) rfl o1 ⟨by decide, by decide⟩ (fun c24 => ?_) (fun c24 => ?_)
  · have hyp := ht c24
    clear ht hf
    refine ex_iconst 115 dX2_isShaky_114 rfl ?_
    refine q_istore [some (vr a0), some (vr a1), some (vr a2), some (vi x3), some (vi x4), some (vi x5), none, some (vi xs0), some (vi 0)] 117 dX2_isShaky_115 rfl (Nat.le_of_ble_eq_true rfl) rfl rfl ?_
    refine ex_iload 119 dX2_isShaky_117 rfl rfl ?_
    refine ex_if_eq 152 122 dX2_isShaky_119 (by decide) rfl ⟨by decide, by decide⟩ (fun _ => ?_) (fun c => absurd c (by decide))
    refine q_iinc [some (vr a0), some (vr a1), some (vr a2), some (vi x3), some (vi x4), some (vi (x5 + 1)), none, some (vi xs0), some (vi 0)] 155 dX2_isShaky_152 rfl rfl (Nat.le_of_ble_eq_true rfl) rfl rfl ?_
    refine ex_goto 37 dX2_isShaky_155 (by decide) ?_
    refine ex_dropL (ls' := [some (vr a0), some (vr a1), some (vr a2), some (vi x3), some (vi x4), some (vi (x5 + 1)), none, none, some (vi 0)]) 7 rfl ?_
    refine ex_dropL (ls' := [some (vr a0), some (vr a1), some (vr a2), some (vi x3), some (vi x4), some (vi (x5 + 1)), none, none, none]) 8 rfl ?_
    exact hyp
  · have hyp := hf c24
    clear ht hf
    refine ex_iload 94 dX2_isShaky_92 rfl rfl ?_
    refine ex_aload_n 95 dX2_isShaky_94 rfl rfl ?_
    obtain ⟨o2, hyp⟩ := hyp
    refine q_getI 1 3 98 dX2_isShaky_95 rfl fiX2_87 (Or.inl rfl) o2 ?_
    obtain ⟨o3, hyp⟩ := hyp
    obtain ⟨o4, hyp⟩ := hyp
    obtain ⟨ht, hf⟩ := hyp
    refine ex_icmp_eq 114 101 dX2_isShaky_98 (by decide) rfl o3 o4 (fun c23 => ?_) (fun c23 => ?_)
    · have hyp := ht c23
      clear ht hf
      refine ex_iconst 115 dX2_isShaky_114 rfl ?_
      refine q_istore [some (vr a0), some (vr a1), some (vr a2), some (vi x3), some (vi x4), some (vi x5), none, some (vi xs0), some (vi 0)] 117 dX2_isShaky_115 rfl (Nat.le_of_ble_eq_true rfl) rfl rfl ?_
      refine ex_iload 119 dX2_isShaky_117 rfl rfl ?_
      refine ex_if_eq 152 122 dX2_isShaky_119 (by decide) rfl ⟨by decide, by decide⟩ (fun _ => ?_) (fun c => absurd c (by decide))
      refine q_iinc [some (vr a0), some (vr a1), some (vr a2), some (vi x3), some (vi x4), some (vi (x5 + 1)), none, some (vi xs0), some (vi 0)] 155 dX2_isShaky_152 rfl rfl (Nat.le_of_ble_eq_true rfl) rfl rfl ?_
      refine ex_goto 37 dX2_isShaky_155 (by decide) ?_
      refine ex_dropL (ls' := [some (vr a0), some (vr a1), some (vr a2), some (vi x3), some (vi x4), some (vi (x5 + 1)), none, none, some (vi 0)]) 7 rfl ?_
      refine ex_dropL (ls' := [some (vr a0), some (vr a1), some (vr a2), some (vi x3), some (vi x4), some (vi (x5 + 1)), none, none, none]) 8 rfl ?_
      exact hyp
    · have hyp := hf c23
      clear ht hf
      refine ex_iload 103 dX2_isShaky_101 rfl rfl ?_
      refine ex_aload_n 104 dX2_isShaky_103 rfl rfl ?_
      refine q_getI 1 4 107 dX2_isShaky_104 rfl fiX2_90 (Or.inl rfl) o2 ?_
      obtain ⟨o5, hyp⟩ := hyp
      obtain ⟨ht, hf⟩ := hyp
      refine ex_icmp_eq 114 110 dX2_isShaky_107 (by decide) rfl o3 o5 (fun c22 => ?_) (fun c22 => ?_)
      · have hyp := ht c22
        clear ht hf
        refine ex_iconst 115 dX2_isShaky_114 rfl ?_
        refine q_istore [some (vr a0), some (vr a1), some (vr a2), some (vi x3), some (vi x4), some (vi x5), none, some (vi xs0), some (vi 0)] 117 dX2_isShaky_115 rfl (Nat.le_of_ble_eq_true rfl) rfl rfl ?_
        refine ex_iload 119 dX2_isShaky_117 rfl rfl ?_
        refine ex_if_eq 152 122 dX2_isShaky_119 (by decide) rfl ⟨by decide, by decide⟩ (fun _ => ?_) (fun c => absurd c (by decide))
        refine q_iinc [some (vr a0), some (vr a1), some (vr a2), some (vi x3), some (vi x4), some (vi (x5 + 1)), none, some (vi xs0), some (vi 0)] 155 dX2_isShaky_152 rfl rfl (Nat.le_of_ble_eq_true rfl) rfl rfl ?_
        refine ex_goto 37 dX2_isShaky_155 (by decide) ?_
        refine ex_dropL (ls' := [some (vr a0), some (vr a1), some (vr a2), some (vi x3), some (vi x4), some (vi (x5 + 1)), none, none, some (vi 0)]) 7 rfl ?_
        refine ex_dropL (ls' := [some (vr a0), some (vr a1), some (vr a2), some (vi x3), some (vi x4), some (vi (x5 + 1)), none, none, none]) 8 rfl ?_
        exact hyp
      · have hyp := hf c22
        clear ht hf
        refine ex_iconst 111 dX2_isShaky_110 rfl ?_
        refine ex_goto 115 dX2_isShaky_111 (by decide) ?_
        refine q_istore [some (vr a0), some (vr a1), some (vr a2), some (vi x3), some (vi x4), some (vi x5), none, some (vi xs0), some (vi 1)] 117 dX2_isShaky_115 rfl (Nat.le_of_ble_eq_true rfl) rfl rfl ?_
        refine ex_iload 119 dX2_isShaky_117 rfl rfl ?_
        refine ex_if_eq 152 122 dX2_isShaky_119 (by decide) rfl ⟨by decide, by decide⟩ (fun c => absurd c (by decide)) (fun _ => ?_)
        refine ex_aload_n 123 dX2_isShaky_122 rfl rfl ?_
        refine ex_iload 125 dX2_isShaky_123 rfl rfl ?_
        refine ex_iload 127 dX2_isShaky_125 rfl rfl ?_
        obtain ⟨o6, hyp⟩ := hyp
        refine q_callVi [vi xs0, vi x5] 130 dX2_isShaky_127 rfl cvX2_99 rfl rfl ⟨Nat.le_of_ble_eq_true rfl, Nat.le_of_ble_eq_true rfl⟩ (Nat.le_of_ble_eq_true rfl) o6 hyp (fun y9 h7 k8 hyp => ?_)
        obtain ⟨o10, hyp⟩ := hyp
        obtain ⟨ht, hf⟩ := hyp
        refine ex_if_eq 152 133 dX2_isShaky_130 (by decide) rfl o10 (fun c21 => ?_) (fun c21 => ?_)
        · have hyp := ht c21
          clear ht hf
          refine q_iinc [some (vr a0), some (vr a1), some (vr a2), some (vi x3), some (vi x4), some (vi (x5 + 1)), none, some (vi xs0), some (vi 1)] 155 dX2_isShaky_152 rfl rfl (Nat.le_of_ble_eq_true rfl) rfl rfl ?_
          refine ex_goto 37 dX2_isShaky_155 (by decide) ?_
          refine ex_dropL (ls' := [some (vr a0), some (vr a1), some (vr a2), some (vi x3), some (vi x4), some (vi (x5 + 1)), none, none, some (vi 1)]) 7 rfl ?_
          refine ex_dropL (ls' := [some (vr a0), some (vr a1), some (vr a2), some (vi x3), some (vi x4), some (vi (x5 + 1)), none, none, none]) 8 rfl ?_
          exact hyp
        · have hyp := hf c21
          clear ht hf
          refine ex_iload 135 dX2_isShaky_133 rfl rfl ?_
          refine ex_aload_n 136 dX2_isShaky_135 rfl rfl ?_
          have f11 := OB.of k8 o6
          obtain ⟨r12, f13, hyp⟩ := hyp
          refine q_getR 6 1 139 dX2_isShaky_136 rfl fiX2_93 rfl f11 f13 ?_
          refine ex_iload 141 dX2_isShaky_139 rfl rfl ?_
          obtain ⟨o14, hyp⟩ := hyp
          obtain ⟨r15, f16, hyp⟩ := hyp
          refine ex_aald 23 142 dX2_isShaky_141 rfl (by decide) o14 f16 ?_
          refine ex_iload 144 dX2_isShaky_142 rfl rfl ?_
          obtain ⟨o17, hyp⟩ := hyp
          refine ex_iald 145 dX2_isShaky_144 rfl o17 ?_
          refine ex_isub 146 dX2_isShaky_145 rfl ?_
          refine ex_iload_n 147 dX2_isShaky_146 rfl rfl ?_
          obtain ⟨o18, hyp⟩ := hyp
          obtain ⟨o19, hyp⟩ := hyp
          obtain ⟨ht, hf⟩ := hyp
          refine ex_icmp_gt 152 150 dX2_isShaky_147 (by decide) rfl o18 o19 (fun c20 => ?_) (fun c20 => ?_)
          · have hyp := ht c20
            clear ht hf
            refine q_iinc [some (vr a0), some (vr a1), some (vr a2), some (vi x3), some (vi x4), some (vi (x5 + 1)), none, some (vi xs0), some (vi 1)] 155 dX2_isShaky_152 rfl rfl (Nat.le_of_ble_eq_true rfl) rfl rfl ?_
            refine ex_goto 37 dX2_isShaky_155 (by decide) ?_
            refine ex_dropL (ls' := [some (vr a0), some (vr a1), some (vr a2), some (vi x3), some (vi x4), some (vi (x5 + 1)), none, none, some (vi 1)]) 7 rfl ?_
            refine ex_dropL (ls' := [some (vr a0), some (vr a1), some (vr a2), some (vi x3), some (vi x4), some (vi (x5 + 1)), none, none, none]) 8 rfl ?_
            exact hyp
          · have hyp := hf c20
            clear ht hf
            refine ex_iconst 151 dX2_isShaky_150 rfl ?_
            exact ex_iret dX2_isShaky_151 (Or.inr ⟨rfl, Or.inr rfl⟩) ⟨_, rfl, hyp⟩
set_option maxRecDepth 4000 in
theorem tX2_layWedding {P : PH → Prop} (h0 : PH) (a0 : Nat) (x1 : Int) (a2 : Nat) (a3 : Nat) (x4 : Int) (hyp : EXv mX2_layWedding 6 [some (vr a0), some (vi x1), some (vr a2), some (vr a3), some (vi x4), some (vi (-1)), some (vi 0)] [] h0 (0, 0) P) : METv mX2_layWedding [vr a0, vi x1, vr a2, vr a3, vi x4] h0 (0, 0) P := by
  refine met_of_ex (by decide +kernel) (Nat.le_of_ble_eq_true rfl) ?_
  show EX mX2_layWedding 0 [some (vr a0), some (vi x1), some (vr a2), some (vr a3), some (vi x4), none, none] [] h0 (0, 0) _
  refine ex_iconst 1 dX2_layWedding_0 rfl ?_
  refine q_istore [some (vr a0), some (vi x1), some (vr a2), some (vr a3), some (vi x4), some (vi (-1)), none] 3 dX2_layWedding_1 rfl (Nat.le_of_ble_eq_true rfl) rfl rfl ?_
  refine ex_iconst 4 dX2_layWedding_3 rfl ?_
  refine q_istore [some (vr a0), some (vi x1), some (vr a2), some (vr a3), some (vi x4), some (vi (-1)), some (vi 0)] 6 dX2_layWedding_4 rfl (Nat.le_of_ble_eq_true rfl) rfl rfl ?_
  exact hyp
set_option maxRecDepth 4000 in
theorem tX2_layWedding_6 {P : PH → Prop} (h0 : PH) (a0 : Nat) (x1 : Int) (a2 : Nat) (a3 : Nat) (x4 : Int) (x5 : Int) (x6 : Int) (hyp : OB h0 2 a0 ∧ rng x6 ∧ rng (h0.2.1 a0 2) ∧ (h0.2.1 a0 2 ≤ x6 → (rng x5 ∧ (¬ x5 = (-1) → (METi mX2_hasRival [vr a0, vi x5, vi x4] h0 (fun y7 h5 => h5.1 = h0.1 → (rng y7 ∧ (y7 = 0 → (METv mX2_add [vr a0, vi x1, vi x5, vr a2] h5 (0, 0) (fun h10 => h10.1 = h5.1 → (P h10)))) ∧ (¬ y7 = 0 → (∃ r13 : Nat, h5.2.2 a0 1 = some r13 ∧ AI h5 20 r13 x1 ∧ ∀ h16 : PH, h16 = px_upI h5 r13 (x1).toNat (-1) → (∀ h19 : PH, h19 = px_upI h16 a0 4 ((h16.2.1 a0 4) + 1) → (P h19)))))))) ∧ (x5 = (-1) → (METi mX2_open [vr a0] h0 (fun y24 h22 => h22.1 = h0.1 → (METv mX2_add [vr a0, vi x1, vi y24, vr a2] h22 (0, 0) (fun h26 => h26.1 = h22.1 → (P h26)))))))) ∧ (x6 < h0.2.1 a0 2 → (∃ r29 : Nat, h0.2.2 a0 5 = some r29 ∧ ∃ r31 : Nat, h0.2.2 a0 0 = some r31 ∧ AI h0 22 r31 x6 ∧ ∃ r34 : Nat, h0.2.2 r31 (x6).toNat = some r34 ∧ METi mX2_valueAt [vi x1, vr r34, vr a3] h0 (fun y38 h36 => h36.1 = h0.1 → (AI h36 20 r29 x6 ∧ ∀ h40 : PH, h40 = px_upI h36 r29 (x6).toNat y38 → (∃ r44 : Nat, h40.2.2 a0 5 = some r44 ∧ AI h40 20 r44 x6 ∧ rng (h40.2.1 r44 (x6).toNat) ∧ (h40.2.1 r44 (x6).toNat = (-1) → (EXv mX2_layWedding 6 [some (vr a0), some (vi x1), some (vr a2), some (vr a3), some (vi x4), some (vi x5), some (vi (x6 + 1))] [] h40 (0, 0) P)) ∧ (¬ h40.2.1 r44 (x6).toNat = (-1) → (rng x5 ∧ (x5 = (-1) → (EXv mX2_layWedding 6 [some (vr a0), some (vi x1), some (vr a2), some (vr a3), some (vi x4), some (vi x6), some (vi (x6 + 1))] [] h40 (0, 0) P)) ∧ (¬ x5 = (-1) → (AI h40 20 r44 x5 ∧ rng (h40.2.1 r44 (x5).toNat) ∧ (h40.2.1 r44 (x6).toNat ≤ h40.2.1 r44 (x5).toNat → (EXv mX2_layWedding 6 [some (vr a0), some (vi x1), some (vr a2), some (vr a3), some (vi x4), some (vi x5), some (vi (x6 + 1))] [] h40 (0, 0) P)) ∧ (h40.2.1 r44 (x5).toNat < h40.2.1 r44 (x6).toNat → (EXv mX2_layWedding 6 [some (vr a0), some (vi x1), some (vr a2), some (vr a3), some (vi x4), some (vi x6), some (vi (x6 + 1))] [] h40 (0, 0) P)))))))))))) : EXv mX2_layWedding 6 [some (vr a0), some (vi x1), some (vr a2), some (vr a3), some (vi x4), some (vi x5), some (vi x6)] [] h0 (0, 0) P := by
  refine ex_iload 8 dX2_layWedding_6 rfl rfl ?_
  refine ex_aload_n 9 dX2_layWedding_8 rfl rfl ?_
  obtain ⟨o1, hyp⟩ := hyp
  refine q_getI 2 2 12 dX2_layWedding_9 rfl fiX2_25 (Or.inl rfl) o1 ?_
  obtain ⟨o2, hyp⟩ := hyp
  obtain ⟨o3, hyp⟩ := hyp
  obtain ⟨ht, hf⟩ := hyp
  refine ex_icmp_ge 78 15 dX2_layWedding_12 (by decide) rfl o2 o3 (fun c54 => ?_) (fun c54 => ?_)
  · have hyp := ht c54
    clear ht hf
    refine ex_iload 80 dX2_layWedding_78 rfl rfl ?_
    refine ex_iconst 81 dX2_layWedding_80 rfl ?_
    obtain ⟨o4, hyp⟩ := hyp
    obtain ⟨ht, hf⟩ := hyp
    refine ex_icmp_ne 97 84 dX2_layWedding_81 (by decide) rfl o4 ⟨by decide, by decide⟩ (fun c28 => ?_) (fun c28 => ?_)
    · have hyp := ht c28
      clear ht hf
      refine ex_aload_n 98 dX2_layWedding_97 rfl rfl ?_
      refine ex_iload 100 dX2_layWedding_98 rfl rfl ?_
      refine ex_iload 102 dX2_layWedding_100 rfl rfl ?_
      refine q_callVi [vi x5, vi x4] 105 dX2_layWedding_102 rfl cvX2_107 rfl rfl ⟨Nat.le_of_ble_eq_true rfl, Nat.le_of_ble_eq_true rfl⟩ (Nat.le_of_ble_eq_true rfl) o1 hyp (fun y7 h5 k6 hyp => ?_)
      obtain ⟨o8, hyp⟩ := hyp
      obtain ⟨ht, hf⟩ := hyp
      refine ex_if_eq 128 108 dX2_layWedding_105 (by decide) rfl o8 (fun c21 => ?_) (fun c21 => ?_)
      · have hyp := ht c21
        clear ht hf
        refine ex_aload_n 129 dX2_layWedding_128 rfl rfl ?_
        refine ex_iload_n 130 dX2_layWedding_129 rfl rfl ?_
        refine ex_iload 132 dX2_layWedding_130 rfl rfl ?_
        refine ex_aload_n 133 dX2_layWedding_132 rfl rfl ?_
        have f9 := OB.of k6 o1
        refine q_callVv [vi x1, vi x5, vr a2] 136 dX2_layWedding_133 rfl cvX2_68 rfl rfl ⟨Nat.le_of_ble_eq_true rfl, Nat.le_of_ble_eq_true rfl⟩ (Nat.le_of_ble_eq_true rfl) f9 hyp (fun h10 k11 hyp => ?_)
        exact ex_vret dX2_layWedding_136 rfl ⟨rfl, hyp⟩
      · have hyp := hf c21
        clear ht hf
        refine ex_aload_n 109 dX2_layWedding_108 rfl rfl ?_
        have f12 := OB.of k6 o1
        obtain ⟨r13, f14, hyp⟩ := hyp
        refine q_getR 2 1 112 dX2_layWedding_109 rfl fiX2_17 rfl f12 f14 ?_
        refine ex_iload_n 113 dX2_layWedding_112 rfl rfl ?_
        refine ex_iconst 114 dX2_layWedding_113 rfl ?_
        obtain ⟨o15, hyp⟩ := hyp
        refine ex_iast 115 dX2_layWedding_114 rfl o15 (fun h16 e17 => ?_)
        have hyp := hyp h16 e17
        refine ex_aload_n 116 dX2_layWedding_115 rfl rfl ?_
        refine ex_dup 117 dX2_layWedding_116 rfl rfl ?_
        have f18 := OB.of (KI e17) f12
        refine q_getI 2 4 120 dX2_layWedding_117 rfl fiX2_29 (Or.inl rfl) f18 ?_
        refine ex_iconst 121 dX2_layWedding_120 rfl ?_
        refine ex_iadd 122 dX2_layWedding_121 rfl ?_
        refine q_putI 2 4 125 dX2_layWedding_122 rfl fiX2_29 ff2_4 rfl f18 (fun h19 e20 => ?_)
        have hyp := hyp h19 e20
        refine ex_goto 136 dX2_layWedding_125 (by decide) ?_
        exact ex_vret dX2_layWedding_136 rfl ⟨rfl, hyp⟩
    · have hyp := hf c28
      clear ht hf
      refine ex_aload_n 85 dX2_layWedding_84 rfl rfl ?_
      refine ex_iload_n 86 dX2_layWedding_85 rfl rfl ?_
      refine ex_aload_n 87 dX2_layWedding_86 rfl rfl ?_
      refine q_callVi [] 90 dX2_layWedding_87 rfl cvX2_64 rfl rfl ⟨Nat.le_of_ble_eq_true rfl, Nat.le_of_ble_eq_true rfl⟩ (Nat.le_of_ble_eq_true rfl) o1 hyp (fun y24 h22 k23 hyp => ?_)
      refine ex_aload_n 91 dX2_layWedding_90 rfl rfl ?_
      have f25 := OB.of k23 o1
      refine q_callVv [vi x1, vi y24, vr a2] 94 dX2_layWedding_91 rfl cvX2_68 rfl rfl ⟨Nat.le_of_ble_eq_true rfl, Nat.le_of_ble_eq_true rfl⟩ (Nat.le_of_ble_eq_true rfl) f25 hyp (fun h26 k27 hyp => ?_)
      refine ex_goto 136 dX2_layWedding_94 (by decide) ?_
      exact ex_vret dX2_layWedding_136 rfl ⟨rfl, hyp⟩
  · have hyp := hf c54
    clear ht hf
    refine ex_aload_n 16 dX2_layWedding_15 rfl rfl ?_
    obtain ⟨r29, f30, hyp⟩ := hyp
    refine q_getR 2 5 19 dX2_layWedding_16 rfl fiX2_21 rfl o1 f30 ?_
    refine ex_iload 21 dX2_layWedding_19 rfl rfl ?_
    refine ex_iload_n 22 dX2_layWedding_21 rfl rfl ?_
    refine ex_aload_n 23 dX2_layWedding_22 rfl rfl ?_
    obtain ⟨r31, f32, hyp⟩ := hyp
    refine q_getR 2 0 26 dX2_layWedding_23 rfl fiX2_11 rfl o1 f32 ?_
    refine ex_iload 28 dX2_layWedding_26 rfl rfl ?_
    obtain ⟨o33, hyp⟩ := hyp
    obtain ⟨r34, f35, hyp⟩ := hyp
    refine ex_aald 22 29 dX2_layWedding_28 rfl (by decide) o33 f35 ?_
    refine ex_aload_n 30 dX2_layWedding_29 rfl rfl ?_
    refine q_callSi [vi x1, vr r34, vr a3] 33 dX2_layWedding_30 rfl cvX2_103 rfl rfl ⟨Nat.le_of_ble_eq_true rfl, Nat.le_of_ble_eq_true rfl⟩ (Nat.le_of_ble_eq_true rfl) hyp (fun y38 h36 k37 hyp => ?_)
    obtain ⟨o39, hyp⟩ := hyp
    refine ex_iast 34 dX2_layWedding_33 rfl o39 (fun h40 e41 => ?_)
    have hyp := hyp h40 e41
    refine ex_aload_n 35 dX2_layWedding_34 rfl rfl ?_
    have f42 := OB.of k37 o1
    have f43 := OB.of (KI e41) f42
    obtain ⟨r44, f45, hyp⟩ := hyp
    refine q_getR 2 5 38 dX2_layWedding_35 rfl fiX2_21 rfl f43 f45 ?_
    refine ex_iload 40 dX2_layWedding_38 rfl rfl ?_
    obtain ⟨o46, hyp⟩ := hyp
    refine ex_iald 41 dX2_layWedding_40 rfl o46 ?_
    refine ex_iconst 42 dX2_layWedding_41 rfl ?_
    obtain ⟨o47, hyp⟩ := hyp
    obtain ⟨ht, hf⟩ := hyp
    refine ex_icmp_eq 72 45 dX2_layWedding_42 (by decide) rfl o47 ⟨by decide, by decide⟩ (fun c53 => ?_) (fun c53 => ?_)
    · have hyp := ht c53
      clear ht hf
      refine q_iinc [some (vr a0), some (vi x1), some (vr a2), some (vr a3), some (vi x4), some (vi x5), some (vi (x6 + 1))] 75 dX2_layWedding_72 rfl rfl (Nat.le_of_ble_eq_true rfl) rfl rfl ?_
      refine ex_goto 6 dX2_layWedding_75 (by decide) ?_
      exact hyp
    · have hyp := hf c53
      clear ht hf
      refine ex_iload 47 dX2_layWedding_45 rfl rfl ?_
      refine ex_iconst 48 dX2_layWedding_47 rfl ?_
      obtain ⟨o48, hyp⟩ := hyp
      obtain ⟨ht, hf⟩ := hyp
      refine ex_icmp_eq 68 51 dX2_layWedding_48 (by decide) rfl o48 ⟨by decide, by decide⟩ (fun c52 => ?_) (fun c52 => ?_)
      · have hyp := ht c52
        clear ht hf
        refine ex_iload 70 dX2_layWedding_68 rfl rfl ?_
        refine q_istore [some (vr a0), some (vi x1), some (vr a2), some (vr a3), some (vi x4), some (vi x6), some (vi x6)] 72 dX2_layWedding_70 rfl (Nat.le_of_ble_eq_true rfl) rfl rfl ?_
        refine q_iinc [some (vr a0), some (vi x1), some (vr a2), some (vr a3), some (vi x4), some (vi x6), some (vi (x6 + 1))] 75 dX2_layWedding_72 rfl rfl (Nat.le_of_ble_eq_true rfl) rfl rfl ?_
        refine ex_goto 6 dX2_layWedding_75 (by decide) ?_
        exact hyp
      · have hyp := hf c52
        clear ht hf
        refine ex_aload_n 52 dX2_layWedding_51 rfl rfl ?_
        refine q_getR 2 5 55 dX2_layWedding_52 rfl fiX2_21 rfl f43 f45 ?_
        refine ex_iload 57 dX2_layWedding_55 rfl rfl ?_
        refine ex_iald 58 dX2_layWedding_57 rfl o46 ?_
        refine ex_aload_n 59 dX2_layWedding_58 rfl rfl ?_
        refine q_getR 2 5 62 dX2_layWedding_59 rfl fiX2_21 rfl f43 f45 ?_
        refine ex_iload 64 dX2_layWedding_62 rfl rfl ?_
        obtain ⟨o49, hyp⟩ := hyp
        refine ex_iald 65 dX2_layWedding_64 rfl o49 ?_
        obtain ⟨o50, hyp⟩ := hyp
        obtain ⟨ht, hf⟩ := hyp
        refine ex_icmp_le 72 68 dX2_layWedding_65 (by decide) rfl o47 o50 (fun c51 => ?_) (fun c51 => ?_)
        · have hyp := ht c51
          clear ht hf
          refine q_iinc [some (vr a0), some (vi x1), some (vr a2), some (vr a3), some (vi x4), some (vi x5), some (vi (x6 + 1))] 75 dX2_layWedding_72 rfl rfl (Nat.le_of_ble_eq_true rfl) rfl rfl ?_
          refine ex_goto 6 dX2_layWedding_75 (by decide) ?_
          exact hyp
        · have hyp := hf c51
          clear ht hf
          refine ex_iload 70 dX2_layWedding_68 rfl rfl ?_
          refine q_istore [some (vr a0), some (vi x1), some (vr a2), some (vr a3), some (vi x4), some (vi x6), some (vi x6)] 72 dX2_layWedding_70 rfl (Nat.le_of_ble_eq_true rfl) rfl rfl ?_
          refine q_iinc [some (vr a0), some (vi x1), some (vr a2), some (vr a3), some (vi x4), some (vi x6), some (vi (x6 + 1))] 75 dX2_layWedding_72 rfl rfl (Nat.le_of_ble_eq_true rfl) rfl rfl ?_
          refine ex_goto 6 dX2_layWedding_75 (by decide) ?_
          exact hyp
set_option maxRecDepth 4000 in
theorem tX2_valueAt {P : Int → PH → Prop} (h0 : PH) (x0 : Int) (a1 : Nat) (a2 : Nat) (hyp : OB h0 1 a1 ∧ METi mX1_weddings [vr a1] h0 (fun y4 h2 => h2.1 = h0.1 → (rng y4 ∧ (3 ≤ y4 → (P (-1) h2)) ∧ (y4 < 3 → (∃ r7 : Nat, h2.2.2 a1 0 = some r7 ∧ OB h2 6 a2 ∧ METi mX6_fitFirst [vr a2, vi x0, vr r7, vi (h2.2.1 a1 1)] h2 (fun y12 h10 => h10.1 = h2.1 → (rng y12 ∧ (¬ y12 = 0 → (∃ r15 : Nat, h10.2.2 a1 0 = some r15 ∧ rng (h10.2.1 a1 2) ∧ (h10.2.1 a1 2 ≤ 0 → (METi mX6_meanWorth [vr a2, vi x0, vr r15, vi (h10.2.1 a1 1)] h10 (fun y21 h19 => h19.1 = h10.1 → (P y21 h19)))) ∧ (0 < h10.2.1 a1 2 → (METi mX6_meanWorth [vr a2, vi x0, vr r15, vi (h10.2.1 a1 2)] h10 (fun y25 h23 => h23.1 = h10.1 → (P y25 h23)))))) ∧ (y12 = 0 → (P (-1) h10))))))))) : METi mX2_valueAt [vi x0, vr a1, vr a2] h0 P := by
  refine met_of_ex (by decide +kernel) (Nat.le_of_ble_eq_true rfl) ?_
  show EX mX2_valueAt 0 [some (vi x0), some (vr a1), some (vr a2)] [] h0 (0, 0) _
  refine ex_aload_n 1 dX2_valueAt_0 rfl rfl ?_
  obtain ⟨o1, hyp⟩ := hyp
  refine q_callVi [] 4 dX2_valueAt_1 rfl cvX2_110 rfl rfl ⟨Nat.le_of_ble_eq_true rfl, Nat.le_of_ble_eq_true rfl⟩ (Nat.le_of_ble_eq_true rfl) o1 hyp (fun y4 h2 k3 hyp => ?_)
  refine ex_iconst 5 dX2_valueAt_4 rfl ?_
  obtain ⟨o5, hyp⟩ := hyp
  obtain ⟨ht, hf⟩ := hyp
  refine ex_icmp_ge 24 8 dX2_valueAt_5 (by decide) rfl o5 ⟨by decide, by decide⟩ (fun c28 => ?_) (fun c28 => ?_)
  · have hyp := ht c28
    clear ht hf
    refine ex_iconst 25 dX2_valueAt_24 rfl ?_
    exact ex_iret dX2_valueAt_25 (Or.inl rfl) ⟨_, rfl, hyp⟩
  · have hyp := hf c28
    clear ht hf
    refine ex_aload_n 9 dX2_valueAt_8 rfl rfl ?_
    refine ex_iload_n 10 dX2_valueAt_9 rfl rfl ?_
    refine ex_aload_n 11 dX2_valueAt_10 rfl rfl ?_
    have f6 := OB.of k3 o1
    obtain ⟨r7, f8, hyp⟩ := hyp
    refine q_getR 1 0 14 dX2_valueAt_11 rfl fiX2_113 rfl f6 f8 ?_
    refine ex_aload_n 15 dX2_valueAt_14 rfl rfl ?_
    refine q_getI 1 1 18 dX2_valueAt_15 rfl fiX2_63 (Or.inl rfl) f6 ?_
    obtain ⟨o9, hyp⟩ := hyp
    refine q_callVi [vi x0, vr r7, vi (h2.2.1 a1 1)] 21 dX2_valueAt_18 rfl cvX2_116 rfl rfl ⟨Nat.le_of_ble_eq_true rfl, Nat.le_of_ble_eq_true rfl⟩ (Nat.le_of_ble_eq_true rfl) o9 hyp (fun y12 h10 k11 hyp => ?_)
    obtain ⟨o13, hyp⟩ := hyp
    obtain ⟨ht, hf⟩ := hyp
    refine ex_if_ne 26 24 dX2_valueAt_21 (by decide) rfl o13 (fun c27 => ?_) (fun c27 => ?_)
    · have hyp := ht c27
      clear ht hf
      refine ex_aload_n 27 dX2_valueAt_26 rfl rfl ?_
      refine ex_iload_n 28 dX2_valueAt_27 rfl rfl ?_
      refine ex_aload_n 29 dX2_valueAt_28 rfl rfl ?_
      have f14 := OB.of k11 f6
      obtain ⟨r15, f16, hyp⟩ := hyp
      refine q_getR 1 0 32 dX2_valueAt_29 rfl fiX2_113 rfl f14 f16 ?_
      refine ex_aload_n 33 dX2_valueAt_32 rfl rfl ?_
      refine q_getI 1 2 36 dX2_valueAt_33 rfl fiX2_120 (Or.inl rfl) f14 ?_
      obtain ⟨o17, hyp⟩ := hyp
      obtain ⟨ht, hf⟩ := hyp
      refine ex_if_le 46 39 dX2_valueAt_36 (by decide) rfl o17 (fun c26 => ?_) (fun c26 => ?_)
      · have hyp := ht c26
        clear ht hf
        refine ex_aload_n 47 dX2_valueAt_46 rfl rfl ?_
        refine q_getI 1 1 50 dX2_valueAt_47 rfl fiX2_63 (Or.inl rfl) f14 ?_
        have f18 := OB.of k11 o9
        refine q_callVi [vi x0, vr r15, vi (h10.2.1 a1 1)] 53 dX2_valueAt_50 rfl cvX2_123 rfl rfl ⟨Nat.le_of_ble_eq_true rfl, Nat.le_of_ble_eq_true rfl⟩ (Nat.le_of_ble_eq_true rfl) f18 hyp (fun y21 h19 k20 hyp => ?_)
        exact ex_iret dX2_valueAt_53 (Or.inl rfl) ⟨_, rfl, hyp⟩
      · have hyp := hf c26
        clear ht hf
        refine ex_aload_n 40 dX2_valueAt_39 rfl rfl ?_
        refine q_getI 1 2 43 dX2_valueAt_40 rfl fiX2_120 (Or.inl rfl) f14 ?_
        refine ex_goto 50 dX2_valueAt_43 (by decide) ?_
        have f22 := OB.of k11 o9
        refine q_callVi [vi x0, vr r15, vi (h10.2.1 a1 2)] 53 dX2_valueAt_50 rfl cvX2_123 rfl rfl ⟨Nat.le_of_ble_eq_true rfl, Nat.le_of_ble_eq_true rfl⟩ (Nat.le_of_ble_eq_true rfl) f22 hyp (fun y25 h23 k24 hyp => ?_)
        exact ex_iret dX2_valueAt_53 (Or.inl rfl) ⟨_, rfl, hyp⟩
    · have hyp := hf c27
      clear ht hf
      refine ex_iconst 25 dX2_valueAt_24 rfl ?_
      exact ex_iret dX2_valueAt_25 (Or.inl rfl) ⟨_, rfl, hyp⟩
set_option maxRecDepth 4000 in
theorem tX2_hasRival {P : Int → PH → Prop} (h0 : PH) (a0 : Nat) (x1 : Int) (x2 : Int) (hyp : EXi mX2_hasRival 2 [some (vr a0), some (vi x1), some (vi x2), some (vi 0)] [] h0 P) : METi mX2_hasRival [vr a0, vi x1, vi x2] h0 P := by
  refine met_of_ex (by decide +kernel) (Nat.le_of_ble_eq_true rfl) ?_
  show EX mX2_hasRival 0 [some (vr a0), some (vi x1), some (vi x2), none] [] h0 (0, 0) _
  refine ex_iconst 1 dX2_hasRival_0 rfl ?_
  refine q_istore_n [some (vr a0), some (vi x1), some (vi x2), some (vi 0)] 2 dX2_hasRival_1 rfl (Nat.le_of_ble_eq_true rfl) rfl rfl ?_
  exact hyp
set_option maxRecDepth 4000 in
theorem tX2_hasRival_2 {P : Int → PH → Prop} (h0 : PH) (a0 : Nat) (x1 : Int) (x2 : Int) (x3 : Int) (hyp : OB h0 2 a0 ∧ rng x3 ∧ rng (h0.2.1 a0 2) ∧ (h0.2.1 a0 2 ≤ x3 → (P 0 h0)) ∧ (x3 < h0.2.1 a0 2 → (rng x1 ∧ (x3 = x1 → (EXi mX2_hasRival 2 [some (vr a0), some (vi x1), some (vi x2), some (vi (x3 + 1))] [] h0 P)) ∧ (¬ x3 = x1 → (∃ r5 : Nat, h0.2.2 a0 5 = some r5 ∧ AI h0 20 r5 x3 ∧ rng (h0.2.1 r5 (x3).toNat) ∧ (h0.2.1 r5 (x3).toNat = (-1) → (EXi mX2_hasRival 2 [some (vr a0), some (vi x1), some (vi x2), some (vi (x3 + 1))] [] h0 P)) ∧ (¬ h0.2.1 r5 (x3).toNat = (-1) → (AI h0 20 r5 x1 ∧ rng ((h0.2.1 r5 (x1).toNat) - (h0.2.1 r5 (x3).toNat)) ∧ rng x2 ∧ (x2 < (h0.2.1 r5 (x1).toNat) - (h0.2.1 r5 (x3).toNat) → (EXi mX2_hasRival 2 [some (vr a0), some (vi x1), some (vi x2), some (vi (x3 + 1))] [] h0 P)) ∧ ((h0.2.1 r5 (x1).toNat) - (h0.2.1 r5 (x3).toNat) ≤ x2 → (P 1 h0))))))))) : EXi mX2_hasRival 2 [some (vr a0), some (vi x1), some (vi x2), some (vi x3)] [] h0 P := by
  refine ex_iload_n 3 dX2_hasRival_2 rfl rfl ?_
  refine ex_aload_n 4 dX2_hasRival_3 rfl rfl ?_
  obtain ⟨o1, hyp⟩ := hyp
  refine q_getI 2 2 7 dX2_hasRival_4 rfl fiX2_25 (Or.inl rfl) o1 ?_
  obtain ⟨o2, hyp⟩ := hyp
  obtain ⟨o3, hyp⟩ := hyp
  obtain ⟨ht, hf⟩ := hyp
  refine ex_icmp_ge 50 10 dX2_hasRival_7 (by decide) rfl o2 o3 (fun c15 => ?_) (fun c15 => ?_)
  · have hyp := ht c15
    clear ht hf
    refine ex_iconst 51 dX2_hasRival_50 rfl ?_
    exact ex_iret dX2_hasRival_51 (Or.inr ⟨rfl, Or.inl rfl⟩) ⟨_, rfl, hyp⟩
  · have hyp := hf c15
    clear ht hf
    refine ex_iload_n 11 dX2_hasRival_10 rfl rfl ?_
    refine ex_iload_n 12 dX2_hasRival_11 rfl rfl ?_
    obtain ⟨o4, hyp⟩ := hyp
    obtain ⟨ht, hf⟩ := hyp
    refine ex_icmp_eq 44 15 dX2_hasRival_12 (by decide) rfl o2 o4 (fun c14 => ?_) (fun c14 => ?_)
    · have hyp := ht c14
      clear ht hf
      refine q_iinc [some (vr a0), some (vi x1), some (vi x2), some (vi (x3 + 1))] 47 dX2_hasRival_44 rfl rfl (Nat.le_of_ble_eq_true rfl) rfl rfl ?_
      refine ex_goto 2 dX2_hasRival_47 (by decide) ?_
      exact hyp
    · have hyp := hf c14
      clear ht hf
      refine ex_aload_n 16 dX2_hasRival_15 rfl rfl ?_
      obtain ⟨r5, f6, hyp⟩ := hyp
      refine q_getR 2 5 19 dX2_hasRival_16 rfl fiX2_21 rfl o1 f6 ?_
      refine ex_iload_n 20 dX2_hasRival_19 rfl rfl ?_
      obtain ⟨o7, hyp⟩ := hyp
      refine ex_iald 21 dX2_hasRival_20 rfl o7 ?_
      refine ex_iconst 22 dX2_hasRival_21 rfl ?_
      obtain ⟨o8, hyp⟩ := hyp
      obtain ⟨ht, hf⟩ := hyp
      refine ex_icmp_eq 44 25 dX2_hasRival_22 (by decide) rfl o8 ⟨by decide, by decide⟩ (fun c13 => ?_) (fun c13 => ?_)
      · have hyp := ht c13
        clear ht hf
        refine q_iinc [some (vr a0), some (vi x1), some (vi x2), some (vi (x3 + 1))] 47 dX2_hasRival_44 rfl rfl (Nat.le_of_ble_eq_true rfl) rfl rfl ?_
        refine ex_goto 2 dX2_hasRival_47 (by decide) ?_
        exact hyp
      · have hyp := hf c13
        clear ht hf
        refine ex_aload_n 26 dX2_hasRival_25 rfl rfl ?_
        refine q_getR 2 5 29 dX2_hasRival_26 rfl fiX2_21 rfl o1 f6 ?_
        refine ex_iload_n 30 dX2_hasRival_29 rfl rfl ?_
        obtain ⟨o9, hyp⟩ := hyp
        refine ex_iald 31 dX2_hasRival_30 rfl o9 ?_
        refine ex_aload_n 32 dX2_hasRival_31 rfl rfl ?_
        refine q_getR 2 5 35 dX2_hasRival_32 rfl fiX2_21 rfl o1 f6 ?_
        refine ex_iload_n 36 dX2_hasRival_35 rfl rfl ?_
        refine ex_iald 37 dX2_hasRival_36 rfl o7 ?_
        refine ex_isub 38 dX2_hasRival_37 rfl ?_
        refine ex_iload_n 39 dX2_hasRival_38 rfl rfl ?_
        obtain ⟨o10, hyp⟩ := hyp
        obtain ⟨o11, hyp⟩ := hyp
        obtain ⟨ht, hf⟩ := hyp
        refine ex_icmp_gt 44 42 dX2_hasRival_39 (by decide) rfl o10 o11 (fun c12 => ?_) (fun c12 => ?_)
        · have hyp := ht c12
          clear ht hf
          refine q_iinc [some (vr a0), some (vi x1), some (vi x2), some (vi (x3 + 1))] 47 dX2_hasRival_44 rfl rfl (Nat.le_of_ble_eq_true rfl) rfl rfl ?_
          refine ex_goto 2 dX2_hasRival_47 (by decide) ?_
          exact hyp
        · have hyp := hf c12
          clear ht hf
          refine ex_iconst 43 dX2_hasRival_42 rfl ?_
          exact ex_iret dX2_hasRival_43 (Or.inr ⟨rfl, Or.inr rfl⟩) ⟨_, rfl, hyp⟩
set_option maxRecDepth 4000 in
theorem tX9_letter {P : Int → PH → Prop} (h0 : PH) (a0 : Nat) (x1 : Int) (hyp : rng x1 ∧ (x1 < 32 → (P (-102) h0)) ∧ (32 ≤ x1 → ((x1 ≤ 126 → (OB h0 9 a0 ∧ ∃ r3 : Nat, h0.2.2 a0 0 = some r3 ∧ OB h0 5 r3 ∧ rng (h0.2.1 r3 1) ∧ (h0.2.1 r3 1 < 60 → (METv mX5_put [vr r3, vi x1] h0 (0, 0) (fun h7 => h7.1 = h0.1 → (∃ r10 : Nat, h7.2.2 a0 0 = some r10 ∧ OB h7 5 r10 ∧ P (h7.2.1 r10 1) h7)))) ∧ (60 ≤ h0.2.1 r3 1 → (P (-104) h0)))) ∧ (126 < x1 → (P (-102) h0))))) : METi mX9_letter [vr a0, vi x1] h0 P := by
  refine met_of_ex (by decide +kernel) (Nat.le_of_ble_eq_true rfl) ?_
  show EX mX9_letter 0 [some (vr a0), some (vi x1)] [] h0 (0, 0) _
  refine ex_iload_n 1 dX9_letter_0 rfl rfl ?_
  refine ex_bipush 3 dX9_letter_1 rfl ⟨by decide, by decide⟩ ?_
  obtain ⟨o1, hyp⟩ := hyp
  obtain ⟨ht, hf⟩ := hyp
  refine ex_icmp_lt 12 6 dX9_letter_3 (by decide) rfl o1 ⟨by decide, by decide⟩ (fun c15 => ?_) (fun c15 => ?_)
  · have hyp := ht c15
    clear ht hf
    refine ex_bipush 14 dX9_letter_12 rfl ⟨by decide, by decide⟩ ?_
    exact ex_iret dX9_letter_14 (Or.inl rfl) ⟨_, rfl, hyp⟩
  · have hyp := hf c15
    clear ht hf
    refine ex_iload_n 7 dX9_letter_6 rfl rfl ?_
    refine ex_bipush 9 dX9_letter_7 rfl ⟨by decide, by decide⟩ ?_
    obtain ⟨ht, hf⟩ := hyp
    refine ex_icmp_le 15 12 dX9_letter_9 (by decide) rfl o1 ⟨by decide, by decide⟩ (fun c14 => ?_) (fun c14 => ?_)
    · have hyp := ht c14
      clear ht hf
      refine ex_aload_n 16 dX9_letter_15 rfl rfl ?_
      obtain ⟨o2, hyp⟩ := hyp
      obtain ⟨r3, f4, hyp⟩ := hyp
      refine q_getR 9 0 19 dX9_letter_16 rfl fiX9_10 rfl o2 f4 ?_
      obtain ⟨o5, hyp⟩ := hyp
      refine q_getI 5 1 22 dX9_letter_19 rfl fiX9_72 (Or.inl rfl) o5 ?_
      refine ex_bipush 24 dX9_letter_22 rfl ⟨by decide, by decide⟩ ?_
      obtain ⟨o6, hyp⟩ := hyp
      obtain ⟨ht, hf⟩ := hyp
      refine ex_icmp_lt 30 27 dX9_letter_24 (by decide) rfl o6 ⟨by decide, by decide⟩ (fun c13 => ?_) (fun c13 => ?_)
      · have hyp := ht c13
        clear ht hf
        refine ex_aload_n 31 dX9_letter_30 rfl rfl ?_
        refine q_getR 9 0 34 dX9_letter_31 rfl fiX9_10 rfl o2 f4 ?_
        refine ex_iload_n 35 dX9_letter_34 rfl rfl ?_
        refine q_callVv [vi x1] 38 dX9_letter_35 rfl cvX9_75 rfl rfl ⟨Nat.le_of_ble_eq_true rfl, Nat.le_of_ble_eq_true rfl⟩ (Nat.le_of_ble_eq_true rfl) o5 hyp (fun h7 k8 hyp => ?_)
        refine ex_aload_n 39 dX9_letter_38 rfl rfl ?_
        have f9 := OB.of k8 o2
        obtain ⟨r10, f11, hyp⟩ := hyp
        refine q_getR 9 0 42 dX9_letter_39 rfl fiX9_10 rfl f9 f11 ?_
        obtain ⟨o12, hyp⟩ := hyp
        refine q_getI 5 1 45 dX9_letter_42 rfl fiX9_72 (Or.inl rfl) o12 ?_
        exact ex_iret dX9_letter_45 (Or.inl rfl) ⟨_, rfl, hyp⟩
      · have hyp := hf c13
        clear ht hf
        refine ex_bipush 29 dX9_letter_27 rfl ⟨by decide, by decide⟩ ?_
        exact ex_iret dX9_letter_29 (Or.inl rfl) ⟨_, rfl, hyp⟩
    · have hyp := hf c14
      clear ht hf
      refine ex_bipush 14 dX9_letter_12 rfl ⟨by decide, by decide⟩ ?_
      exact ex_iret dX9_letter_14 (Or.inl rfl) ⟨_, rfl, hyp⟩
set_option maxRecDepth 4000 in
theorem tX9_blank {P : Int → PH → Prop} (h0 : PH) (a0 : Nat) (hyp : OB h0 9 a0 ∧ ∃ r2 : Nat, h0.2.2 a0 0 = some r2 ∧ OB h0 5 r2 ∧ ∀ h5 : PH, h5 = px_upI h0 r2 1 0 → (P (h0.2.1 r2 1) h5)) : METi mX9_blank [vr a0] h0 P := by
  refine met_of_ex (by decide +kernel) (Nat.le_of_ble_eq_true rfl) ?_
  show EX mX9_blank 0 [some (vr a0), none] [] h0 (0, 0) _
  refine ex_aload_n 1 dX9_blank_0 rfl rfl ?_
  obtain ⟨o1, hyp⟩ := hyp
  obtain ⟨r2, f3, hyp⟩ := hyp
  refine q_getR 9 0 4 dX9_blank_1 rfl fiX9_10 rfl o1 f3 ?_
  obtain ⟨o4, hyp⟩ := hyp
  refine q_getI 5 1 7 dX9_blank_4 rfl fiX9_72 (Or.inl rfl) o4 ?_
  refine q_istore_n [some (vr a0), some (vi (h0.2.1 r2 1))] 8 dX9_blank_7 rfl (Nat.le_of_ble_eq_true rfl) rfl rfl ?_
  refine ex_aload_n 9 dX9_blank_8 rfl rfl ?_
  refine q_getR 9 0 12 dX9_blank_9 rfl fiX9_10 rfl o1 f3 ?_
  refine ex_iconst 13 dX9_blank_12 rfl ?_
  refine q_putI 5 1 16 dX9_blank_13 rfl fiX9_72 ff5_1 rfl o4 (fun h5 e6 => ?_)
  have hyp := hyp h5 e6
  refine ex_iload_n 17 dX9_blank_16 rfl rfl ?_
  exact ex_iret dX9_blank_17 (Or.inl rfl) ⟨_, rfl, hyp⟩
set_option maxRecDepth 4000 in
theorem tX9_fault {P : Int → PH → Prop} (h0 : PH) (a0 : Nat) (hyp : OB h0 9 a0 ∧ ∃ r2 : Nat, h0.2.2 a0 1 = some r2 ∧ OB h0 7 r2 ∧ METv mX7_start [vr r2] h0 (0, 0) (fun h5 => h5.1 = h0.1 → (EXi mX9_fault 9 [some (vr a0), some (vi 0)] [] h5 P))) : METi mX9_fault [vr a0] h0 P := by
  refine met_of_ex (by decide +kernel) (Nat.le_of_ble_eq_true rfl) ?_
  show EX mX9_fault 0 [some (vr a0), none] [] h0 (0, 0) _
  refine ex_aload_n 1 dX9_fault_0 rfl rfl ?_
  obtain ⟨o1, hyp⟩ := hyp
  obtain ⟨r2, f3, hyp⟩ := hyp
  refine q_getR 9 1 4 dX9_fault_1 rfl fiX9_19 rfl o1 f3 ?_
  obtain ⟨o4, hyp⟩ := hyp
  refine q_callVv [] 7 dX9_fault_4 rfl cvX9_79 rfl rfl ⟨Nat.le_of_ble_eq_true rfl, Nat.le_of_ble_eq_true rfl⟩ (Nat.le_of_ble_eq_true rfl) o4 hyp (fun h5 k6 hyp => ?_)
  refine ex_iconst 8 dX9_fault_7 rfl ?_
  refine q_istore_n [some (vr a0), some (vi 0)] 9 dX9_fault_8 rfl (Nat.le_of_ble_eq_true rfl) rfl rfl ?_
  exact hyp
set_option maxRecDepth 4000 in
theorem tX9_fault_9 {P : Int → PH → Prop} (h0 : PH) (a0 : Nat) (x1 : Int) (hyp : OB h0 9 a0 ∧ ∃ r2 : Nat, h0.2.2 a0 0 = some r2 ∧ OB h0 5 r2 ∧ rng x1 ∧ rng (h0.2.1 r2 1) ∧ (h0.2.1 r2 1 ≤ x1 → (P (h0.2.1 r2 1) h0)) ∧ (x1 < h0.2.1 r2 1 → (∃ r7 : Nat, h0.2.2 a0 1 = some r7 ∧ ∃ r9 : Nat, h0.2.2 r2 0 = some r9 ∧ AI h0 20 r9 x1 ∧ OB h0 7 r7 ∧ METi mX7_takes [vr r7, vi (h0.2.1 r9 (x1).toNat)] h0 (fun y15 h13 => h13.1 = h0.1 → (rng y15 ∧ (¬ y15 = 0 → (EXi mX9_fault 9 [some (vr a0), some (vi (x1 + 1))] [] h13 P)) ∧ (y15 = 0 → (P x1 h13))))))) : EXi mX9_fault 9 [some (vr a0), some (vi x1)] [] h0 P := by
  refine ex_iload_n 10 dX9_fault_9 rfl rfl ?_
  refine ex_aload_n 11 dX9_fault_10 rfl rfl ?_
  obtain ⟨o1, hyp⟩ := hyp
  obtain ⟨r2, f3, hyp⟩ := hyp
  refine q_getR 9 0 14 dX9_fault_11 rfl fiX9_10 rfl o1 f3 ?_
  obtain ⟨o4, hyp⟩ := hyp
  refine q_getI 5 1 17 dX9_fault_14 rfl fiX9_72 (Or.inl rfl) o4 ?_
  obtain ⟨o5, hyp⟩ := hyp
  obtain ⟨o6, hyp⟩ := hyp
  obtain ⟨ht, hf⟩ := hyp
  refine ex_icmp_ge 47 20 dX9_fault_17 (by decide) rfl o5 o6 (fun c18 => ?_) (fun c18 => ?_)
  · have hyp := ht c18
    clear ht hf
    refine ex_aload_n 48 dX9_fault_47 rfl rfl ?_
    refine q_getR 9 0 51 dX9_fault_48 rfl fiX9_10 rfl o1 f3 ?_
    refine q_getI 5 1 54 dX9_fault_51 rfl fiX9_72 (Or.inl rfl) o4 ?_
    exact ex_iret dX9_fault_54 (Or.inl rfl) ⟨_, rfl, hyp⟩
  · have hyp := hf c18
    clear ht hf
    refine ex_aload_n 21 dX9_fault_20 rfl rfl ?_
    obtain ⟨r7, f8, hyp⟩ := hyp
    refine q_getR 9 1 24 dX9_fault_21 rfl fiX9_19 rfl o1 f8 ?_
    refine ex_aload_n 25 dX9_fault_24 rfl rfl ?_
    refine q_getR 9 0 28 dX9_fault_25 rfl fiX9_10 rfl o1 f3 ?_
    obtain ⟨r9, f10, hyp⟩ := hyp
    refine q_getR 5 0 31 dX9_fault_28 rfl fiX9_82 rfl o4 f10 ?_
    refine ex_iload_n 32 dX9_fault_31 rfl rfl ?_
    obtain ⟨o11, hyp⟩ := hyp
    refine ex_iald 33 dX9_fault_32 rfl o11 ?_
    obtain ⟨o12, hyp⟩ := hyp
    refine q_callVi [vi (h0.2.1 r9 (x1).toNat)] 36 dX9_fault_33 rfl cvX9_86 rfl rfl ⟨Nat.le_of_ble_eq_true rfl, Nat.le_of_ble_eq_true rfl⟩ (Nat.le_of_ble_eq_true rfl) o12 hyp (fun y15 h13 k14 hyp => ?_)
    obtain ⟨o16, hyp⟩ := hyp
    obtain ⟨ht, hf⟩ := hyp
    refine ex_if_ne 41 39 dX9_fault_36 (by decide) rfl o16 (fun c17 => ?_) (fun c17 => ?_)
    · have hyp := ht c17
      clear ht hf
      refine q_iinc [some (vr a0), some (vi (x1 + 1))] 44 dX9_fault_41 rfl rfl (Nat.le_of_ble_eq_true rfl) rfl rfl ?_
      refine ex_goto 9 dX9_fault_44 (by decide) ?_
      exact hyp
    · have hyp := hf c17
      clear ht hf
      refine ex_iload_n 40 dX9_fault_39 rfl rfl ?_
      exact ex_iret dX9_fault_40 (Or.inl rfl) ⟨_, rfl, hyp⟩
set_option maxRecDepth 4000 in
theorem tX9_enter {P : Int → PH → Prop} (h0 : PH) (a0 : Nat) (hyp : OB h0 9 a0 ∧ METi mX9_fault [vr a0] h0 (fun y4 h2 => h2.1 = h0.1 → (∃ r6 : Nat, h2.2.2 a0 0 = some r6 ∧ OB h2 5 r6 ∧ rng y4 ∧ rng (h2.2.1 r6 1) ∧ (y4 < h2.2.1 r6 1 → (P (-103) h2)) ∧ (h2.2.1 r6 1 ≤ y4 → (∃ r11 : Nat, h2.2.2 a0 1 = some r11 ∧ OB h2 7 r11 ∧ METi mX7_isWhole [vr r11] h2 (fun y16 h14 => h14.1 = h2.1 → (rng y16 ∧ (¬ y16 = 0 → (∃ r19 : Nat, h14.2.2 a0 3 = some r19 ∧ ∃ r21 : Nat, h14.2.2 a0 1 = some r21 ∧ OB h14 8 r19 ∧ METi mX8_hasRoomFor [vr r19, vr r21] h14 (fun y26 h24 => h24.1 = h14.1 → (rng y26 ∧ (¬ y26 = 0 → (∃ r29 : Nat, h24.2.2 a0 1 = some r29 ∧ OB h24 7 r29 ∧ METv mX9_addEntriesOfPage [vr a0] h24 (0, 0) (fun h32 => h32.1 = h24.1 → (∃ r35 : Nat, h32.2.2 a0 0 = some r35 ∧ OB h32 5 r35 ∧ ∀ h38 : PH, h38 = px_upI h32 r35 1 0 → (∀ h41 : PH, h41 = px_upI h38 a0 10 ((h38.2.1 a0 10) + 1) → (∀ h44 : PH, h44 = px_upI h41 a0 11 1 → (P (h24.2.1 r29 1) h44))))))) ∧ (y26 = 0 → (P (-104) h24)))))) ∧ (y16 = 0 → (P (-103) h14))))))))) : METi mX9_enter [vr a0] h0 P := by
  refine met_of_ex (by decide +kernel) (Nat.le_of_ble_eq_true rfl) ?_
  show EX mX9_enter 0 [some (vr a0), none] [] h0 (0, 0) _
  refine ex_aload_n 1 dX9_enter_0 rfl rfl ?_
  obtain ⟨o1, hyp⟩ := hyp
  refine q_callVi [] 4 dX9_enter_1 rfl cvX9_90 rfl rfl ⟨Nat.le_of_ble_eq_true rfl, Nat.le_of_ble_eq_true rfl⟩ (Nat.le_of_ble_eq_true rfl) o1 hyp (fun y4 h2 k3 hyp => ?_)
  refine ex_aload_n 5 dX9_enter_4 rfl rfl ?_
  have f5 := OB.of k3 o1
  obtain ⟨r6, f7, hyp⟩ := hyp
  refine q_getR 9 0 8 dX9_enter_5 rfl fiX9_10 rfl f5 f7 ?_
  obtain ⟨o8, hyp⟩ := hyp
  refine q_getI 5 1 11 dX9_enter_8 rfl fiX9_72 (Or.inl rfl) o8 ?_
  obtain ⟨o9, hyp⟩ := hyp
  obtain ⟨o10, hyp⟩ := hyp
  obtain ⟨ht, hf⟩ := hyp
  refine ex_icmp_lt 24 14 dX9_enter_11 (by decide) rfl o9 o10 (fun c48 => ?_) (fun c48 => ?_)
  · have hyp := ht c48
    clear ht hf
    refine ex_bipush 26 dX9_enter_24 rfl ⟨by decide, by decide⟩ ?_
    exact ex_iret dX9_enter_26 (Or.inl rfl) ⟨_, rfl, hyp⟩
  · have hyp := hf c48
    clear ht hf
    refine ex_aload_n 15 dX9_enter_14 rfl rfl ?_
    obtain ⟨r11, f12, hyp⟩ := hyp
    refine q_getR 9 1 18 dX9_enter_15 rfl fiX9_19 rfl f5 f12 ?_
    obtain ⟨o13, hyp⟩ := hyp
    refine q_callVi [] 21 dX9_enter_18 rfl cvX9_94 rfl rfl ⟨Nat.le_of_ble_eq_true rfl, Nat.le_of_ble_eq_true rfl⟩ (Nat.le_of_ble_eq_true rfl) o13 hyp (fun y16 h14 k15 hyp => ?_)
    obtain ⟨o17, hyp⟩ := hyp
    obtain ⟨ht, hf⟩ := hyp
    refine ex_if_ne 27 24 dX9_enter_21 (by decide) rfl o17 (fun c47 => ?_) (fun c47 => ?_)
    · have hyp := ht c47
      clear ht hf
      refine ex_aload_n 28 dX9_enter_27 rfl rfl ?_
      have f18 := OB.of k15 f5
      obtain ⟨r19, f20, hyp⟩ := hyp
      refine q_getR 9 3 31 dX9_enter_28 rfl fiX9_33 rfl f18 f20 ?_
      refine ex_aload_n 32 dX9_enter_31 rfl rfl ?_
      obtain ⟨r21, f22, hyp⟩ := hyp
      refine q_getR 9 1 35 dX9_enter_32 rfl fiX9_19 rfl f18 f22 ?_
      obtain ⟨o23, hyp⟩ := hyp
      refine q_callVi [vr r21] 38 dX9_enter_35 rfl cvX9_98 rfl rfl ⟨Nat.le_of_ble_eq_true rfl, Nat.le_of_ble_eq_true rfl⟩ (Nat.le_of_ble_eq_true rfl) o23 hyp (fun y26 h24 k25 hyp => ?_)
      obtain ⟨o27, hyp⟩ := hyp
      obtain ⟨ht, hf⟩ := hyp
      refine ex_if_ne 44 41 dX9_enter_38 (by decide) rfl o27 (fun c46 => ?_) (fun c46 => ?_)
      · have hyp := ht c46
        clear ht hf
        refine ex_aload_n 45 dX9_enter_44 rfl rfl ?_
        have f28 := OB.of k25 f18
        obtain ⟨r29, f30, hyp⟩ := hyp
        refine q_getR 9 1 48 dX9_enter_45 rfl fiX9_19 rfl f28 f30 ?_
        obtain ⟨o31, hyp⟩ := hyp
        refine q_getI 7 1 51 dX9_enter_48 rfl fiX9_102 (Or.inl rfl) o31 ?_
        refine q_istore_n [some (vr a0), some (vi (h24.2.1 r29 1))] 52 dX9_enter_51 rfl (Nat.le_of_ble_eq_true rfl) rfl rfl ?_
        refine ex_aload_n 53 dX9_enter_52 rfl rfl ?_
        refine q_callVv [] 56 dX9_enter_53 rfl cvX9_105 rfl rfl ⟨Nat.le_of_ble_eq_true rfl, Nat.le_of_ble_eq_true rfl⟩ (Nat.le_of_ble_eq_true rfl) f28 hyp (fun h32 k33 hyp => ?_)
        refine ex_aload_n 57 dX9_enter_56 rfl rfl ?_
        have f34 := OB.of k33 f28
        obtain ⟨r35, f36, hyp⟩ := hyp
        refine q_getR 9 0 60 dX9_enter_57 rfl fiX9_10 rfl f34 f36 ?_
        refine ex_iconst 61 dX9_enter_60 rfl ?_
        obtain ⟨o37, hyp⟩ := hyp
        refine q_putI 5 1 64 dX9_enter_61 rfl fiX9_72 ff5_1 rfl o37 (fun h38 e39 => ?_)
        have hyp := hyp h38 e39
        refine ex_aload_n 65 dX9_enter_64 rfl rfl ?_
        refine ex_dup 66 dX9_enter_65 rfl rfl ?_
        have f40 := OB.of (KI e39) f34
        refine q_getI 9 10 69 dX9_enter_66 rfl fiX9_108 (Or.inl rfl) f40 ?_
        refine ex_iconst 70 dX9_enter_69 rfl ?_
        refine ex_iadd 71 dX9_enter_70 rfl ?_
        refine q_putI 9 10 74 dX9_enter_71 rfl fiX9_108 ff9_10 rfl f40 (fun h41 e42 => ?_)
        have hyp := hyp h41 e42
        refine ex_aload_n 75 dX9_enter_74 rfl rfl ?_
        refine ex_iconst 76 dX9_enter_75 rfl ?_
        have f43 := OB.of (KI e42) f40
        refine q_putZ 9 11 79 dX9_enter_76 rfl fiX9_68 ff9_11 rfl f43 (Or.inr rfl) (fun h44 e45 => ?_)
        have hyp := hyp h44 e45
        refine ex_iload_n 80 dX9_enter_79 rfl rfl ?_
        exact ex_iret dX9_enter_80 (Or.inl rfl) ⟨_, rfl, hyp⟩
      · have hyp := hf c46
        clear ht hf
        refine ex_bipush 43 dX9_enter_41 rfl ⟨by decide, by decide⟩ ?_
        exact ex_iret dX9_enter_43 (Or.inl rfl) ⟨_, rfl, hyp⟩
    · have hyp := hf c47
      clear ht hf
      refine ex_bipush 26 dX9_enter_24 rfl ⟨by decide, by decide⟩ ?_
      exact ex_iret dX9_enter_26 (Or.inl rfl) ⟨_, rfl, hyp⟩
set_option maxRecDepth 4000 in
theorem tX9_entry {P : Int → PH → Prop} (h0 : PH) (a0 : Nat) (x1 : Int) (x2 : Int) (hyp : OB h0 9 a0 ∧ ∃ r2 : Nat, h0.2.2 a0 3 = some r2 ∧ OB h0 8 r2 ∧ METi mX8_has [vr r2, vi x1] h0 (fun y7 h5 => h5.1 = h0.1 → (rng y7 ∧ (¬ y7 = 0 → (METv mX9_settle [vr a0] h5 (0, 0) (fun h10 => h10.1 = h5.1 → (METi mX9_tellEntry [vr a0, vi x1, vi x2] h10 (fun y15 h13 => h13.1 = h10.1 → (P y15 h13)))))) ∧ (y7 = 0 → (P (-101) h5))))) : METi mX9_entry [vr a0, vi x1, vi x2] h0 P := by
  refine met_of_ex (by decide +kernel) (Nat.le_of_ble_eq_true rfl) ?_
  show EX mX9_entry 0 [some (vr a0), some (vi x1), some (vi x2)] [] h0 (0, 0) _
  refine ex_aload_n 1 dX9_entry_0 rfl rfl ?_
  obtain ⟨o1, hyp⟩ := hyp
  obtain ⟨r2, f3, hyp⟩ := hyp
  refine q_getR 9 3 4 dX9_entry_1 rfl fiX9_33 rfl o1 f3 ?_
  refine ex_iload_n 5 dX9_entry_4 rfl rfl ?_
  obtain ⟨o4, hyp⟩ := hyp
  refine q_callVi [vi x1] 8 dX9_entry_5 rfl cvX9_111 rfl rfl ⟨Nat.le_of_ble_eq_true rfl, Nat.le_of_ble_eq_true rfl⟩ (Nat.le_of_ble_eq_true rfl) o4 hyp (fun y7 h5 k6 hyp => ?_)
  obtain ⟨o8, hyp⟩ := hyp
  obtain ⟨ht, hf⟩ := hyp
  refine ex_if_ne 14 11 dX9_entry_8 (by decide) rfl o8 (fun c16 => ?_) (fun c16 => ?_)
  · have hyp := ht c16
    clear ht hf
    refine ex_aload_n 15 dX9_entry_14 rfl rfl ?_
    have f9 := OB.of k6 o1
    refine q_callVv [] 18 dX9_entry_15 rfl cvX9_114 rfl rfl ⟨Nat.le_of_ble_eq_true rfl, Nat.le_of_ble_eq_true rfl⟩ (Nat.le_of_ble_eq_true rfl) f9 hyp (fun h10 k11 hyp => ?_)
    refine ex_aload_n 19 dX9_entry_18 rfl rfl ?_
    refine ex_iload_n 20 dX9_entry_19 rfl rfl ?_
    refine ex_iload_n 21 dX9_entry_20 rfl rfl ?_
    have f12 := OB.of k11 f9
    refine q_callVi [vi x1, vi x2] 24 dX9_entry_21 rfl cvX9_117 rfl rfl ⟨Nat.le_of_ble_eq_true rfl, Nat.le_of_ble_eq_true rfl⟩ (Nat.le_of_ble_eq_true rfl) f12 hyp (fun y15 h13 k14 hyp => ?_)
    exact ex_iret dX9_entry_24 (Or.inl rfl) ⟨_, rfl, hyp⟩
  · have hyp := hf c16
    clear ht hf
    refine ex_bipush 13 dX9_entry_11 rfl ⟨by decide, by decide⟩ ?_
    exact ex_iret dX9_entry_13 (Or.inl rfl) ⟨_, rfl, hyp⟩
set_option maxRecDepth 4000 in
theorem tX9_sign {P : Int → PH → Prop} (h0 : PH) (a0 : Nat) (x1 : Int) (x2 : Int) (hyp : OB h0 9 a0 ∧ ∃ r2 : Nat, h0.2.2 a0 3 = some r2 ∧ OB h0 8 r2 ∧ METi mX8_has [vr r2, vi x1] h0 (fun y7 h5 => h5.1 = h0.1 → (rng y7 ∧ (¬ y7 = 0 → (∃ r10 : Nat, h5.2.2 a0 3 = some r10 ∧ OB h5 8 r10 ∧ ∃ r13 : Nat, h5.2.2 r10 0 = some r13 ∧ AI h5 21 r13 x1 ∧ ∃ r16 : Nat, h5.2.2 r13 (x1).toNat = some r16 ∧ rng x2 ∧ (x2 < 0 → (P (-101) h5)) ∧ (0 ≤ x2 → (OB h5 0 r16 ∧ rng (h5.2.1 r16 3) ∧ (x2 < h5.2.1 r16 3 → (∃ r21 : Nat, h5.2.2 r16 1 = some r21 ∧ AI h5 20 r21 x2 ∧ P (h5.2.1 r21 (x2).toNat) h5)) ∧ (h5.2.1 r16 3 ≤ x2 → (P (-101) h5)))))) ∧ (y7 = 0 → (P (-101) h5))))) : METi mX9_sign [vr a0, vi x1, vi x2] h0 P := by
  refine met_of_ex (by decide +kernel) (Nat.le_of_ble_eq_true rfl) ?_
  show EX mX9_sign 0 [some (vr a0), some (vi x1), some (vi x2), none] [] h0 (0, 0) _
  refine ex_aload_n 1 dX9_sign_0 rfl rfl ?_
  obtain ⟨o1, hyp⟩ := hyp
  obtain ⟨r2, f3, hyp⟩ := hyp
  refine q_getR 9 3 4 dX9_sign_1 rfl fiX9_33 rfl o1 f3 ?_
  refine ex_iload_n 5 dX9_sign_4 rfl rfl ?_
  obtain ⟨o4, hyp⟩ := hyp
  refine q_callVi [vi x1] 8 dX9_sign_5 rfl cvX9_111 rfl rfl ⟨Nat.le_of_ble_eq_true rfl, Nat.le_of_ble_eq_true rfl⟩ (Nat.le_of_ble_eq_true rfl) o4 hyp (fun y7 h5 k6 hyp => ?_)
  obtain ⟨o8, hyp⟩ := hyp
  obtain ⟨ht, hf⟩ := hyp
  refine ex_if_ne 14 11 dX9_sign_8 (by decide) rfl o8 (fun c26 => ?_) (fun c26 => ?_)
  · have hyp := ht c26
    clear ht hf
    refine ex_aload_n 15 dX9_sign_14 rfl rfl ?_
    have f9 := OB.of k6 o1
    obtain ⟨r10, f11, hyp⟩ := hyp
    refine q_getR 9 3 18 dX9_sign_15 rfl fiX9_33 rfl f9 f11 ?_
    obtain ⟨o12, hyp⟩ := hyp
    obtain ⟨r13, f14, hyp⟩ := hyp
    refine q_getR 8 0 21 dX9_sign_18 rfl fiX9_121 rfl o12 f14 ?_
    refine ex_iload_n 22 dX9_sign_21 rfl rfl ?_
    obtain ⟨o15, hyp⟩ := hyp
    obtain ⟨r16, f17, hyp⟩ := hyp
    refine ex_aald 21 23 dX9_sign_22 rfl (by decide) o15 f17 ?_
    refine q_astore_n [some (vr a0), some (vi x1), some (vi x2), some (vr r16)] 24 dX9_sign_23 rfl (Nat.le_of_ble_eq_true rfl) rfl rfl ?_
    refine ex_iload_n 25 dX9_sign_24 rfl rfl ?_
    obtain ⟨o18, hyp⟩ := hyp
    obtain ⟨ht, hf⟩ := hyp
    refine ex_if_lt 36 28 dX9_sign_25 (by decide) rfl o18 (fun c25 => ?_) (fun c25 => ?_)
    · have hyp := ht c25
      clear ht hf
      refine ex_bipush 38 dX9_sign_36 rfl ⟨by decide, by decide⟩ ?_
      refine ex_goto 47 dX9_sign_38 (by decide) ?_
      exact ex_iret dX9_sign_47 (Or.inl rfl) ⟨_, rfl, hyp⟩
    · have hyp := hf c25
      clear ht hf
      refine ex_iload_n 29 dX9_sign_28 rfl rfl ?_
      refine ex_aload_n 30 dX9_sign_29 rfl rfl ?_
      obtain ⟨o19, hyp⟩ := hyp
      refine q_getI 0 3 33 dX9_sign_30 rfl fiX9_125 (Or.inl rfl) o19 ?_
      obtain ⟨o20, hyp⟩ := hyp
      obtain ⟨ht, hf⟩ := hyp
      refine ex_icmp_lt 41 36 dX9_sign_33 (by decide) rfl o18 o20 (fun c24 => ?_) (fun c24 => ?_)
      · have hyp := ht c24
        clear ht hf
        refine ex_aload_n 42 dX9_sign_41 rfl rfl ?_
        obtain ⟨r21, f22, hyp⟩ := hyp
        refine q_getR 0 1 45 dX9_sign_42 rfl fiX9_130 rfl o19 f22 ?_
        refine ex_iload_n 46 dX9_sign_45 rfl rfl ?_
        obtain ⟨o23, hyp⟩ := hyp
        refine ex_iald 47 dX9_sign_46 rfl o23 ?_
        exact ex_iret dX9_sign_47 (Or.inl rfl) ⟨_, rfl, hyp⟩
      · have hyp := hf c24
        clear ht hf
        refine ex_bipush 38 dX9_sign_36 rfl ⟨by decide, by decide⟩ ?_
        refine ex_goto 47 dX9_sign_38 (by decide) ?_
        exact ex_iret dX9_sign_47 (Or.inl rfl) ⟨_, rfl, hyp⟩
  · have hyp := hf c26
    clear ht hf
    refine ex_bipush 13 dX9_sign_11 rfl ⟨by decide, by decide⟩ ?_
    exact ex_iret dX9_sign_13 (Or.inl rfl) ⟨_, rfl, hyp⟩
set_option maxRecDepth 4000 in
theorem tX9_as {P : Int → PH → Prop} (h0 : PH) (a0 : Nat) (x1 : Int) (x2 : Int) (hyp : OB h0 9 a0 ∧ ∃ r2 : Nat, h0.2.2 a0 3 = some r2 ∧ OB h0 8 r2 ∧ METi mX8_has [vr r2, vi x1] h0 (fun y7 h5 => h5.1 = h0.1 → (rng y7 ∧ (¬ y7 = 0 → (rng x2 ∧ (x2 < 0 → (P (-102) h5)) ∧ (0 ≤ x2 → ((x2 < 3 → (∃ r11 : Nat, h5.2.2 a0 3 = some r11 ∧ OB h5 8 r11 ∧ ∃ r14 : Nat, h5.2.2 r11 0 = some r14 ∧ AI h5 21 r14 x1 ∧ ∃ r17 : Nat, h5.2.2 r14 (x1).toNat = some r17 ∧ OB h5 0 r17 ∧ rng (h5.2.1 r17 4) ∧ (¬ h5.2.1 r17 4 = x2 → (P (-1) h5)) ∧ (h5.2.1 r17 4 = x2 → (P (h5.2.1 r17 5) h5)))) ∧ (3 ≤ x2 → (P (-102) h5)))))) ∧ (y7 = 0 → (P (-101) h5))))) : METi mX9_as [vr a0, vi x1, vi x2] h0 P := by
  refine met_of_ex (by decide +kernel) (Nat.le_of_ble_eq_true rfl) ?_
  show EX mX9_as 0 [some (vr a0), some (vi x1), some (vi x2), none] [] h0 (0, 0) _
  refine ex_aload_n 1 dX9_as_0 rfl rfl ?_
  obtain ⟨o1, hyp⟩ := hyp
  obtain ⟨r2, f3, hyp⟩ := hyp
  refine q_getR 9 3 4 dX9_as_1 rfl fiX9_33 rfl o1 f3 ?_
  refine ex_iload_n 5 dX9_as_4 rfl rfl ?_
  obtain ⟨o4, hyp⟩ := hyp
  refine q_callVi [vi x1] 8 dX9_as_5 rfl cvX9_111 rfl rfl ⟨Nat.le_of_ble_eq_true rfl, Nat.le_of_ble_eq_true rfl⟩ (Nat.le_of_ble_eq_true rfl) o4 hyp (fun y7 h5 k6 hyp => ?_)
  obtain ⟨o8, hyp⟩ := hyp
  obtain ⟨ht, hf⟩ := hyp
  refine ex_if_ne 14 11 dX9_as_8 (by decide) rfl o8 (fun c24 => ?_) (fun c24 => ?_)
  · have hyp := ht c24
    clear ht hf
    refine ex_iload_n 15 dX9_as_14 rfl rfl ?_
    obtain ⟨o9, hyp⟩ := hyp
    obtain ⟨ht, hf⟩ := hyp
    refine ex_if_lt 23 18 dX9_as_15 (by decide) rfl o9 (fun c23 => ?_) (fun c23 => ?_)
    · have hyp := ht c23
      clear ht hf
      refine ex_bipush 25 dX9_as_23 rfl ⟨by decide, by decide⟩ ?_
      exact ex_iret dX9_as_25 (Or.inl rfl) ⟨_, rfl, hyp⟩
    · have hyp := hf c23
      clear ht hf
      refine ex_iload_n 19 dX9_as_18 rfl rfl ?_
      refine ex_iconst 20 dX9_as_19 rfl ?_
      obtain ⟨ht, hf⟩ := hyp
      refine ex_icmp_lt 26 23 dX9_as_20 (by decide) rfl o9 ⟨by decide, by decide⟩ (fun c22 => ?_) (fun c22 => ?_)
      · have hyp := ht c22
        clear ht hf
        refine ex_aload_n 27 dX9_as_26 rfl rfl ?_
        have f10 := OB.of k6 o1
        obtain ⟨r11, f12, hyp⟩ := hyp
        refine q_getR 9 3 30 dX9_as_27 rfl fiX9_33 rfl f10 f12 ?_
        obtain ⟨o13, hyp⟩ := hyp
        obtain ⟨r14, f15, hyp⟩ := hyp
        refine q_getR 8 0 33 dX9_as_30 rfl fiX9_121 rfl o13 f15 ?_
        refine ex_iload_n 34 dX9_as_33 rfl rfl ?_
        obtain ⟨o16, hyp⟩ := hyp
        obtain ⟨r17, f18, hyp⟩ := hyp
        refine ex_aald 21 35 dX9_as_34 rfl (by decide) o16 f18 ?_
        refine q_astore_n [some (vr a0), some (vi x1), some (vi x2), some (vr r17)] 36 dX9_as_35 rfl (Nat.le_of_ble_eq_true rfl) rfl rfl ?_
        refine ex_aload_n 37 dX9_as_36 rfl rfl ?_
        obtain ⟨o19, hyp⟩ := hyp
        refine q_getI 0 4 40 dX9_as_37 rfl fiX9_133 (Or.inl rfl) o19 ?_
        refine ex_iload_n 41 dX9_as_40 rfl rfl ?_
        obtain ⟨o20, hyp⟩ := hyp
        obtain ⟨ht, hf⟩ := hyp
        refine ex_icmp_ne 51 44 dX9_as_41 (by decide) rfl o20 o9 (fun c21 => ?_) (fun c21 => ?_)
        · have hyp := ht c21
          clear ht hf
          refine ex_iconst 52 dX9_as_51 rfl ?_
          exact ex_iret dX9_as_52 (Or.inl rfl) ⟨_, rfl, hyp⟩
        · have hyp := hf c21
          clear ht hf
          refine ex_aload_n 45 dX9_as_44 rfl rfl ?_
          refine q_getI 0 5 48 dX9_as_45 rfl fiX9_136 (Or.inl rfl) o19 ?_
          refine ex_goto 52 dX9_as_48 (by decide) ?_
          exact ex_iret dX9_as_52 (Or.inl rfl) ⟨_, rfl, hyp⟩
      · have hyp := hf c22
        clear ht hf
        refine ex_bipush 25 dX9_as_23 rfl ⟨by decide, by decide⟩ ?_
        exact ex_iret dX9_as_25 (Or.inl rfl) ⟨_, rfl, hyp⟩
  · have hyp := hf c24
    clear ht hf
    refine ex_bipush 13 dX9_as_11 rfl ⟨by decide, by decide⟩ ?_
    exact ex_iret dX9_as_13 (Or.inl rfl) ⟨_, rfl, hyp⟩
set_option maxRecDepth 4000 in
theorem tX9_strike {P : Int → PH → Prop} (h0 : PH) (a0 : Nat) (x1 : Int) (hyp : OB h0 9 a0 ∧ ∃ r2 : Nat, h0.2.2 a0 3 = some r2 ∧ OB h0 8 r2 ∧ METi mX8_has [vr r2, vi x1] h0 (fun y7 h5 => h5.1 = h0.1 → (rng y7 ∧ (¬ y7 = 0 → (∃ r10 : Nat, h5.2.2 a0 3 = some r10 ∧ OB h5 8 r10 ∧ METv mX8_remove [vr r10, vi x1] h5 (0, 0) (fun h13 => h13.1 = h5.1 → (∀ h16 : PH, h16 = px_upI h13 a0 11 1 → (∃ r19 : Nat, h16.2.2 a0 3 = some r19 ∧ OB h16 8 r19 ∧ P (h16.2.1 r19 2) h16))))) ∧ (y7 = 0 → (P (-101) h5))))) : METi mX9_strike [vr a0, vi x1] h0 P := by
  refine met_of_ex (by decide +kernel) (Nat.le_of_ble_eq_true rfl) ?_
  show EX mX9_strike 0 [some (vr a0), some (vi x1)] [] h0 (0, 0) _
  refine ex_aload_n 1 dX9_strike_0 rfl rfl ?_
  obtain ⟨o1, hyp⟩ := hyp
  obtain ⟨r2, f3, hyp⟩ := hyp
  refine q_getR 9 3 4 dX9_strike_1 rfl fiX9_33 rfl o1 f3 ?_
  refine ex_iload_n 5 dX9_strike_4 rfl rfl ?_
  obtain ⟨o4, hyp⟩ := hyp
  refine q_callVi [vi x1] 8 dX9_strike_5 rfl cvX9_111 rfl rfl ⟨Nat.le_of_ble_eq_true rfl, Nat.le_of_ble_eq_true rfl⟩ (Nat.le_of_ble_eq_true rfl) o4 hyp (fun y7 h5 k6 hyp => ?_)
  obtain ⟨o8, hyp⟩ := hyp
  obtain ⟨ht, hf⟩ := hyp
  refine ex_if_ne 14 11 dX9_strike_8 (by decide) rfl o8 (fun c22 => ?_) (fun c22 => ?_)
  · have hyp := ht c22
    clear ht hf
    refine ex_aload_n 15 dX9_strike_14 rfl rfl ?_
    have f9 := OB.of k6 o1
    obtain ⟨r10, f11, hyp⟩ := hyp
    refine q_getR 9 3 18 dX9_strike_15 rfl fiX9_33 rfl f9 f11 ?_
    refine ex_iload_n 19 dX9_strike_18 rfl rfl ?_
    obtain ⟨o12, hyp⟩ := hyp
    refine q_callVv [vi x1] 22 dX9_strike_19 rfl cvX9_139 rfl rfl ⟨Nat.le_of_ble_eq_true rfl, Nat.le_of_ble_eq_true rfl⟩ (Nat.le_of_ble_eq_true rfl) o12 hyp (fun h13 k14 hyp => ?_)
    refine ex_aload_n 23 dX9_strike_22 rfl rfl ?_
    refine ex_iconst 24 dX9_strike_23 rfl ?_
    have f15 := OB.of k14 f9
    refine q_putZ 9 11 27 dX9_strike_24 rfl fiX9_68 ff9_11 rfl f15 (Or.inr rfl) (fun h16 e17 => ?_)
    have hyp := hyp h16 e17
    refine ex_aload_n 28 dX9_strike_27 rfl rfl ?_
    have f18 := OB.of (KI e17) f15
    obtain ⟨r19, f20, hyp⟩ := hyp
    refine q_getR 9 3 31 dX9_strike_28 rfl fiX9_33 rfl f18 f20 ?_
    obtain ⟨o21, hyp⟩ := hyp
    refine q_getI 8 2 34 dX9_strike_31 rfl fiX9_142 (Or.inl rfl) o21 ?_
    exact ex_iret dX9_strike_34 (Or.inl rfl) ⟨_, rfl, hyp⟩
  · have hyp := hf c22
    clear ht hf
    refine ex_bipush 13 dX9_strike_11 rfl ⟨by decide, by decide⟩ ?_
    exact ex_iret dX9_strike_13 (Or.inl rfl) ⟨_, rfl, hyp⟩
set_option maxRecDepth 4000 in
theorem tX9_age {P : Int → PH → Prop} (h0 : PH) (a0 : Nat) (x1 : Int) (x2 : Int) (hyp : OB h0 9 a0 ∧ ∃ r2 : Nat, h0.2.2 a0 3 = some r2 ∧ OB h0 8 r2 ∧ METi mX8_has [vr r2, vi x1] h0 (fun y7 h5 => h5.1 = h0.1 → (rng y7 ∧ (¬ y7 = 0 → (∃ r10 : Nat, h5.2.2 a0 3 = some r10 ∧ OB h5 8 r10 ∧ ∃ r13 : Nat, h5.2.2 r10 0 = some r13 ∧ AI h5 21 r13 x1 ∧ ∃ r16 : Nat, h5.2.2 r13 (x1).toNat = some r16 ∧ rng x2 ∧ (x2 = (-1) → (OB h5 0 r16 ∧ ∀ h20 : PH, h20 = px_upI h5 r16 6 x2 → (∀ h23 : PH, h23 = px_upI h20 a0 11 1 → (P (h5.2.1 r16 6) h23)))) ∧ (¬ x2 = (-1) → (OB h5 0 r16 ∧ METi mX9_mayHaveAge [vi (h5.2.1 r16 4), vi x2] h5 (fun y28 h26 => h26.1 = h5.1 → (rng y28 ∧ (¬ y28 = 0 → (∀ h31 : PH, h31 = px_upI h26 r16 6 x2 → (∀ h35 : PH, h35 = px_upI h31 a0 11 1 → (P (h26.2.1 r16 6) h35)))) ∧ (y28 = 0 → (P (-102) h26)))))))) ∧ (y7 = 0 → (P (-101) h5))))) : METi mX9_age [vr a0, vi x1, vi x2] h0 P := by
  refine met_of_ex (by decide +kernel) (Nat.le_of_ble_eq_true rfl) ?_
  show EX mX9_age 0 [some (vr a0), some (vi x1), some (vi x2), none, none] [] h0 (0, 0) _
  refine ex_aload_n 1 dX9_age_0 rfl rfl ?_
  obtain ⟨o1, hyp⟩ := hyp
  obtain ⟨r2, f3, hyp⟩ := hyp
  refine q_getR 9 3 4 dX9_age_1 rfl fiX9_33 rfl o1 f3 ?_
  refine ex_iload_n 5 dX9_age_4 rfl rfl ?_
  obtain ⟨o4, hyp⟩ := hyp
  refine q_callVi [vi x1] 8 dX9_age_5 rfl cvX9_111 rfl rfl ⟨Nat.le_of_ble_eq_true rfl, Nat.le_of_ble_eq_true rfl⟩ (Nat.le_of_ble_eq_true rfl) o4 hyp (fun y7 h5 k6 hyp => ?_)
  obtain ⟨o8, hyp⟩ := hyp
  obtain ⟨ht, hf⟩ := hyp
  refine ex_if_ne 14 11 dX9_age_8 (by decide) rfl o8 (fun c39 => ?_) (fun c39 => ?_)
  · have hyp := ht c39
    clear ht hf
    refine ex_aload_n 15 dX9_age_14 rfl rfl ?_
    have f9 := OB.of k6 o1
    obtain ⟨r10, f11, hyp⟩ := hyp
    refine q_getR 9 3 18 dX9_age_15 rfl fiX9_33 rfl f9 f11 ?_
    obtain ⟨o12, hyp⟩ := hyp
    obtain ⟨r13, f14, hyp⟩ := hyp
    refine q_getR 8 0 21 dX9_age_18 rfl fiX9_121 rfl o12 f14 ?_
    refine ex_iload_n 22 dX9_age_21 rfl rfl ?_
    obtain ⟨o15, hyp⟩ := hyp
    obtain ⟨r16, f17, hyp⟩ := hyp
    refine ex_aald 21 23 dX9_age_22 rfl (by decide) o15 f17 ?_
    refine q_astore_n [some (vr a0), some (vi x1), some (vi x2), some (vr r16), none] 24 dX9_age_23 rfl (Nat.le_of_ble_eq_true rfl) rfl rfl ?_
    refine ex_iload_n 25 dX9_age_24 rfl rfl ?_
    refine ex_iconst 26 dX9_age_25 rfl ?_
    obtain ⟨o18, hyp⟩ := hyp
    obtain ⟨ht, hf⟩ := hyp
    refine ex_icmp_eq 43 29 dX9_age_26 (by decide) rfl o18 ⟨by decide, by decide⟩ (fun c38 => ?_) (fun c38 => ?_)
    · have hyp := ht c38
      clear ht hf
      refine ex_aload_n 44 dX9_age_43 rfl rfl ?_
      obtain ⟨o19, hyp⟩ := hyp
      refine q_getI 0 6 47 dX9_age_44 rfl fiX9_147 (Or.inl rfl) o19 ?_
      refine q_istore [some (vr a0), some (vi x1), some (vi x2), some (vr r16), some (vi (h5.2.1 r16 6))] 49 dX9_age_47 rfl (Nat.le_of_ble_eq_true rfl) rfl rfl ?_
      refine ex_aload_n 50 dX9_age_49 rfl rfl ?_
      refine ex_iload_n 51 dX9_age_50 rfl rfl ?_
      refine q_putI 0 6 54 dX9_age_51 rfl fiX9_147 ff0_6 rfl o19 (fun h20 e21 => ?_)
      have hyp := hyp h20 e21
      refine ex_aload_n 55 dX9_age_54 rfl rfl ?_
      refine ex_iconst 56 dX9_age_55 rfl ?_
      have f22 := OB.of (KI e21) f9
      refine q_putZ 9 11 59 dX9_age_56 rfl fiX9_68 ff9_11 rfl f22 (Or.inr rfl) (fun h23 e24 => ?_)
      have hyp := hyp h23 e24
      refine ex_iload 61 dX9_age_59 rfl rfl ?_
      exact ex_iret dX9_age_61 (Or.inl rfl) ⟨_, rfl, hyp⟩
    · have hyp := hf c38
      clear ht hf
      refine ex_aload_n 30 dX9_age_29 rfl rfl ?_
      obtain ⟨o25, hyp⟩ := hyp
      refine q_getI 0 4 33 dX9_age_30 rfl fiX9_133 (Or.inl rfl) o25 ?_
      refine ex_iload_n 34 dX9_age_33 rfl rfl ?_
      refine q_callSi [vi (h5.2.1 r16 4), vi x2] 37 dX9_age_34 rfl cvX9_143 rfl rfl ⟨Nat.le_of_ble_eq_true rfl, Nat.le_of_ble_eq_true rfl⟩ (Nat.le_of_ble_eq_true rfl) hyp (fun y28 h26 k27 hyp => ?_)
      obtain ⟨o29, hyp⟩ := hyp
      obtain ⟨ht, hf⟩ := hyp
      refine ex_if_ne 43 40 dX9_age_37 (by decide) rfl o29 (fun c37 => ?_) (fun c37 => ?_)
      · have hyp := ht c37
        clear ht hf
        refine ex_aload_n 44 dX9_age_43 rfl rfl ?_
        have f30 := OB.of k27 o25
        refine q_getI 0 6 47 dX9_age_44 rfl fiX9_147 (Or.inl rfl) f30 ?_
        refine q_istore [some (vr a0), some (vi x1), some (vi x2), some (vr r16), some (vi (h26.2.1 r16 6))] 49 dX9_age_47 rfl (Nat.le_of_ble_eq_true rfl) rfl rfl ?_
        refine ex_aload_n 50 dX9_age_49 rfl rfl ?_
        refine ex_iload_n 51 dX9_age_50 rfl rfl ?_
        refine q_putI 0 6 54 dX9_age_51 rfl fiX9_147 ff0_6 rfl f30 (fun h31 e32 => ?_)
        have hyp := hyp h31 e32
        refine ex_aload_n 55 dX9_age_54 rfl rfl ?_
        refine ex_iconst 56 dX9_age_55 rfl ?_
        have f33 := OB.of k27 f9
        have f34 := OB.of (KI e32) f33
        refine q_putZ 9 11 59 dX9_age_56 rfl fiX9_68 ff9_11 rfl f34 (Or.inr rfl) (fun h35 e36 => ?_)
        have hyp := hyp h35 e36
        refine ex_iload 61 dX9_age_59 rfl rfl ?_
        exact ex_iret dX9_age_61 (Or.inl rfl) ⟨_, rfl, hyp⟩
      · have hyp := hf c37
        clear ht hf
        refine ex_bipush 42 dX9_age_40 rfl ⟨by decide, by decide⟩ ?_
        exact ex_iret dX9_age_42 (Or.inl rfl) ⟨_, rfl, hyp⟩
  · have hyp := hf c39
    clear ht hf
    refine ex_bipush 13 dX9_age_11 rfl ⟨by decide, by decide⟩ ?_
    exact ex_iret dX9_age_13 (Or.inl rfl) ⟨_, rfl, hyp⟩
set_option maxRecDepth 4000 in
theorem tX9_part {P : Int → PH → Prop} (h0 : PH) (a0 : Nat) (x1 : Int) (x2 : Int) (hyp : OB h0 9 a0 ∧ METi mX9_areTwo [vr a0, vi x1, vi x2] h0 (fun y4 h2 => h2.1 = h0.1 → (rng y4 ∧ (¬ y4 = 0 → (∀ h7 : PH, h7 = px_upI h2 a0 11 1 → (∃ r10 : Nat, h7.2.2 a0 3 = some r10 ∧ OB h7 8 r10 ∧ ∃ r13 : Nat, h7.2.2 r10 0 = some r13 ∧ AI h7 21 r13 x1 ∧ ∃ r16 : Nat, h7.2.2 r13 (x1).toNat = some r16 ∧ AI h7 21 r13 x2 ∧ ∃ r19 : Nat, h7.2.2 r13 (x2).toNat = some r19 ∧ METi mX8_turnParted [vr r10, vr r16, vr r19] h7 (fun y23 h21 => h21.1 = h7.1 → (rng y23 ∧ (y23 = 0 → (P 0 h21)) ∧ (¬ y23 = 0 → (P 1 h21))))))) ∧ (y4 = 0 → (P (-101) h2))))) : METi mX9_part [vr a0, vi x1, vi x2] h0 P := by
  refine met_of_ex (by decide +kernel) (Nat.le_of_ble_eq_true rfl) ?_
  show EX mX9_part 0 [some (vr a0), some (vi x1), some (vi x2)] [] h0 (0, 0) _
  refine ex_aload_n 1 dX9_part_0 rfl rfl ?_
  refine ex_iload_n 2 dX9_part_1 rfl rfl ?_
  refine ex_iload_n 3 dX9_part_2 rfl rfl ?_
  obtain ⟨o1, hyp⟩ := hyp
  refine q_callVi [vi x1, vi x2] 6 dX9_part_3 rfl cvX9_150 rfl rfl ⟨Nat.le_of_ble_eq_true rfl, Nat.le_of_ble_eq_true rfl⟩ (Nat.le_of_ble_eq_true rfl) o1 hyp (fun y4 h2 k3 hyp => ?_)
  obtain ⟨o5, hyp⟩ := hyp
  obtain ⟨ht, hf⟩ := hyp
  refine ex_if_ne 12 9 dX9_part_6 (by decide) rfl o5 (fun c26 => ?_) (fun c26 => ?_)
  · have hyp := ht c26
    clear ht hf
    refine ex_aload_n 13 dX9_part_12 rfl rfl ?_
    refine ex_iconst 14 dX9_part_13 rfl ?_
    have f6 := OB.of k3 o1
    refine q_putZ 9 11 17 dX9_part_14 rfl fiX9_68 ff9_11 rfl f6 (Or.inr rfl) (fun h7 e8 => ?_)
    have hyp := hyp h7 e8
    refine ex_aload_n 18 dX9_part_17 rfl rfl ?_
    have f9 := OB.of (KI e8) f6
    obtain ⟨r10, f11, hyp⟩ := hyp
    refine q_getR 9 3 21 dX9_part_18 rfl fiX9_33 rfl f9 f11 ?_
    refine ex_aload_n 22 dX9_part_21 rfl rfl ?_
    refine q_getR 9 3 25 dX9_part_22 rfl fiX9_33 rfl f9 f11 ?_
    obtain ⟨o12, hyp⟩ := hyp
    obtain ⟨r13, f14, hyp⟩ := hyp
    refine q_getR 8 0 28 dX9_part_25 rfl fiX9_121 rfl o12 f14 ?_
    refine ex_iload_n 29 dX9_part_28 rfl rfl ?_
    obtain ⟨o15, hyp⟩ := hyp
    obtain ⟨r16, f17, hyp⟩ := hyp
    refine ex_aald 21 30 dX9_part_29 rfl (by decide) o15 f17 ?_
    refine ex_aload_n 31 dX9_part_30 rfl rfl ?_
    refine q_getR 9 3 34 dX9_part_31 rfl fiX9_33 rfl f9 f11 ?_
    refine q_getR 8 0 37 dX9_part_34 rfl fiX9_121 rfl o12 f14 ?_
    refine ex_iload_n 38 dX9_part_37 rfl rfl ?_
    obtain ⟨o18, hyp⟩ := hyp
    obtain ⟨r19, f20, hyp⟩ := hyp
    refine ex_aald 21 39 dX9_part_38 rfl (by decide) o18 f20 ?_
    refine q_callVi [vr r16, vr r19] 42 dX9_part_39 rfl cvX9_153 rfl rfl ⟨Nat.le_of_ble_eq_true rfl, Nat.le_of_ble_eq_true rfl⟩ (Nat.le_of_ble_eq_true rfl) o12 hyp (fun y23 h21 k22 hyp => ?_)
    obtain ⟨o24, hyp⟩ := hyp
    obtain ⟨ht, hf⟩ := hyp
    refine ex_if_eq 49 45 dX9_part_42 (by decide) rfl o24 (fun c25 => ?_) (fun c25 => ?_)
    · have hyp := ht c25
      clear ht hf
      refine ex_iconst 50 dX9_part_49 rfl ?_
      exact ex_iret dX9_part_50 (Or.inl rfl) ⟨_, rfl, hyp⟩
    · have hyp := hf c25
      clear ht hf
      refine ex_iconst 46 dX9_part_45 rfl ?_
      refine ex_goto 50 dX9_part_46 (by decide) ?_
      exact ex_iret dX9_part_50 (Or.inl rfl) ⟨_, rfl, hyp⟩
  · have hyp := hf c26
    clear ht hf
    refine ex_bipush 11 dX9_part_9 rfl ⟨by decide, by decide⟩ ?_
    exact ex_iret dX9_part_11 (Or.inl rfl) ⟨_, rfl, hyp⟩
set_option maxRecDepth 4000 in
theorem tX9_bound {P : Int → PH → Prop} (h0 : PH) (a0 : Nat) (x1 : Int) (x2 : Int) (hyp : rng x1 ∧ (x1 < 0 → (P (-102) h0)) ∧ (0 ≤ x1 → ((x1 ≤ 2 → ((¬ x1 = 0 → ((¬ x1 = 1 → (EXi mX9_bound 34 [some (vr a0), some (vi x1), some (vi x2), none, none] [vi 500] h0 P)) ∧ (x1 = 1 → (EXi mX9_bound 34 [some (vr a0), some (vi x1), some (vi x2), none, none] [vi 5] h0 P)))) ∧ (x1 = 0 → (EXi mX9_bound 34 [some (vr a0), some (vi x1), some (vi x2), none, none] [vi 1000] h0 P)))) ∧ (2 < x1 → (P (-102) h0))))) : METi mX9_bound [vr a0, vi x1, vi x2] h0 P := by
  refine met_of_ex (by decide +kernel) (Nat.le_of_ble_eq_true rfl) ?_
  show EX mX9_bound 0 [some (vr a0), some (vi x1), some (vi x2), none, none] [] h0 (0, 0) _
  refine ex_iload_n 1 dX9_bound_0 rfl rfl ?_
  obtain ⟨o1, hyp⟩ := hyp
  obtain ⟨ht, hf⟩ := hyp
  refine ex_if_lt 9 4 dX9_bound_1 (by decide) rfl o1 (fun c5 => ?_) (fun c5 => ?_)
  · have hyp := ht c5
    clear ht hf
    refine ex_bipush 11 dX9_bound_9 rfl ⟨by decide, by decide⟩ ?_
    exact ex_iret dX9_bound_11 (Or.inl rfl) ⟨_, rfl, hyp⟩
  · have hyp := hf c5
    clear ht hf
    refine ex_iload_n 5 dX9_bound_4 rfl rfl ?_
    refine ex_iconst 6 dX9_bound_5 rfl ?_
    obtain ⟨ht, hf⟩ := hyp
    refine ex_icmp_le 12 9 dX9_bound_6 (by decide) rfl o1 ⟨by decide, by decide⟩ (fun c4 => ?_) (fun c4 => ?_)
    · have hyp := ht c4
      clear ht hf
      refine ex_iload_n 13 dX9_bound_12 rfl rfl ?_
      obtain ⟨ht, hf⟩ := hyp
      refine ex_if_ne 22 16 dX9_bound_13 (by decide) rfl o1 (fun c3 => ?_) (fun c3 => ?_)
      · have hyp := ht c3
        clear ht hf
        refine ex_iload_n 23 dX9_bound_22 rfl rfl ?_
        refine ex_iconst 24 dX9_bound_23 rfl ?_
        obtain ⟨ht, hf⟩ := hyp
        refine ex_icmp_ne 31 27 dX9_bound_24 (by decide) rfl o1 ⟨by decide, by decide⟩ (fun c2 => ?_) (fun c2 => ?_)
        · have hyp := ht c2
          clear ht hf
          refine ex_sipush 34 dX9_bound_31 rfl ⟨by decide, by decide⟩ ?_
          exact hyp
        · have hyp := hf c2
          clear ht hf
          refine ex_iconst 28 dX9_bound_27 rfl ?_
          refine ex_goto 34 dX9_bound_28 (by decide) ?_
          exact hyp
      · have hyp := hf c3
        clear ht hf
        refine ex_sipush 19 dX9_bound_16 rfl ⟨by decide, by decide⟩ ?_
        refine ex_goto 34 dX9_bound_19 (by decide) ?_
        exact hyp
    · have hyp := hf c4
      clear ht hf
      refine ex_bipush 11 dX9_bound_9 rfl ⟨by decide, by decide⟩ ?_
      exact ex_iret dX9_bound_11 (Or.inl rfl) ⟨_, rfl, hyp⟩
set_option maxRecDepth 4000 in
theorem tX9_bound_34 {P : Int → PH → Prop} (h0 : PH) (a0 : Nat) (x1 : Int) (x2 : Int) (xs0 : Int) (hyp : rng x2 ∧ (x2 < 0 → (P (-102) h0)) ∧ (0 ≤ x2 → (rng xs0 ∧ (x2 ≤ xs0 → (rng x1 ∧ (¬ x1 = 0 → ((¬ x1 = 1 → (OB h0 9 a0 ∧ (¬ x1 = 0 → ((¬ x1 = 1 → (∀ h5 : PH, h5 = px_upI h0 a0 9 x2 → (∀ h8 : PH, h8 = px_upI h5 a0 11 1 → (P (h0.2.1 a0 9) h8)))) ∧ (x1 = 1 → (∀ h10 : PH, h10 = px_upI h0 a0 8 x2 → (∀ h13 : PH, h13 = px_upI h10 a0 11 1 → (P (h0.2.1 a0 9) h13)))))) ∧ (x1 = 0 → (∀ h16 : PH, h16 = px_upI h0 a0 7 x2 → (∀ h19 : PH, h19 = px_upI h16 a0 11 1 → (P (h0.2.1 a0 9) h19)))))) ∧ (x1 = 1 → (OB h0 9 a0 ∧ (¬ x1 = 0 → ((¬ x1 = 1 → (∀ h23 : PH, h23 = px_upI h0 a0 9 x2 → (∀ h26 : PH, h26 = px_upI h23 a0 11 1 → (P (h0.2.1 a0 8) h26)))) ∧ (x1 = 1 → (∀ h28 : PH, h28 = px_upI h0 a0 8 x2 → (∀ h31 : PH, h31 = px_upI h28 a0 11 1 → (P (h0.2.1 a0 8) h31)))))) ∧ (x1 = 0 → (∀ h34 : PH, h34 = px_upI h0 a0 7 x2 → (∀ h37 : PH, h37 = px_upI h34 a0 11 1 → (P (h0.2.1 a0 8) h37)))))))) ∧ (x1 = 0 → (OB h0 9 a0 ∧ (¬ x1 = 0 → ((¬ x1 = 1 → (∀ h42 : PH, h42 = px_upI h0 a0 9 x2 → (∀ h45 : PH, h45 = px_upI h42 a0 11 1 → (P (h0.2.1 a0 7) h45)))) ∧ (x1 = 1 → (∀ h47 : PH, h47 = px_upI h0 a0 8 x2 → (∀ h50 : PH, h50 = px_upI h47 a0 11 1 → (P (h0.2.1 a0 7) h50)))))) ∧ (x1 = 0 → (∀ h53 : PH, h53 = px_upI h0 a0 7 x2 → (∀ h56 : PH, h56 = px_upI h53 a0 11 1 → (P (h0.2.1 a0 7) h56)))))))) ∧ (xs0 < x2 → (P (-102) h0))))) : EXi mX9_bound 34 [some (vr a0), some (vi x1), some (vi x2), none, none] [vi xs0] h0 P := by
  refine q_istore_n [some (vr a0), some (vi x1), some (vi x2), some (vi xs0), none] 35 dX9_bound_34 rfl (Nat.le_of_ble_eq_true rfl) rfl rfl ?_
  refine ex_iload_n 36 dX9_bound_35 rfl rfl ?_
  obtain ⟨o1, hyp⟩ := hyp
  obtain ⟨ht, hf⟩ := hyp
  refine ex_if_lt 44 39 dX9_bound_36 (by decide) rfl o1 (fun c61 => ?_) (fun c61 => ?_)
  · have hyp := ht c61
    clear ht hf
    refine ex_bipush 46 dX9_bound_44 rfl ⟨by decide, by decide⟩ ?_
    exact ex_iret dX9_bound_46 (Or.inl rfl) ⟨_, rfl, hyp⟩
  · have hyp := hf c61
    clear ht hf
    refine ex_iload_n 40 dX9_bound_39 rfl rfl ?_
    refine ex_iload_n 41 dX9_bound_40 rfl rfl ?_
    obtain ⟨o2, hyp⟩ := hyp
    obtain ⟨ht, hf⟩ := hyp
    refine ex_icmp_le 47 44 dX9_bound_41 (by decide) rfl o1 o2 (fun c60 => ?_) (fun c60 => ?_)
    · have hyp := ht c60
      clear ht hf
      refine ex_iload_n 48 dX9_bound_47 rfl rfl ?_
      obtain ⟨o3, hyp⟩ := hyp
      obtain ⟨ht, hf⟩ := hyp
      refine ex_if_ne 58 51 dX9_bound_48 (by decide) rfl o3 (fun c59 => ?_) (fun c59 => ?_)
      · have hyp := ht c59
        clear ht hf
        refine ex_iload_n 59 dX9_bound_58 rfl rfl ?_
        refine ex_iconst 60 dX9_bound_59 rfl ?_
        obtain ⟨ht, hf⟩ := hyp
        refine ex_icmp_ne 70 63 dX9_bound_60 (by decide) rfl o3 ⟨by decide, by decide⟩ (fun c40 => ?_) (fun c40 => ?_)
        · have hyp := ht c40
          clear ht hf
          refine ex_aload_n 71 dX9_bound_70 rfl rfl ?_
          obtain ⟨o4, hyp⟩ := hyp
          refine q_getI 9 9 74 dX9_bound_71 rfl fiX9_65 (Or.inl rfl) o4 ?_
          refine q_istore [some (vr a0), some (vi x1), some (vi x2), some (vi xs0), some (vi (h0.2.1 a0 9))] 76 dX9_bound_74 rfl (Nat.le_of_ble_eq_true rfl) rfl rfl ?_
          refine ex_iload_n 77 dX9_bound_76 rfl rfl ?_
          obtain ⟨ht, hf⟩ := hyp
          refine ex_if_ne 88 80 dX9_bound_77 (by decide) rfl o3 (fun c21 => ?_) (fun c21 => ?_)
          · have hyp := ht c21
            clear ht hf
            refine ex_iload_n 89 dX9_bound_88 rfl rfl ?_
            refine ex_iconst 90 dX9_bound_89 rfl ?_
            obtain ⟨ht, hf⟩ := hyp
            refine ex_icmp_ne 101 93 dX9_bound_90 (by decide) rfl o3 ⟨by decide, by decide⟩ (fun c15 => ?_) (fun c15 => ?_)
            · have hyp := ht c15
              clear ht hf
              refine ex_aload_n 102 dX9_bound_101 rfl rfl ?_
              refine ex_iload_n 103 dX9_bound_102 rfl rfl ?_
              refine q_putI 9 9 106 dX9_bound_103 rfl fiX9_65 ff9_9 rfl o4 (fun h5 e6 => ?_)
              have hyp := hyp h5 e6
              refine ex_aload_n 107 dX9_bound_106 rfl rfl ?_
              refine ex_iconst 108 dX9_bound_107 rfl ?_
              have f7 := OB.of (KI e6) o4
              refine q_putZ 9 11 111 dX9_bound_108 rfl fiX9_68 ff9_11 rfl f7 (Or.inr rfl) (fun h8 e9 => ?_)
              have hyp := hyp h8 e9
              refine ex_iload 113 dX9_bound_111 rfl rfl ?_
              exact ex_iret dX9_bound_113 (Or.inl rfl) ⟨_, rfl, hyp⟩
            · have hyp := hf c15
              clear ht hf
              refine ex_aload_n 94 dX9_bound_93 rfl rfl ?_
              refine ex_iload_n 95 dX9_bound_94 rfl rfl ?_
              refine q_putI 9 8 98 dX9_bound_95 rfl fiX9_62 ff9_8 rfl o4 (fun h10 e11 => ?_)
              have hyp := hyp h10 e11
              refine ex_goto 106 dX9_bound_98 (by decide) ?_
              refine ex_aload_n 107 dX9_bound_106 rfl rfl ?_
              refine ex_iconst 108 dX9_bound_107 rfl ?_
              have f12 := OB.of (KI e11) o4
              refine q_putZ 9 11 111 dX9_bound_108 rfl fiX9_68 ff9_11 rfl f12 (Or.inr rfl) (fun h13 e14 => ?_)
              have hyp := hyp h13 e14
              refine ex_iload 113 dX9_bound_111 rfl rfl ?_
              exact ex_iret dX9_bound_113 (Or.inl rfl) ⟨_, rfl, hyp⟩
          · have hyp := hf c21
            clear ht hf
            refine ex_aload_n 81 dX9_bound_80 rfl rfl ?_
            refine ex_iload_n 82 dX9_bound_81 rfl rfl ?_
            refine q_putI 9 7 85 dX9_bound_82 rfl fiX9_58 ff9_7 rfl o4 (fun h16 e17 => ?_)
            have hyp := hyp h16 e17
            refine ex_goto 106 dX9_bound_85 (by decide) ?_
            refine ex_aload_n 107 dX9_bound_106 rfl rfl ?_
            refine ex_iconst 108 dX9_bound_107 rfl ?_
            have f18 := OB.of (KI e17) o4
            refine q_putZ 9 11 111 dX9_bound_108 rfl fiX9_68 ff9_11 rfl f18 (Or.inr rfl) (fun h19 e20 => ?_)
            have hyp := hyp h19 e20
            refine ex_iload 113 dX9_bound_111 rfl rfl ?_
            exact ex_iret dX9_bound_113 (Or.inl rfl) ⟨_, rfl, hyp⟩
        · have hyp := hf c40
          clear ht hf
          refine ex_aload_n 64 dX9_bound_63 rfl rfl ?_
          obtain ⟨o22, hyp⟩ := hyp
          refine q_getI 9 8 67 dX9_bound_64 rfl fiX9_62 (Or.inl rfl) o22 ?_
          refine ex_goto 74 dX9_bound_67 (by decide) ?_
          refine q_istore [some (vr a0), some (vi x1), some (vi x2), some (vi xs0), some (vi (h0.2.1 a0 8))] 76 dX9_bound_74 rfl (Nat.le_of_ble_eq_true rfl) rfl rfl ?_
          refine ex_iload_n 77 dX9_bound_76 rfl rfl ?_
          obtain ⟨ht, hf⟩ := hyp
          refine ex_if_ne 88 80 dX9_bound_77 (by decide) rfl o3 (fun c39 => ?_) (fun c39 => ?_)
          · have hyp := ht c39
            clear ht hf
            refine ex_iload_n 89 dX9_bound_88 rfl rfl ?_
            refine ex_iconst 90 dX9_bound_89 rfl ?_
            obtain ⟨ht, hf⟩ := hyp
            refine ex_icmp_ne 101 93 dX9_bound_90 (by decide) rfl o3 ⟨by decide, by decide⟩ (fun c33 => ?_) (fun c33 => ?_)
            · have hyp := ht c33
              clear ht hf
              refine ex_aload_n 102 dX9_bound_101 rfl rfl ?_
              refine ex_iload_n 103 dX9_bound_102 rfl rfl ?_
              refine q_putI 9 9 106 dX9_bound_103 rfl fiX9_65 ff9_9 rfl o22 (fun h23 e24 => ?_)
              have hyp := hyp h23 e24
              refine ex_aload_n 107 dX9_bound_106 rfl rfl ?_
              refine ex_iconst 108 dX9_bound_107 rfl ?_
              have f25 := OB.of (KI e24) o22
              refine q_putZ 9 11 111 dX9_bound_108 rfl fiX9_68 ff9_11 rfl f25 (Or.inr rfl) (fun h26 e27 => ?_)
              have hyp := hyp h26 e27
              refine ex_iload 113 dX9_bound_111 rfl rfl ?_
              exact ex_iret dX9_bound_113 (Or.inl rfl) ⟨_, rfl, hyp⟩
            · have hyp := hf c33
              clear ht hf
              refine ex_aload_n 94 dX9_bound_93 rfl rfl ?_
              refine ex_iload_n 95 dX9_bound_94 rfl rfl ?_
              refine q_putI 9 8 98 dX9_bound_95 rfl fiX9_62 ff9_8 rfl o22 (fun h28 e29 => ?_)
              have hyp := hyp h28 e29
              refine ex_goto 106 dX9_bound_98 (by decide) ?_
              refine ex_aload_n 107 dX9_bound_106 rfl rfl ?_
              refine ex_iconst 108 dX9_bound_107 rfl ?_
              have f30 := OB.of (KI e29) o22
              refine q_putZ 9 11 111 dX9_bound_108 rfl fiX9_68 ff9_11 rfl f30 (Or.inr rfl) (fun h31 e32 => ?_)
              have hyp := hyp h31 e32
              refine ex_iload 113 dX9_bound_111 rfl rfl ?_
              exact ex_iret dX9_bound_113 (Or.inl rfl) ⟨_, rfl, hyp⟩
          · have hyp := hf c39
            clear ht hf
            refine ex_aload_n 81 dX9_bound_80 rfl rfl ?_
            refine ex_iload_n 82 dX9_bound_81 rfl rfl ?_
            refine q_putI 9 7 85 dX9_bound_82 rfl fiX9_58 ff9_7 rfl o22 (fun h34 e35 => ?_)
            have hyp := hyp h34 e35
            refine ex_goto 106 dX9_bound_85 (by decide) ?_
            refine ex_aload_n 107 dX9_bound_106 rfl rfl ?_
            refine ex_iconst 108 dX9_bound_107 rfl ?_
            have f36 := OB.of (KI e35) o22
            refine q_putZ 9 11 111 dX9_bound_108 rfl fiX9_68 ff9_11 rfl f36 (Or.inr rfl) (fun h37 e38 => ?_)
            have hyp := hyp h37 e38
            refine ex_iload 113 dX9_bound_111 rfl rfl ?_
            exact ex_iret dX9_bound_113 (Or.inl rfl) ⟨_, rfl, hyp⟩
      · have hyp := hf c59
        clear ht hf
        refine ex_aload_n 52 dX9_bound_51 rfl rfl ?_
        obtain ⟨o41, hyp⟩ := hyp
        refine q_getI 9 7 55 dX9_bound_52 rfl fiX9_58 (Or.inl rfl) o41 ?_
        refine ex_goto 74 dX9_bound_55 (by decide) ?_
        refine q_istore [some (vr a0), some (vi x1), some (vi x2), some (vi xs0), some (vi (h0.2.1 a0 7))] 76 dX9_bound_74 rfl (Nat.le_of_ble_eq_true rfl) rfl rfl ?_
        refine ex_iload_n 77 dX9_bound_76 rfl rfl ?_
        obtain ⟨ht, hf⟩ := hyp
        refine ex_if_ne 88 80 dX9_bound_77 (by decide) rfl o3 (fun c58 => ?_) (fun c58 => ?_)
        · have hyp := ht c58
          clear ht hf
          refine ex_iload_n 89 dX9_bound_88 rfl rfl ?_
          refine ex_iconst 90 dX9_bound_89 rfl ?_
          obtain ⟨ht, hf⟩ := hyp
          refine ex_icmp_ne 101 93 dX9_bound_90 (by decide) rfl o3 ⟨by decide, by decide⟩ (fun c52 => ?_) (fun c52 => ?_)
          · have hyp := ht c52
            clear ht hf
            refine ex_aload_n 102 dX9_bound_101 rfl rfl ?_
            refine ex_iload_n 103 dX9_bound_102 rfl rfl ?_
            refine q_putI 9 9 106 dX9_bound_103 rfl fiX9_65 ff9_9 rfl o41 (fun h42 e43 => ?_)
            have hyp := hyp h42 e43
            refine ex_aload_n 107 dX9_bound_106 rfl rfl ?_
            refine ex_iconst 108 dX9_bound_107 rfl ?_
            have f44 := OB.of (KI e43) o41
            refine q_putZ 9 11 111 dX9_bound_108 rfl fiX9_68 ff9_11 rfl f44 (Or.inr rfl) (fun h45 e46 => ?_)
            have hyp := hyp h45 e46
            refine ex_iload 113 dX9_bound_111 rfl rfl ?_
            exact ex_iret dX9_bound_113 (Or.inl rfl) ⟨_, rfl, hyp⟩
          · have hyp := hf c52
            clear ht hf
            refine ex_aload_n 94 dX9_bound_93 rfl rfl ?_
            refine ex_iload_n 95 dX9_bound_94 rfl rfl ?_
            refine q_putI 9 8 98 dX9_bound_95 rfl fiX9_62 ff9_8 rfl o41 (fun h47 e48 => ?_)
            have hyp := hyp h47 e48
            refine ex_goto 106 dX9_bound_98 (by decide) ?_
            refine ex_aload_n 107 dX9_bound_106 rfl rfl ?_
            refine ex_iconst 108 dX9_bound_107 rfl ?_
            have f49 := OB.of (KI e48) o41
            refine q_putZ 9 11 111 dX9_bound_108 rfl fiX9_68 ff9_11 rfl f49 (Or.inr rfl) (fun h50 e51 => ?_)
            have hyp := hyp h50 e51
            refine ex_iload 113 dX9_bound_111 rfl rfl ?_
            exact ex_iret dX9_bound_113 (Or.inl rfl) ⟨_, rfl, hyp⟩
        · have hyp := hf c58
          clear ht hf
          refine ex_aload_n 81 dX9_bound_80 rfl rfl ?_
          refine ex_iload_n 82 dX9_bound_81 rfl rfl ?_
          refine q_putI 9 7 85 dX9_bound_82 rfl fiX9_58 ff9_7 rfl o41 (fun h53 e54 => ?_)
          have hyp := hyp h53 e54
          refine ex_goto 106 dX9_bound_85 (by decide) ?_
          refine ex_aload_n 107 dX9_bound_106 rfl rfl ?_
          refine ex_iconst 108 dX9_bound_107 rfl ?_
          have f55 := OB.of (KI e54) o41
          refine q_putZ 9 11 111 dX9_bound_108 rfl fiX9_68 ff9_11 rfl f55 (Or.inr rfl) (fun h56 e57 => ?_)
          have hyp := hyp h56 e57
          refine ex_iload 113 dX9_bound_111 rfl rfl ?_
          exact ex_iret dX9_bound_113 (Or.inl rfl) ⟨_, rfl, hyp⟩
    · have hyp := hf c60
      clear ht hf
      refine ex_bipush 46 dX9_bound_44 rfl ⟨by decide, by decide⟩ ?_
      exact ex_iret dX9_bound_46 (Or.inl rfl) ⟨_, rfl, hyp⟩
set_option maxRecDepth 4000 in
theorem tX9_two {P : Int → PH → Prop} (h0 : PH) (a0 : Nat) (x1 : Int) (x2 : Int) (x3 : Int) (hyp : OB h0 9 a0 ∧ METi mX9_areTwo [vr a0, vi x1, vi x2] h0 (fun y4 h2 => h2.1 = h0.1 → (rng y4 ∧ (¬ y4 = 0 → (METv mX9_settle [vr a0] h2 (0, 0) (fun h7 => h7.1 = h2.1 → (METi mX9_tellTwo [vr a0, vi x1, vi x2, vi x3] h7 (fun y12 h10 => h10.1 = h7.1 → (P y12 h10)))))) ∧ (y4 = 0 → (P (-101) h2))))) : METi mX9_two [vr a0, vi x1, vi x2, vi x3] h0 P := by
  refine met_of_ex (by decide +kernel) (Nat.le_of_ble_eq_true rfl) ?_
  show EX mX9_two 0 [some (vr a0), some (vi x1), some (vi x2), some (vi x3)] [] h0 (0, 0) _
  refine ex_aload_n 1 dX9_two_0 rfl rfl ?_
  refine ex_iload_n 2 dX9_two_1 rfl rfl ?_
  refine ex_iload_n 3 dX9_two_2 rfl rfl ?_
  obtain ⟨o1, hyp⟩ := hyp
  refine q_callVi [vi x1, vi x2] 6 dX9_two_3 rfl cvX9_150 rfl rfl ⟨Nat.le_of_ble_eq_true rfl, Nat.le_of_ble_eq_true rfl⟩ (Nat.le_of_ble_eq_true rfl) o1 hyp (fun y4 h2 k3 hyp => ?_)
  obtain ⟨o5, hyp⟩ := hyp
  obtain ⟨ht, hf⟩ := hyp
  refine ex_if_ne 12 9 dX9_two_6 (by decide) rfl o5 (fun c13 => ?_) (fun c13 => ?_)
  · have hyp := ht c13
    clear ht hf
    refine ex_aload_n 13 dX9_two_12 rfl rfl ?_
    have f6 := OB.of k3 o1
    refine q_callVv [] 16 dX9_two_13 rfl cvX9_114 rfl rfl ⟨Nat.le_of_ble_eq_true rfl, Nat.le_of_ble_eq_true rfl⟩ (Nat.le_of_ble_eq_true rfl) f6 hyp (fun h7 k8 hyp => ?_)
    refine ex_aload_n 17 dX9_two_16 rfl rfl ?_
    refine ex_iload_n 18 dX9_two_17 rfl rfl ?_
    refine ex_iload_n 19 dX9_two_18 rfl rfl ?_
    refine ex_iload_n 20 dX9_two_19 rfl rfl ?_
    have f9 := OB.of k8 f6
    refine q_callVi [vi x1, vi x2, vi x3] 23 dX9_two_20 rfl cvX9_157 rfl rfl ⟨Nat.le_of_ble_eq_true rfl, Nat.le_of_ble_eq_true rfl⟩ (Nat.le_of_ble_eq_true rfl) f9 hyp (fun y12 h10 k11 hyp => ?_)
    exact ex_iret dX9_two_23 (Or.inl rfl) ⟨_, rfl, hyp⟩
  · have hyp := hf c13
    clear ht hf
    refine ex_bipush 11 dX9_two_9 rfl ⟨by decide, by decide⟩ ?_
    exact ex_iret dX9_two_11 (Or.inl rfl) ⟨_, rfl, hyp⟩
set_option maxRecDepth 4000 in
theorem tX9_fits {P : Int → PH → Prop} (h0 : PH) (a0 : Nat) (x1 : Int) (hyp : OB h0 9 a0 ∧ ∃ r2 : Nat, h0.2.2 a0 3 = some r2 ∧ OB h0 8 r2 ∧ METi mX8_has [vr r2, vi x1] h0 (fun y7 h5 => h5.1 = h0.1 → (rng y7 ∧ (¬ y7 = 0 → (METv mX9_settle [vr a0] h5 (0, 0) (fun h10 => h10.1 = h5.1 → (∃ r13 : Nat, h10.2.2 a0 4 = some r13 ∧ OB h10 6 r13 ∧ METi mX6_countFitting [vr r13, vi x1] h10 (fun y18 h16 => h16.1 = h10.1 → (P y18 h16)))))) ∧ (y7 = 0 → (P (-101) h5))))) : METi mX9_fits [vr a0, vi x1] h0 P := by
  refine met_of_ex (by decide +kernel) (Nat.le_of_ble_eq_true rfl) ?_
  show EX mX9_fits 0 [some (vr a0), some (vi x1)] [] h0 (0, 0) _
  refine ex_aload_n 1 dX9_fits_0 rfl rfl ?_
  obtain ⟨o1, hyp⟩ := hyp
  obtain ⟨r2, f3, hyp⟩ := hyp
  refine q_getR 9 3 4 dX9_fits_1 rfl fiX9_33 rfl o1 f3 ?_
  refine ex_iload_n 5 dX9_fits_4 rfl rfl ?_
  obtain ⟨o4, hyp⟩ := hyp
  refine q_callVi [vi x1] 8 dX9_fits_5 rfl cvX9_111 rfl rfl ⟨Nat.le_of_ble_eq_true rfl, Nat.le_of_ble_eq_true rfl⟩ (Nat.le_of_ble_eq_true rfl) o4 hyp (fun y7 h5 k6 hyp => ?_)
  obtain ⟨o8, hyp⟩ := hyp
  obtain ⟨ht, hf⟩ := hyp
  refine ex_if_ne 14 11 dX9_fits_8 (by decide) rfl o8 (fun c19 => ?_) (fun c19 => ?_)
  · have hyp := ht c19
    clear ht hf
    refine ex_aload_n 15 dX9_fits_14 rfl rfl ?_
    have f9 := OB.of k6 o1
    refine q_callVv [] 18 dX9_fits_15 rfl cvX9_114 rfl rfl ⟨Nat.le_of_ble_eq_true rfl, Nat.le_of_ble_eq_true rfl⟩ (Nat.le_of_ble_eq_true rfl) f9 hyp (fun h10 k11 hyp => ?_)
    refine ex_aload_n 19 dX9_fits_18 rfl rfl ?_
    have f12 := OB.of k11 f9
    obtain ⟨r13, f14, hyp⟩ := hyp
    refine q_getR 9 4 22 dX9_fits_19 rfl fiX9_40 rfl f12 f14 ?_
    refine ex_iload_n 23 dX9_fits_22 rfl rfl ?_
    obtain ⟨o15, hyp⟩ := hyp
    refine q_callVi [vi x1] 26 dX9_fits_23 rfl cvX9_161 rfl rfl ⟨Nat.le_of_ble_eq_true rfl, Nat.le_of_ble_eq_true rfl⟩ (Nat.le_of_ble_eq_true rfl) o15 hyp (fun y18 h16 k17 hyp => ?_)
    exact ex_iret dX9_fits_26 (Or.inl rfl) ⟨_, rfl, hyp⟩
  · have hyp := hf c19
    clear ht hf
    refine ex_bipush 13 dX9_fits_11 rfl ⟨by decide, by decide⟩ ?_
    exact ex_iret dX9_fits_13 (Or.inl rfl) ⟨_, rfl, hyp⟩
set_option maxRecDepth 4000 in
theorem tX9_nearest {P : Int → PH → Prop} (h0 : PH) (a0 : Nat) (x1 : Int) (hyp : OB h0 9 a0 ∧ ∃ r2 : Nat, h0.2.2 a0 3 = some r2 ∧ OB h0 8 r2 ∧ METi mX8_has [vr r2, vi x1] h0 (fun y7 h5 => h5.1 = h0.1 → (rng y7 ∧ (¬ y7 = 0 → (METv mX9_settle [vr a0] h5 (0, 0) (fun h10 => h10.1 = h5.1 → (∃ r13 : Nat, h10.2.2 a0 4 = some r13 ∧ OB h10 6 r13 ∧ METi mX6_bestFor [vr r13, vi x1] h10 (fun y18 h16 => h16.1 = h10.1 → (P y18 h16)))))) ∧ (y7 = 0 → (P (-101) h5))))) : METi mX9_nearest [vr a0, vi x1] h0 P := by
  refine met_of_ex (by decide +kernel) (Nat.le_of_ble_eq_true rfl) ?_
  show EX mX9_nearest 0 [some (vr a0), some (vi x1)] [] h0 (0, 0) _
  refine ex_aload_n 1 dX9_nearest_0 rfl rfl ?_
  obtain ⟨o1, hyp⟩ := hyp
  obtain ⟨r2, f3, hyp⟩ := hyp
  refine q_getR 9 3 4 dX9_nearest_1 rfl fiX9_33 rfl o1 f3 ?_
  refine ex_iload_n 5 dX9_nearest_4 rfl rfl ?_
  obtain ⟨o4, hyp⟩ := hyp
  refine q_callVi [vi x1] 8 dX9_nearest_5 rfl cvX9_111 rfl rfl ⟨Nat.le_of_ble_eq_true rfl, Nat.le_of_ble_eq_true rfl⟩ (Nat.le_of_ble_eq_true rfl) o4 hyp (fun y7 h5 k6 hyp => ?_)
  obtain ⟨o8, hyp⟩ := hyp
  obtain ⟨ht, hf⟩ := hyp
  refine ex_if_ne 14 11 dX9_nearest_8 (by decide) rfl o8 (fun c19 => ?_) (fun c19 => ?_)
  · have hyp := ht c19
    clear ht hf
    refine ex_aload_n 15 dX9_nearest_14 rfl rfl ?_
    have f9 := OB.of k6 o1
    refine q_callVv [] 18 dX9_nearest_15 rfl cvX9_114 rfl rfl ⟨Nat.le_of_ble_eq_true rfl, Nat.le_of_ble_eq_true rfl⟩ (Nat.le_of_ble_eq_true rfl) f9 hyp (fun h10 k11 hyp => ?_)
    refine ex_aload_n 19 dX9_nearest_18 rfl rfl ?_
    have f12 := OB.of k11 f9
    obtain ⟨r13, f14, hyp⟩ := hyp
    refine q_getR 9 4 22 dX9_nearest_19 rfl fiX9_40 rfl f12 f14 ?_
    refine ex_iload_n 23 dX9_nearest_22 rfl rfl ?_
    obtain ⟨o15, hyp⟩ := hyp
    refine q_callVi [vi x1] 26 dX9_nearest_23 rfl cvX9_165 rfl rfl ⟨Nat.le_of_ble_eq_true rfl, Nat.le_of_ble_eq_true rfl⟩ (Nat.le_of_ble_eq_true rfl) o15 hyp (fun y18 h16 k17 hyp => ?_)
    exact ex_iret dX9_nearest_26 (Or.inl rfl) ⟨_, rfl, hyp⟩
  · have hyp := hf c19
    clear ht hf
    refine ex_bipush 13 dX9_nearest_11 rfl ⟨by decide, by decide⟩ ?_
    exact ex_iret dX9_nearest_13 (Or.inl rfl) ⟨_, rfl, hyp⟩
set_option maxRecDepth 4000 in
theorem tX9_lives {P : Int → PH → Prop} (h0 : PH) (a0 : Nat) (x1 : Int) (hyp : OB h0 9 a0 ∧ METv mX9_settle [vr a0] h0 (0, 0) (fun h2 => h2.1 = h0.1 → (METi mX9_tellLives [vr a0, vi x1] h2 (fun y7 h5 => h5.1 = h2.1 → (P y7 h5))))) : METi mX9_lives [vr a0, vi x1] h0 P := by
  refine met_of_ex (by decide +kernel) (Nat.le_of_ble_eq_true rfl) ?_
  show EX mX9_lives 0 [some (vr a0), some (vi x1)] [] h0 (0, 0) _
  refine ex_aload_n 1 dX9_lives_0 rfl rfl ?_
  obtain ⟨o1, hyp⟩ := hyp
  refine q_callVv [] 4 dX9_lives_1 rfl cvX9_114 rfl rfl ⟨Nat.le_of_ble_eq_true rfl, Nat.le_of_ble_eq_true rfl⟩ (Nat.le_of_ble_eq_true rfl) o1 hyp (fun h2 k3 hyp => ?_)
  refine ex_aload_n 5 dX9_lives_4 rfl rfl ?_
  refine ex_iload_n 6 dX9_lives_5 rfl rfl ?_
  have f4 := OB.of k3 o1
  refine q_callVi [vi x1] 9 dX9_lives_6 rfl cvX9_168 rfl rfl ⟨Nat.le_of_ble_eq_true rfl, Nat.le_of_ble_eq_true rfl⟩ (Nat.le_of_ble_eq_true rfl) f4 hyp (fun y7 h5 k6 hyp => ?_)
  exact ex_iret dX9_lives_9 (Or.inl rfl) ⟨_, rfl, hyp⟩
set_option maxRecDepth 4000 in
theorem tX9_life {P : Int → PH → Prop} (h0 : PH) (a0 : Nat) (x1 : Int) (x2 : Int) (hyp : OB h0 9 a0 ∧ METv mX9_settle [vr a0] h0 (0, 0) (fun h2 => h2.1 = h0.1 → (∃ r5 : Nat, h2.2.2 a0 6 = some r5 ∧ OB h2 2 r5 ∧ METi mX2_has [vr r5, vi x1] h2 (fun y10 h8 => h8.1 = h2.1 → (rng y10 ∧ (y10 = 0 → (P (-101) h8)) ∧ (¬ y10 = 0 → (∃ r13 : Nat, h8.2.2 a0 6 = some r13 ∧ OB h8 2 r13 ∧ ∃ r16 : Nat, h8.2.2 r13 0 = some r16 ∧ AI h8 22 r16 x1 ∧ ∃ r19 : Nat, h8.2.2 r16 (x1).toNat = some r19 ∧ METi mX9_tellLife [vr r19, vi x2] h8 (fun y23 h21 => h21.1 = h8.1 → (P y23 h21))))))))) : METi mX9_life [vr a0, vi x1, vi x2] h0 P := by
  refine met_of_ex (by decide +kernel) (Nat.le_of_ble_eq_true rfl) ?_
  show EX mX9_life 0 [some (vr a0), some (vi x1), some (vi x2)] [] h0 (0, 0) _
  refine ex_aload_n 1 dX9_life_0 rfl rfl ?_
  obtain ⟨o1, hyp⟩ := hyp
  refine q_callVv [] 4 dX9_life_1 rfl cvX9_114 rfl rfl ⟨Nat.le_of_ble_eq_true rfl, Nat.le_of_ble_eq_true rfl⟩ (Nat.le_of_ble_eq_true rfl) o1 hyp (fun h2 k3 hyp => ?_)
  refine ex_aload_n 5 dX9_life_4 rfl rfl ?_
  have f4 := OB.of k3 o1
  obtain ⟨r5, f6, hyp⟩ := hyp
  refine q_getR 9 6 8 dX9_life_5 rfl fiX9_54 rfl f4 f6 ?_
  refine ex_iload_n 9 dX9_life_8 rfl rfl ?_
  obtain ⟨o7, hyp⟩ := hyp
  refine q_callVi [vi x1] 12 dX9_life_9 rfl cvX9_171 rfl rfl ⟨Nat.le_of_ble_eq_true rfl, Nat.le_of_ble_eq_true rfl⟩ (Nat.le_of_ble_eq_true rfl) o7 hyp (fun y10 h8 k9 hyp => ?_)
  obtain ⟨o11, hyp⟩ := hyp
  obtain ⟨ht, hf⟩ := hyp
  refine ex_if_eq 31 15 dX9_life_12 (by decide) rfl o11 (fun c24 => ?_) (fun c24 => ?_)
  · have hyp := ht c24
    clear ht hf
    refine ex_bipush 33 dX9_life_31 rfl ⟨by decide, by decide⟩ ?_
    exact ex_iret dX9_life_33 (Or.inl rfl) ⟨_, rfl, hyp⟩
  · have hyp := hf c24
    clear ht hf
    refine ex_aload_n 16 dX9_life_15 rfl rfl ?_
    have f12 := OB.of k9 f4
    obtain ⟨r13, f14, hyp⟩ := hyp
    refine q_getR 9 6 19 dX9_life_16 rfl fiX9_54 rfl f12 f14 ?_
    obtain ⟨o15, hyp⟩ := hyp
    obtain ⟨r16, f17, hyp⟩ := hyp
    refine q_getR 2 0 22 dX9_life_19 rfl fiX9_172 rfl o15 f17 ?_
    refine ex_iload_n 23 dX9_life_22 rfl rfl ?_
    obtain ⟨o18, hyp⟩ := hyp
    obtain ⟨r19, f20, hyp⟩ := hyp
    refine ex_aald 22 24 dX9_life_23 rfl (by decide) o18 f20 ?_
    refine ex_iload_n 25 dX9_life_24 rfl rfl ?_
    refine q_callSi [vr r19, vi x2] 28 dX9_life_25 rfl cvX9_176 rfl rfl ⟨Nat.le_of_ble_eq_true rfl, Nat.le_of_ble_eq_true rfl⟩ (Nat.le_of_ble_eq_true rfl) hyp (fun y23 h21 k22 hyp => ?_)
    refine ex_goto 33 dX9_life_28 (by decide) ?_
    exact ex_iret dX9_life_33 (Or.inl rfl) ⟨_, rfl, hyp⟩
set_option maxRecDepth 4000 in
theorem tX9_wedding {P : Int → PH → Prop} (h0 : PH) (a0 : Nat) (x1 : Int) (x2 : Int) (hyp : OB h0 9 a0 ∧ METv mX9_settle [vr a0] h0 (0, 0) (fun h2 => h2.1 = h0.1 → (∃ r5 : Nat, h2.2.2 a0 6 = some r5 ∧ OB h2 2 r5 ∧ METi mX2_has [vr r5, vi x1] h2 (fun y10 h8 => h8.1 = h2.1 → (rng y10 ∧ (¬ y10 = 0 → (∃ r13 : Nat, h8.2.2 a0 6 = some r13 ∧ OB h8 2 r13 ∧ ∃ r16 : Nat, h8.2.2 r13 0 = some r16 ∧ AI h8 22 r16 x1 ∧ ∃ r19 : Nat, h8.2.2 r16 (x1).toNat = some r19 ∧ rng x2 ∧ (x2 < 0 → (P (-101) h8)) ∧ (0 ≤ x2 → (OB h8 1 r19 ∧ METi mX1_weddings [vr r19] h8 (fun y25 h23 => h23.1 = h8.1 → (rng y25 ∧ (x2 < y25 → (∃ r28 : Nat, h23.2.2 r19 0 = some r28 ∧ AI h23 20 r28 ((h23.2.1 r19 2) + x2) ∧ P (h23.2.1 r28 ((h23.2.1 r19 2) + x2).toNat) h23)) ∧ (y25 ≤ x2 → (P (-101) h23)))))))) ∧ (y10 = 0 → (P (-101) h8))))))) : METi mX9_wedding [vr a0, vi x1, vi x2] h0 P := by
  refine met_of_ex (by decide +kernel) (Nat.le_of_ble_eq_true rfl) ?_
  show EX mX9_wedding 0 [some (vr a0), some (vi x1), some (vi x2), none] [] h0 (0, 0) _
  refine ex_aload_n 1 dX9_wedding_0 rfl rfl ?_
  obtain ⟨o1, hyp⟩ := hyp
  refine q_callVv [] 4 dX9_wedding_1 rfl cvX9_114 rfl rfl ⟨Nat.le_of_ble_eq_true rfl, Nat.le_of_ble_eq_true rfl⟩ (Nat.le_of_ble_eq_true rfl) o1 hyp (fun h2 k3 hyp => ?_)
  refine ex_aload_n 5 dX9_wedding_4 rfl rfl ?_
  have f4 := OB.of k3 o1
  obtain ⟨r5, f6, hyp⟩ := hyp
  refine q_getR 9 6 8 dX9_wedding_5 rfl fiX9_54 rfl f4 f6 ?_
  refine ex_iload_n 9 dX9_wedding_8 rfl rfl ?_
  obtain ⟨o7, hyp⟩ := hyp
  refine q_callVi [vi x1] 12 dX9_wedding_9 rfl cvX9_171 rfl rfl ⟨Nat.le_of_ble_eq_true rfl, Nat.le_of_ble_eq_true rfl⟩ (Nat.le_of_ble_eq_true rfl) o7 hyp (fun y10 h8 k9 hyp => ?_)
  obtain ⟨o11, hyp⟩ := hyp
  obtain ⟨ht, hf⟩ := hyp
  refine ex_if_ne 18 15 dX9_wedding_12 (by decide) rfl o11 (fun c33 => ?_) (fun c33 => ?_)
  · have hyp := ht c33
    clear ht hf
    refine ex_aload_n 19 dX9_wedding_18 rfl rfl ?_
    have f12 := OB.of k9 f4
    obtain ⟨r13, f14, hyp⟩ := hyp
    refine q_getR 9 6 22 dX9_wedding_19 rfl fiX9_54 rfl f12 f14 ?_
    obtain ⟨o15, hyp⟩ := hyp
    obtain ⟨r16, f17, hyp⟩ := hyp
    refine q_getR 2 0 25 dX9_wedding_22 rfl fiX9_172 rfl o15 f17 ?_
    refine ex_iload_n 26 dX9_wedding_25 rfl rfl ?_
    obtain ⟨o18, hyp⟩ := hyp
    obtain ⟨r19, f20, hyp⟩ := hyp
    refine ex_aald 22 27 dX9_wedding_26 rfl (by decide) o18 f20 ?_
    refine q_astore_n [some (vr a0), some (vi x1), some (vi x2), some (vr r19)] 28 dX9_wedding_27 rfl (Nat.le_of_ble_eq_true rfl) rfl rfl ?_
    refine ex_iload_n 29 dX9_wedding_28 rfl rfl ?_
    obtain ⟨o21, hyp⟩ := hyp
    obtain ⟨ht, hf⟩ := hyp
    refine ex_if_lt 40 32 dX9_wedding_29 (by decide) rfl o21 (fun c32 => ?_) (fun c32 => ?_)
    · have hyp := ht c32
      clear ht hf
      refine ex_bipush 42 dX9_wedding_40 rfl ⟨by decide, by decide⟩ ?_
      refine ex_goto 56 dX9_wedding_42 (by decide) ?_
      exact ex_iret dX9_wedding_56 (Or.inl rfl) ⟨_, rfl, hyp⟩
    · have hyp := hf c32
      clear ht hf
      refine ex_iload_n 33 dX9_wedding_32 rfl rfl ?_
      refine ex_aload_n 34 dX9_wedding_33 rfl rfl ?_
      obtain ⟨o22, hyp⟩ := hyp
      refine q_callVi [] 37 dX9_wedding_34 rfl cvX9_180 rfl rfl ⟨Nat.le_of_ble_eq_true rfl, Nat.le_of_ble_eq_true rfl⟩ (Nat.le_of_ble_eq_true rfl) o22 hyp (fun y25 h23 k24 hyp => ?_)
      obtain ⟨o26, hyp⟩ := hyp
      obtain ⟨ht, hf⟩ := hyp
      refine ex_icmp_lt 45 40 dX9_wedding_37 (by decide) rfl o21 o26 (fun c31 => ?_) (fun c31 => ?_)
      · have hyp := ht c31
        clear ht hf
        refine ex_aload_n 46 dX9_wedding_45 rfl rfl ?_
        have f27 := OB.of k24 o22
        obtain ⟨r28, f29, hyp⟩ := hyp
        refine q_getR 1 0 49 dX9_wedding_46 rfl fiX9_185 rfl f27 f29 ?_
        refine ex_aload_n 50 dX9_wedding_49 rfl rfl ?_
        refine q_getI 1 2 53 dX9_wedding_50 rfl fiX9_188 (Or.inl rfl) f27 ?_
        refine ex_iload_n 54 dX9_wedding_53 rfl rfl ?_
        refine ex_iadd 55 dX9_wedding_54 rfl ?_
        obtain ⟨o30, hyp⟩ := hyp
        refine ex_iald 56 dX9_wedding_55 rfl o30 ?_
        exact ex_iret dX9_wedding_56 (Or.inl rfl) ⟨_, rfl, hyp⟩
      · have hyp := hf c31
        clear ht hf
        refine ex_bipush 42 dX9_wedding_40 rfl ⟨by decide, by decide⟩ ?_
        refine ex_goto 56 dX9_wedding_42 (by decide) ?_
        exact ex_iret dX9_wedding_56 (Or.inl rfl) ⟨_, rfl, hyp⟩
  · have hyp := hf c33
    clear ht hf
    refine ex_bipush 17 dX9_wedding_15 rfl ⟨by decide, by decide⟩ ?_
    exact ex_iret dX9_wedding_17 (Or.inl rfl) ⟨_, rfl, hyp⟩
set_option maxRecDepth 4000 in
theorem tX9_worth {P : Int → PH → Prop} (h0 : PH) (a0 : Nat) (x1 : Int) (x2 : Int) (hyp : OB h0 9 a0 ∧ ∃ r2 : Nat, h0.2.2 a0 3 = some r2 ∧ OB h0 8 r2 ∧ METi mX8_has [vr r2, vi x1] h0 (fun y7 h5 => h5.1 = h0.1 → (rng y7 ∧ (y7 = 0 → (P (-101) h5)) ∧ (¬ y7 = 0 → (∃ r10 : Nat, h5.2.2 a0 3 = some r10 ∧ OB h5 8 r10 ∧ ∃ r13 : Nat, h5.2.2 r10 0 = some r13 ∧ AI h5 21 r13 x1 ∧ ∃ r16 : Nat, h5.2.2 r13 (x1).toNat = some r16 ∧ OB h5 0 r16 ∧ rng (h5.2.1 r16 4) ∧ (h5.2.1 r16 4 = 1 → (METv mX9_settle [vr a0] h5 (0, 0) (fun h20 => h20.1 = h5.1 → (∃ r23 : Nat, h20.2.2 a0 6 = some r23 ∧ OB h20 2 r23 ∧ METi mX2_has [vr r23, vi x2] h20 (fun y28 h26 => h26.1 = h20.1 → (rng y28 ∧ (y28 = 0 → (P (-101) h26)) ∧ (¬ y28 = 0 → (∃ r31 : Nat, h26.2.2 a0 6 = some r31 ∧ OB h26 2 r31 ∧ rng x2 ∧ rng (h26.2.1 r31 3) ∧ (x2 < h26.2.1 r31 3 → (∃ r36 : Nat, h26.2.2 r31 0 = some r36 ∧ AI h26 22 r36 x2 ∧ ∃ r39 : Nat, h26.2.2 r36 (x2).toNat = some r39 ∧ ∃ r41 : Nat, h26.2.2 a0 4 = some r41 ∧ OB h26 1 r39 ∧ ∃ r44 : Nat, h26.2.2 r39 0 = some r44 ∧ OB h26 6 r41 ∧ METi mX6_fitFirst [vr r41, vi x1, vr r44, vi (h26.2.1 r39 2)] h26 (fun y49 h47 => h47.1 = h26.1 → (rng y49 ∧ (y49 = 0 → (P (-1) h47)) ∧ (¬ y49 = 0 → (∃ r52 : Nat, h47.2.2 a0 4 = some r52 ∧ ∃ r55 : Nat, h47.2.2 r39 0 = some r55 ∧ OB h47 6 r52 ∧ METi mX6_meanWorth [vr r52, vi x1, vr r55, vi (h47.2.1 r39 2)] h47 (fun y60 h58 => h58.1 = h47.1 → (P y60 h58)))))))) ∧ (h26.2.1 r31 3 ≤ x2 → (P (-101) h26)))))))))) ∧ (¬ h5.2.1 r16 4 = 1 → (P (-101) h5))))))) : METi mX9_worth [vr a0, vi x1, vi x2] h0 P := by
  refine met_of_ex (by decide +kernel) (Nat.le_of_ble_eq_true rfl) ?_
  show EX mX9_worth 0 [some (vr a0), some (vi x1), some (vi x2), none] [] h0 (0, 0) _
  refine ex_aload_n 1 dX9_worth_0 rfl rfl ?_
  obtain ⟨o1, hyp⟩ := hyp
  obtain ⟨r2, f3, hyp⟩ := hyp
  refine q_getR 9 3 4 dX9_worth_1 rfl fiX9_33 rfl o1 f3 ?_
  refine ex_iload_n 5 dX9_worth_4 rfl rfl ?_
  obtain ⟨o4, hyp⟩ := hyp
  refine q_callVi [vi x1] 8 dX9_worth_5 rfl cvX9_111 rfl rfl ⟨Nat.le_of_ble_eq_true rfl, Nat.le_of_ble_eq_true rfl⟩ (Nat.le_of_ble_eq_true rfl) o4 hyp (fun y7 h5 k6 hyp => ?_)
  obtain ⟨o8, hyp⟩ := hyp
  obtain ⟨ht, hf⟩ := hyp
  refine ex_if_eq 27 11 dX9_worth_8 (by decide) rfl o8 (fun c65 => ?_) (fun c65 => ?_)
  · have hyp := ht c65
    clear ht hf
    refine ex_bipush 29 dX9_worth_27 rfl ⟨by decide, by decide⟩ ?_
    exact ex_iret dX9_worth_29 (Or.inl rfl) ⟨_, rfl, hyp⟩
  · have hyp := hf c65
    clear ht hf
    refine ex_aload_n 12 dX9_worth_11 rfl rfl ?_
    have f9 := OB.of k6 o1
    obtain ⟨r10, f11, hyp⟩ := hyp
    refine q_getR 9 3 15 dX9_worth_12 rfl fiX9_33 rfl f9 f11 ?_
    obtain ⟨o12, hyp⟩ := hyp
    obtain ⟨r13, f14, hyp⟩ := hyp
    refine q_getR 8 0 18 dX9_worth_15 rfl fiX9_121 rfl o12 f14 ?_
    refine ex_iload_n 19 dX9_worth_18 rfl rfl ?_
    obtain ⟨o15, hyp⟩ := hyp
    obtain ⟨r16, f17, hyp⟩ := hyp
    refine ex_aald 21 20 dX9_worth_19 rfl (by decide) o15 f17 ?_
    obtain ⟨o18, hyp⟩ := hyp
    refine q_getI 0 4 23 dX9_worth_20 rfl fiX9_133 (Or.inl rfl) o18 ?_
    refine ex_iconst 24 dX9_worth_23 rfl ?_
    obtain ⟨o19, hyp⟩ := hyp
    obtain ⟨ht, hf⟩ := hyp
    refine ex_icmp_eq 30 27 dX9_worth_24 (by decide) rfl o19 ⟨by decide, by decide⟩ (fun c64 => ?_) (fun c64 => ?_)
    · have hyp := ht c64
      clear ht hf
      refine ex_aload_n 31 dX9_worth_30 rfl rfl ?_
      refine q_callVv [] 34 dX9_worth_31 rfl cvX9_114 rfl rfl ⟨Nat.le_of_ble_eq_true rfl, Nat.le_of_ble_eq_true rfl⟩ (Nat.le_of_ble_eq_true rfl) f9 hyp (fun h20 k21 hyp => ?_)
      refine ex_aload_n 35 dX9_worth_34 rfl rfl ?_
      have f22 := OB.of k21 f9
      obtain ⟨r23, f24, hyp⟩ := hyp
      refine q_getR 9 6 38 dX9_worth_35 rfl fiX9_54 rfl f22 f24 ?_
      refine ex_iload_n 39 dX9_worth_38 rfl rfl ?_
      obtain ⟨o25, hyp⟩ := hyp
      refine q_callVi [vi x2] 42 dX9_worth_39 rfl cvX9_171 rfl rfl ⟨Nat.le_of_ble_eq_true rfl, Nat.le_of_ble_eq_true rfl⟩ (Nat.le_of_ble_eq_true rfl) o25 hyp (fun y28 h26 k27 hyp => ?_)
      obtain ⟨o29, hyp⟩ := hyp
      obtain ⟨ht, hf⟩ := hyp
      refine ex_if_eq 56 45 dX9_worth_42 (by decide) rfl o29 (fun c63 => ?_) (fun c63 => ?_)
      · have hyp := ht c63
        clear ht hf
        refine ex_bipush 58 dX9_worth_56 rfl ⟨by decide, by decide⟩ ?_
        exact ex_iret dX9_worth_58 (Or.inl rfl) ⟨_, rfl, hyp⟩
      · have hyp := hf c63
        clear ht hf
        refine ex_iload_n 46 dX9_worth_45 rfl rfl ?_
        refine ex_aload_n 47 dX9_worth_46 rfl rfl ?_
        have f30 := OB.of k27 f22
        obtain ⟨r31, f32, hyp⟩ := hyp
        refine q_getR 9 6 50 dX9_worth_47 rfl fiX9_54 rfl f30 f32 ?_
        obtain ⟨o33, hyp⟩ := hyp
        refine q_getI 2 3 53 dX9_worth_50 rfl fiX9_191 (Or.inl rfl) o33 ?_
        obtain ⟨o34, hyp⟩ := hyp
        obtain ⟨o35, hyp⟩ := hyp
        obtain ⟨ht, hf⟩ := hyp
        refine ex_icmp_lt 59 56 dX9_worth_53 (by decide) rfl o34 o35 (fun c62 => ?_) (fun c62 => ?_)
        · have hyp := ht c62
          clear ht hf
          refine ex_aload_n 60 dX9_worth_59 rfl rfl ?_
          refine q_getR 9 6 63 dX9_worth_60 rfl fiX9_54 rfl f30 f32 ?_
          obtain ⟨r36, f37, hyp⟩ := hyp
          refine q_getR 2 0 66 dX9_worth_63 rfl fiX9_172 rfl o33 f37 ?_
          refine ex_iload_n 67 dX9_worth_66 rfl rfl ?_
          obtain ⟨o38, hyp⟩ := hyp
          obtain ⟨r39, f40, hyp⟩ := hyp
          refine ex_aald 22 68 dX9_worth_67 rfl (by decide) o38 f40 ?_
          refine q_astore_n [some (vr a0), some (vi x1), some (vi x2), some (vr r39)] 69 dX9_worth_68 rfl (Nat.le_of_ble_eq_true rfl) rfl rfl ?_
          refine ex_aload_n 70 dX9_worth_69 rfl rfl ?_
          obtain ⟨r41, f42, hyp⟩ := hyp
          refine q_getR 9 4 73 dX9_worth_70 rfl fiX9_40 rfl f30 f42 ?_
          refine ex_iload_n 74 dX9_worth_73 rfl rfl ?_
          refine ex_aload_n 75 dX9_worth_74 rfl rfl ?_
          obtain ⟨o43, hyp⟩ := hyp
          obtain ⟨r44, f45, hyp⟩ := hyp
          refine q_getR 1 0 78 dX9_worth_75 rfl fiX9_185 rfl o43 f45 ?_
          refine ex_aload_n 79 dX9_worth_78 rfl rfl ?_
          refine q_getI 1 2 82 dX9_worth_79 rfl fiX9_188 (Or.inl rfl) o43 ?_
          obtain ⟨o46, hyp⟩ := hyp
          refine q_callVi [vi x1, vr r44, vi (h26.2.1 r39 2)] 85 dX9_worth_82 rfl cvX9_194 rfl rfl ⟨Nat.le_of_ble_eq_true rfl, Nat.le_of_ble_eq_true rfl⟩ (Nat.le_of_ble_eq_true rfl) o46 hyp (fun y49 h47 k48 hyp => ?_)
          obtain ⟨o50, hyp⟩ := hyp
          obtain ⟨ht, hf⟩ := hyp
          refine ex_if_eq 107 88 dX9_worth_85 (by decide) rfl o50 (fun c61 => ?_) (fun c61 => ?_)
          · have hyp := ht c61
            clear ht hf
            refine ex_iconst 108 dX9_worth_107 rfl ?_
            exact ex_iret dX9_worth_108 (Or.inl rfl) ⟨_, rfl, hyp⟩
          · have hyp := hf c61
            clear ht hf
            refine ex_aload_n 89 dX9_worth_88 rfl rfl ?_
            have f51 := OB.of k48 f30
            obtain ⟨r52, f53, hyp⟩ := hyp
            refine q_getR 9 4 92 dX9_worth_89 rfl fiX9_40 rfl f51 f53 ?_
            refine ex_iload_n 93 dX9_worth_92 rfl rfl ?_
            refine ex_aload_n 94 dX9_worth_93 rfl rfl ?_
            have f54 := OB.of k48 o43
            obtain ⟨r55, f56, hyp⟩ := hyp
            refine q_getR 1 0 97 dX9_worth_94 rfl fiX9_185 rfl f54 f56 ?_
            refine ex_aload_n 98 dX9_worth_97 rfl rfl ?_
            refine q_getI 1 2 101 dX9_worth_98 rfl fiX9_188 (Or.inl rfl) f54 ?_
            obtain ⟨o57, hyp⟩ := hyp
            refine q_callVi [vi x1, vr r55, vi (h47.2.1 r39 2)] 104 dX9_worth_101 rfl cvX9_198 rfl rfl ⟨Nat.le_of_ble_eq_true rfl, Nat.le_of_ble_eq_true rfl⟩ (Nat.le_of_ble_eq_true rfl) o57 hyp (fun y60 h58 k59 hyp => ?_)
            refine ex_goto 108 dX9_worth_104 (by decide) ?_
            exact ex_iret dX9_worth_108 (Or.inl rfl) ⟨_, rfl, hyp⟩
        · have hyp := hf c62
          clear ht hf
          refine ex_bipush 58 dX9_worth_56 rfl ⟨by decide, by decide⟩ ?_
          exact ex_iret dX9_worth_58 (Or.inl rfl) ⟨_, rfl, hyp⟩
    · have hyp := hf c64
      clear ht hf
      refine ex_bipush 29 dX9_worth_27 rfl ⟨by decide, by decide⟩ ?_
      exact ex_iret dX9_worth_29 (Or.inl rfl) ⟨_, rfl, hyp⟩
set_option maxRecDepth 4000 in
theorem tX9_mate {P : Int → PH → Prop} (h0 : PH) (a0 : Nat) (x1 : Int) (hyp : OB h0 9 a0 ∧ ∃ r2 : Nat, h0.2.2 a0 3 = some r2 ∧ OB h0 8 r2 ∧ METi mX8_has [vr r2, vi x1] h0 (fun y7 h5 => h5.1 = h0.1 → (rng y7 ∧ (y7 = 0 → (P (-101) h5)) ∧ (¬ y7 = 0 → (∃ r10 : Nat, h5.2.2 a0 3 = some r10 ∧ OB h5 8 r10 ∧ ∃ r13 : Nat, h5.2.2 r10 0 = some r13 ∧ AI h5 21 r13 x1 ∧ ∃ r16 : Nat, h5.2.2 r13 (x1).toNat = some r16 ∧ OB h5 0 r16 ∧ rng (h5.2.1 r16 4) ∧ (¬ h5.2.1 r16 4 = 1 → (METv mX9_settle [vr a0] h5 (0, 0) (fun h20 => h20.1 = h5.1 → (∃ r23 : Nat, h20.2.2 a0 5 = some r23 ∧ OB h20 3 r23 ∧ ∃ r26 : Nat, h20.2.2 r23 0 = some r26 ∧ AI h20 20 r26 x1 ∧ P (h20.2.1 r26 (x1).toNat) h20)))) ∧ (h5.2.1 r16 4 = 1 → (P (-101) h5))))))) : METi mX9_mate [vr a0, vi x1] h0 P := by
  refine met_of_ex (by decide +kernel) (Nat.le_of_ble_eq_true rfl) ?_
  show EX mX9_mate 0 [some (vr a0), some (vi x1)] [] h0 (0, 0) _
  refine ex_aload_n 1 dX9_mate_0 rfl rfl ?_
  obtain ⟨o1, hyp⟩ := hyp
  obtain ⟨r2, f3, hyp⟩ := hyp
  refine q_getR 9 3 4 dX9_mate_1 rfl fiX9_33 rfl o1 f3 ?_
  refine ex_iload_n 5 dX9_mate_4 rfl rfl ?_
  obtain ⟨o4, hyp⟩ := hyp
  refine q_callVi [vi x1] 8 dX9_mate_5 rfl cvX9_111 rfl rfl ⟨Nat.le_of_ble_eq_true rfl, Nat.le_of_ble_eq_true rfl⟩ (Nat.le_of_ble_eq_true rfl) o4 hyp (fun y7 h5 k6 hyp => ?_)
  obtain ⟨o8, hyp⟩ := hyp
  obtain ⟨ht, hf⟩ := hyp
  refine ex_if_eq 27 11 dX9_mate_8 (by decide) rfl o8 (fun c30 => ?_) (fun c30 => ?_)
  · have hyp := ht c30
    clear ht hf
    refine ex_bipush 29 dX9_mate_27 rfl ⟨by decide, by decide⟩ ?_
    exact ex_iret dX9_mate_29 (Or.inl rfl) ⟨_, rfl, hyp⟩
  · have hyp := hf c30
    clear ht hf
    refine ex_aload_n 12 dX9_mate_11 rfl rfl ?_
    have f9 := OB.of k6 o1
    obtain ⟨r10, f11, hyp⟩ := hyp
    refine q_getR 9 3 15 dX9_mate_12 rfl fiX9_33 rfl f9 f11 ?_
    obtain ⟨o12, hyp⟩ := hyp
    obtain ⟨r13, f14, hyp⟩ := hyp
    refine q_getR 8 0 18 dX9_mate_15 rfl fiX9_121 rfl o12 f14 ?_
    refine ex_iload_n 19 dX9_mate_18 rfl rfl ?_
    obtain ⟨o15, hyp⟩ := hyp
    obtain ⟨r16, f17, hyp⟩ := hyp
    refine ex_aald 21 20 dX9_mate_19 rfl (by decide) o15 f17 ?_
    obtain ⟨o18, hyp⟩ := hyp
    refine q_getI 0 4 23 dX9_mate_20 rfl fiX9_133 (Or.inl rfl) o18 ?_
    refine ex_iconst 24 dX9_mate_23 rfl ?_
    obtain ⟨o19, hyp⟩ := hyp
    obtain ⟨ht, hf⟩ := hyp
    refine ex_icmp_ne 30 27 dX9_mate_24 (by decide) rfl o19 ⟨by decide, by decide⟩ (fun c29 => ?_) (fun c29 => ?_)
    · have hyp := ht c29
      clear ht hf
      refine ex_aload_n 31 dX9_mate_30 rfl rfl ?_
      refine q_callVv [] 34 dX9_mate_31 rfl cvX9_114 rfl rfl ⟨Nat.le_of_ble_eq_true rfl, Nat.le_of_ble_eq_true rfl⟩ (Nat.le_of_ble_eq_true rfl) f9 hyp (fun h20 k21 hyp => ?_)
      refine ex_aload_n 35 dX9_mate_34 rfl rfl ?_
      have f22 := OB.of k21 f9
      obtain ⟨r23, f24, hyp⟩ := hyp
      refine q_getR 9 5 38 dX9_mate_35 rfl fiX9_47 rfl f22 f24 ?_
      obtain ⟨o25, hyp⟩ := hyp
      obtain ⟨r26, f27, hyp⟩ := hyp
      refine q_getR 3 0 41 dX9_mate_38 rfl fiX9_202 rfl o25 f27 ?_
      refine ex_iload_n 42 dX9_mate_41 rfl rfl ?_
      obtain ⟨o28, hyp⟩ := hyp
      refine ex_iald 43 dX9_mate_42 rfl o28 ?_
      exact ex_iret dX9_mate_43 (Or.inl rfl) ⟨_, rfl, hyp⟩
    · have hyp := hf c29
      clear ht hf
      refine ex_bipush 29 dX9_mate_27 rfl ⟨by decide, by decide⟩ ?_
      exact ex_iret dX9_mate_29 (Or.inl rfl) ⟨_, rfl, hyp⟩
set_option maxRecDepth 4000 in
theorem tX9_count {P : Int → PH → Prop} (h0 : PH) (a0 : Nat) (x1 : Int) (hyp : rng x1 ∧ (x1 < 0 ∨ 7 < x1 → (P (-102) h0)) ∧ (x1 = 0 → (OB h0 9 a0 ∧ ∃ r3 : Nat, h0.2.2 a0 3 = some r3 ∧ OB h0 8 r3 ∧ P (h0.2.1 r3 2) h0)) ∧ (x1 = 1 → (OB h0 9 a0 ∧ ∃ r7 : Nat, h0.2.2 a0 3 = some r7 ∧ OB h0 8 r7 ∧ ∃ r10 : Nat, h0.2.2 r7 1 = some r10 ∧ AI h0 20 r10 0 ∧ P (h0.2.1 r10 (0 : Int).toNat) h0)) ∧ (x1 = 2 → (OB h0 9 a0 ∧ ∃ r14 : Nat, h0.2.2 a0 3 = some r14 ∧ OB h0 8 r14 ∧ ∃ r17 : Nat, h0.2.2 r14 1 = some r17 ∧ AI h0 20 r17 1 ∧ P (h0.2.1 r17 (1 : Int).toNat) h0)) ∧ (x1 = 3 → (OB h0 9 a0 ∧ ∃ r21 : Nat, h0.2.2 a0 3 = some r21 ∧ OB h0 8 r21 ∧ ∃ r24 : Nat, h0.2.2 r21 1 = some r24 ∧ AI h0 20 r24 2 ∧ P (h0.2.1 r24 (2 : Int).toNat) h0)) ∧ (x1 = 4 → (OB h0 9 a0 ∧ ∃ r28 : Nat, h0.2.2 a0 0 = some r28 ∧ OB h0 5 r28 ∧ P (h0.2.1 r28 1) h0)) ∧ (x1 = 5 → (OB h0 9 a0 ∧ P (h0.2.1 a0 10) h0)) ∧ (x1 = 6 → (OB h0 9 a0 ∧ ∃ r33 : Nat, h0.2.2 a0 3 = some r33 ∧ OB h0 8 r33 ∧ P (h0.2.1 r33 3) h0)) ∧ (x1 = 7 → (OB h0 9 a0 ∧ ∃ r37 : Nat, h0.2.2 a0 3 = some r37 ∧ OB h0 8 r37 ∧ METi mX8_countParted [vr r37] h0 (fun y42 h40 => h40.1 = h0.1 → (P y42 h40))))) : METi mX9_count [vr a0, vi x1] h0 P := by
  refine met_of_ex (by decide +kernel) (Nat.le_of_ble_eq_true rfl) ?_
  show EX mX9_count 0 [some (vr a0), some (vi x1)] [] h0 (0, 0) _
  refine ex_iload_n 1 dX9_count_0 rfl rfl ?_
  obtain ⟨o1, hyp⟩ := hyp
  obtain ⟨hd, hv0, hv1, hv2, hv3, hv4, hv5, hv6, hv7⟩ := hyp
  rcases (show (x1 < 0 ∨ 7 < x1) ∨ x1 = 0 ∨ x1 = 1 ∨ x1 = 2 ∨ x1 = 3 ∨ x1 = 4 ∨ x1 = 5 ∨ x1 = 6 ∨ x1 = 7 by omega) with c | c | c | c | c | c | c | c | c
  · refine ex_tswOut 115 dX9_count_1 o1 c (by decide) ?_
    have hyp := hd c
    refine ex_bipush 117 dX9_count_115 rfl ⟨by decide, by decide⟩ ?_
    exact ex_iret dX9_count_117 (Or.inl rfl) ⟨_, rfl, hyp⟩
  · refine ex_tswIn 0 48 dX9_count_1 c ⟨by decide, by decide⟩ (by decide) (by decide) rfl (by decide) ?_
    have hyp := hv0 c
    refine ex_aload_n 49 dX9_count_48 rfl rfl ?_
    obtain ⟨o2, hyp⟩ := hyp
    obtain ⟨r3, f4, hyp⟩ := hyp
    refine q_getR 9 3 52 dX9_count_49 rfl fiX9_33 rfl o2 f4 ?_
    obtain ⟨o5, hyp⟩ := hyp
    refine q_getI 8 2 55 dX9_count_52 rfl fiX9_142 (Or.inl rfl) o5 ?_
    exact ex_iret dX9_count_55 (Or.inl rfl) ⟨_, rfl, hyp⟩
  · refine ex_tswIn 1 56 dX9_count_1 c ⟨by decide, by decide⟩ (by decide) (by decide) rfl (by decide) ?_
    have hyp := hv1 c
    refine ex_aload_n 57 dX9_count_56 rfl rfl ?_
    obtain ⟨o6, hyp⟩ := hyp
    obtain ⟨r7, f8, hyp⟩ := hyp
    refine q_getR 9 3 60 dX9_count_57 rfl fiX9_33 rfl o6 f8 ?_
    obtain ⟨o9, hyp⟩ := hyp
    obtain ⟨r10, f11, hyp⟩ := hyp
    refine q_getR 8 1 63 dX9_count_60 rfl fiX9_205 rfl o9 f11 ?_
    refine ex_iconst 64 dX9_count_63 rfl ?_
    obtain ⟨o12, hyp⟩ := hyp
    refine ex_iald 65 dX9_count_64 rfl o12 ?_
    exact ex_iret dX9_count_65 (Or.inl rfl) ⟨_, rfl, hyp⟩
  · refine ex_tswIn 2 66 dX9_count_1 c ⟨by decide, by decide⟩ (by decide) (by decide) rfl (by decide) ?_
    have hyp := hv2 c
    refine ex_aload_n 67 dX9_count_66 rfl rfl ?_
    obtain ⟨o13, hyp⟩ := hyp
    obtain ⟨r14, f15, hyp⟩ := hyp
    refine q_getR 9 3 70 dX9_count_67 rfl fiX9_33 rfl o13 f15 ?_
    obtain ⟨o16, hyp⟩ := hyp
    obtain ⟨r17, f18, hyp⟩ := hyp
    refine q_getR 8 1 73 dX9_count_70 rfl fiX9_205 rfl o16 f18 ?_
    refine ex_iconst 74 dX9_count_73 rfl ?_
    obtain ⟨o19, hyp⟩ := hyp
    refine ex_iald 75 dX9_count_74 rfl o19 ?_
    exact ex_iret dX9_count_75 (Or.inl rfl) ⟨_, rfl, hyp⟩
  · refine ex_tswIn 3 76 dX9_count_1 c ⟨by decide, by decide⟩ (by decide) (by decide) rfl (by decide) ?_
    have hyp := hv3 c
    refine ex_aload_n 77 dX9_count_76 rfl rfl ?_
    obtain ⟨o20, hyp⟩ := hyp
    obtain ⟨r21, f22, hyp⟩ := hyp
    refine q_getR 9 3 80 dX9_count_77 rfl fiX9_33 rfl o20 f22 ?_
    obtain ⟨o23, hyp⟩ := hyp
    obtain ⟨r24, f25, hyp⟩ := hyp
    refine q_getR 8 1 83 dX9_count_80 rfl fiX9_205 rfl o23 f25 ?_
    refine ex_iconst 84 dX9_count_83 rfl ?_
    obtain ⟨o26, hyp⟩ := hyp
    refine ex_iald 85 dX9_count_84 rfl o26 ?_
    exact ex_iret dX9_count_85 (Or.inl rfl) ⟨_, rfl, hyp⟩
  · refine ex_tswIn 4 86 dX9_count_1 c ⟨by decide, by decide⟩ (by decide) (by decide) rfl (by decide) ?_
    have hyp := hv4 c
    refine ex_aload_n 87 dX9_count_86 rfl rfl ?_
    obtain ⟨o27, hyp⟩ := hyp
    obtain ⟨r28, f29, hyp⟩ := hyp
    refine q_getR 9 0 90 dX9_count_87 rfl fiX9_10 rfl o27 f29 ?_
    obtain ⟨o30, hyp⟩ := hyp
    refine q_getI 5 1 93 dX9_count_90 rfl fiX9_72 (Or.inl rfl) o30 ?_
    exact ex_iret dX9_count_93 (Or.inl rfl) ⟨_, rfl, hyp⟩
  · refine ex_tswIn 5 94 dX9_count_1 c ⟨by decide, by decide⟩ (by decide) (by decide) rfl (by decide) ?_
    have hyp := hv5 c
    refine ex_aload_n 95 dX9_count_94 rfl rfl ?_
    obtain ⟨o31, hyp⟩ := hyp
    refine q_getI 9 10 98 dX9_count_95 rfl fiX9_108 (Or.inl rfl) o31 ?_
    exact ex_iret dX9_count_98 (Or.inl rfl) ⟨_, rfl, hyp⟩
  · refine ex_tswIn 6 99 dX9_count_1 c ⟨by decide, by decide⟩ (by decide) (by decide) rfl (by decide) ?_
    have hyp := hv6 c
    refine ex_aload_n 100 dX9_count_99 rfl rfl ?_
    obtain ⟨o32, hyp⟩ := hyp
    obtain ⟨r33, f34, hyp⟩ := hyp
    refine q_getR 9 3 103 dX9_count_100 rfl fiX9_33 rfl o32 f34 ?_
    obtain ⟨o35, hyp⟩ := hyp
    refine q_getI 8 3 106 dX9_count_103 rfl fiX9_208 (Or.inl rfl) o35 ?_
    exact ex_iret dX9_count_106 (Or.inl rfl) ⟨_, rfl, hyp⟩
  · refine ex_tswIn 7 107 dX9_count_1 c ⟨by decide, by decide⟩ (by decide) (by decide) rfl (by decide) ?_
    have hyp := hv7 c
    refine ex_aload_n 108 dX9_count_107 rfl rfl ?_
    obtain ⟨o36, hyp⟩ := hyp
    obtain ⟨r37, f38, hyp⟩ := hyp
    refine q_getR 9 3 111 dX9_count_108 rfl fiX9_33 rfl o36 f38 ?_
    obtain ⟨o39, hyp⟩ := hyp
    refine q_callVi [] 114 dX9_count_111 rfl cvX9_211 rfl rfl ⟨Nat.le_of_ble_eq_true rfl, Nat.le_of_ble_eq_true rfl⟩ (Nat.le_of_ble_eq_true rfl) o39 hyp (fun y42 h40 k41 hyp => ?_)
    exact ex_iret dX9_count_114 (Or.inl rfl) ⟨_, rfl, hyp⟩
set_option maxRecDepth 4000 in
theorem tX9_digest {P : Int → PH → Prop} (h0 : PH) (a0 : Nat) (hyp : OB h0 9 a0 ∧ METv mX9_settle [vr a0] h0 (0, 0) (fun h2 => h2.1 = h0.1 → (METl mX9_mixEntries [vr a0, vl 1567] h2 (fun y7 h5 => h5.1 = h2.1 → (METl mX9_mixTwos [vr a0, vl y7] h5 (fun y11 h9 => h9.1 = h5.1 → (METl mX9_mixLives [vr a0, vl y11] h9 (fun y15 h13 => h13.1 = h9.1 → (EXl mX9_digest 26 [some (vr a0), some (vl y15), none, some (vi 0)] [] h13 P))))))))) : METl mX9_digest [vr a0] h0 P := by
  refine met_of_ex (by decide +kernel) (Nat.le_of_ble_eq_true rfl) ?_
  show EX mX9_digest 0 [some (vr a0), none, none, none] [] h0 (0, 0) _
  refine ex_aload_n 1 dX9_digest_0 rfl rfl ?_
  obtain ⟨o1, hyp⟩ := hyp
  refine q_callVv [] 4 dX9_digest_1 rfl cvX9_114 rfl rfl ⟨Nat.le_of_ble_eq_true rfl, Nat.le_of_ble_eq_true rfl⟩ (Nat.le_of_ble_eq_true rfl) o1 hyp (fun h2 k3 hyp => ?_)
  refine ex_aload_n 5 dX9_digest_4 rfl rfl ?_
  refine ex_ldc2 (n := 1567) 8 dX9_digest_5 rfl (wt4 67 rfl rfl) ?_
  have f4 := OB.of k3 o1
  refine q_callVl [vl 1567] 11 dX9_digest_8 rfl cvX9_216 rfl rfl ⟨Nat.le_of_ble_eq_true rfl, Nat.le_of_ble_eq_true rfl⟩ (Nat.le_of_ble_eq_true rfl) f4 hyp (fun y7 h5 k6 hyp => ?_)
  refine q_lstore_n [some (vr a0), some (vl y7), none, none] 12 dX9_digest_11 rfl (Nat.le_of_ble_eq_true rfl) rfl rfl ?_
  refine ex_aload_n 13 dX9_digest_12 rfl rfl ?_
  refine ex_lload_n 14 dX9_digest_13 rfl rfl ?_
  have f8 := OB.of k6 f4
  refine q_callVl [vl y7] 17 dX9_digest_14 rfl cvX9_220 rfl rfl ⟨Nat.le_of_ble_eq_true rfl, Nat.le_of_ble_eq_true rfl⟩ (Nat.le_of_ble_eq_true rfl) f8 hyp (fun y11 h9 k10 hyp => ?_)
  refine q_lstore_n [some (vr a0), some (vl y11), none, none] 18 dX9_digest_17 rfl (Nat.le_of_ble_eq_true rfl) rfl rfl ?_
  refine ex_aload_n 19 dX9_digest_18 rfl rfl ?_
  refine ex_lload_n 20 dX9_digest_19 rfl rfl ?_
  have f12 := OB.of k10 f8
  refine q_callVl [vl y11] 23 dX9_digest_20 rfl cvX9_223 rfl rfl ⟨Nat.le_of_ble_eq_true rfl, Nat.le_of_ble_eq_true rfl⟩ (Nat.le_of_ble_eq_true rfl) f12 hyp (fun y15 h13 k14 hyp => ?_)
  refine q_lstore_n [some (vr a0), some (vl y15), none, none] 24 dX9_digest_23 rfl (Nat.le_of_ble_eq_true rfl) rfl rfl ?_
  refine ex_iconst 25 dX9_digest_24 rfl ?_
  refine q_istore_n [some (vr a0), some (vl y15), none, some (vi 0)] 26 dX9_digest_25 rfl (Nat.le_of_ble_eq_true rfl) rfl rfl ?_
  exact hyp
set_option maxRecDepth 4000 in
theorem tX9_digest_26 {P : Int → PH → Prop} (h0 : PH) (a0 : Nat) (x1 : Int) (x3 : Int) (hyp : OB h0 9 a0 ∧ ∃ r2 : Nat, h0.2.2 a0 0 = some r2 ∧ OB h0 5 r2 ∧ rng x3 ∧ rng (h0.2.1 r2 1) ∧ (h0.2.1 r2 1 ≤ x3 → (EXl mX9_digest 60 [some (vr a0), some (vl x1), none, some (vi 0)] [] h0 P)) ∧ (x3 < h0.2.1 r2 1 → (∃ r7 : Nat, h0.2.2 r2 0 = some r7 ∧ AI h0 20 r7 x3 ∧ rng (h0.2.1 r7 (x3).toNat) ∧ METl mX9_mixed [vl x1, vl (h0.2.1 r7 (x3).toNat)] h0 (fun y13 h11 => h11.1 = h0.1 → (EXl mX9_digest 26 [some (vr a0), some (vl y13), none, some (vi (x3 + 1))] [] h11 P))))) : EXl mX9_digest 26 [some (vr a0), some (vl x1), none, some (vi x3)] [] h0 P := by
  refine ex_iload_n 27 dX9_digest_26 rfl rfl ?_
  refine ex_aload_n 28 dX9_digest_27 rfl rfl ?_
  obtain ⟨o1, hyp⟩ := hyp
  obtain ⟨r2, f3, hyp⟩ := hyp
  refine q_getR 9 0 31 dX9_digest_28 rfl fiX9_10 rfl o1 f3 ?_
  obtain ⟨o4, hyp⟩ := hyp
  refine q_getI 5 1 34 dX9_digest_31 rfl fiX9_72 (Or.inl rfl) o4 ?_
  obtain ⟨o5, hyp⟩ := hyp
  obtain ⟨o6, hyp⟩ := hyp
  obtain ⟨ht, hf⟩ := hyp
  refine ex_icmp_ge 58 37 dX9_digest_34 (by decide) rfl o5 o6 (fun c14 => ?_) (fun c14 => ?_)
  · have hyp := ht c14
    clear ht hf
    refine ex_iconst 59 dX9_digest_58 rfl ?_
    refine q_istore_n [some (vr a0), some (vl x1), none, some (vi 0)] 60 dX9_digest_59 rfl (Nat.le_of_ble_eq_true rfl) rfl rfl ?_
    exact hyp
  · have hyp := hf c14
    clear ht hf
    refine ex_lload_n 38 dX9_digest_37 rfl rfl ?_
    refine ex_aload_n 39 dX9_digest_38 rfl rfl ?_
    refine q_getR 9 0 42 dX9_digest_39 rfl fiX9_10 rfl o1 f3 ?_
    obtain ⟨r7, f8, hyp⟩ := hyp
    refine q_getR 5 0 45 dX9_digest_42 rfl fiX9_82 rfl o4 f8 ?_
    refine ex_iload_n 46 dX9_digest_45 rfl rfl ?_
    obtain ⟨o9, hyp⟩ := hyp
    refine ex_iald 47 dX9_digest_46 rfl o9 ?_
    obtain ⟨o10, hyp⟩ := hyp
    refine ex_i2l 48 dX9_digest_47 rfl o10 ?_
    refine q_callSl [vl x1, vl (h0.2.1 r7 (x3).toNat)] 51 dX9_digest_48 rfl cvX9_226 rfl rfl ⟨Nat.le_of_ble_eq_true rfl, Nat.le_of_ble_eq_true rfl⟩ (Nat.le_of_ble_eq_true rfl) hyp (fun y13 h11 k12 hyp => ?_)
    refine q_lstore_n [some (vr a0), some (vl y13), none, some (vi x3)] 52 dX9_digest_51 rfl (Nat.le_of_ble_eq_true rfl) rfl rfl ?_
    refine q_iinc [some (vr a0), some (vl y13), none, some (vi (x3 + 1))] 55 dX9_digest_52 rfl rfl (Nat.le_of_ble_eq_true rfl) rfl rfl ?_
    refine ex_goto 26 dX9_digest_55 (by decide) ?_
    exact hyp
set_option maxRecDepth 4000 in
theorem tX9_digest_60 {P : Int → PH → Prop} (h0 : PH) (a0 : Nat) (x1 : Int) (x3 : Int) (hyp : rng x3 ∧ (7 < x3 → (P x1 h0)) ∧ (x3 ≤ 7 → (OB h0 9 a0 ∧ METi mX9_count [vr a0, vi x3] h0 (fun y5 h3 => h3.1 = h0.1 → (rng y5 ∧ METl mX9_mixed [vl x1, vl y5] h3 (fun y9 h7 => h7.1 = h3.1 → (EXl mX9_digest 60 [some (vr a0), some (vl y9), none, some (vi (x3 + 1))] [] h7 P))))))) : EXl mX9_digest 60 [some (vr a0), some (vl x1), none, some (vi x3)] [] h0 P := by
  refine ex_iload_n 61 dX9_digest_60 rfl rfl ?_
  refine ex_bipush 63 dX9_digest_61 rfl ⟨by decide, by decide⟩ ?_
  obtain ⟨o1, hyp⟩ := hyp
  obtain ⟨ht, hf⟩ := hyp
  refine ex_icmp_gt 83 66 dX9_digest_63 (by decide) rfl o1 ⟨by decide, by decide⟩ (fun c10 => ?_) (fun c10 => ?_)
  · have hyp := ht c10
    clear ht hf
    refine ex_lload_n 84 dX9_digest_83 rfl rfl ?_
    exact ex_lret dX9_digest_84 rfl ⟨_, rfl, hyp⟩
  · have hyp := hf c10
    clear ht hf
    refine ex_lload_n 67 dX9_digest_66 rfl rfl ?_
    refine ex_aload_n 68 dX9_digest_67 rfl rfl ?_
    refine ex_iload_n 69 dX9_digest_68 rfl rfl ?_
    obtain ⟨o2, hyp⟩ := hyp
    refine q_callVi [vi x3] 72 dX9_digest_69 rfl cvX9_230 rfl rfl ⟨Nat.le_of_ble_eq_true rfl, Nat.le_of_ble_eq_true rfl⟩ (Nat.le_of_ble_eq_true rfl) o2 hyp (fun y5 h3 k4 hyp => ?_)
    obtain ⟨o6, hyp⟩ := hyp
    refine ex_i2l 73 dX9_digest_72 rfl o6 ?_
    refine q_callSl [vl x1, vl y5] 76 dX9_digest_73 rfl cvX9_226 rfl rfl ⟨Nat.le_of_ble_eq_true rfl, Nat.le_of_ble_eq_true rfl⟩ (Nat.le_of_ble_eq_true rfl) hyp (fun y9 h7 k8 hyp => ?_)
    refine q_lstore_n [some (vr a0), some (vl y9), none, some (vi x3)] 77 dX9_digest_76 rfl (Nat.le_of_ble_eq_true rfl) rfl rfl ?_
    refine q_iinc [some (vr a0), some (vl y9), none, some (vi (x3 + 1))] 80 dX9_digest_77 rfl rfl (Nat.le_of_ble_eq_true rfl) rfl rfl ?_
    refine ex_goto 60 dX9_digest_80 (by decide) ?_
    exact hyp
set_option maxRecDepth 4000 in
theorem tX9_leastAge {P : Int → PH → Prop} (h0 : PH) (x0 : Int) (hyp : rng x0 ∧ (¬ x0 = 1 → (P 0 h0)) ∧ (x0 = 1 → (P 14 h0))) : METi mX9_leastAge [vi x0] h0 P := by
  refine met_of_ex (by decide +kernel) (Nat.le_of_ble_eq_true rfl) ?_
  show EX mX9_leastAge 0 [some (vi x0)] [] h0 (0, 0) _
  refine ex_iload_n 1 dX9_leastAge_0 rfl rfl ?_
  refine ex_iconst 2 dX9_leastAge_1 rfl ?_
  obtain ⟨o1, hyp⟩ := hyp
  obtain ⟨ht, hf⟩ := hyp
  refine ex_icmp_ne 10 5 dX9_leastAge_2 (by decide) rfl o1 ⟨by decide, by decide⟩ (fun c2 => ?_) (fun c2 => ?_)
  · have hyp := ht c2
    clear ht hf
    refine ex_iconst 11 dX9_leastAge_10 rfl ?_
    exact ex_iret dX9_leastAge_11 (Or.inl rfl) ⟨_, rfl, hyp⟩
  · have hyp := hf c2
    clear ht hf
    refine ex_bipush 7 dX9_leastAge_5 rfl ⟨by decide, by decide⟩ ?_
    refine ex_goto 11 dX9_leastAge_7 (by decide) ?_
    exact ex_iret dX9_leastAge_11 (Or.inl rfl) ⟨_, rfl, hyp⟩
set_option maxRecDepth 4000 in
theorem tX9_mayHaveAge {P : Int → PH → Prop} (h0 : PH) (x0 : Int) (x1 : Int) (hyp : rng x0 ∧ (x0 = 0 → (P 0 h0)) ∧ (¬ x0 = 0 → (METi mX9_leastAge [vi x0] h0 (fun y4 h2 => h2.1 = h0.1 → (rng x1 ∧ rng y4 ∧ (x1 < y4 → (P 0 h2)) ∧ (y4 ≤ x1 → ((99 < x1 → (P 0 h2)) ∧ (x1 ≤ 99 → (P 1 h2))))))))) : METi mX9_mayHaveAge [vi x0, vi x1] h0 P := by
  refine met_of_ex (by decide +kernel) (Nat.le_of_ble_eq_true rfl) ?_
  show EX mX9_mayHaveAge 0 [some (vi x0), some (vi x1)] [] h0 (0, 0) _
  refine ex_iload_n 1 dX9_mayHaveAge_0 rfl rfl ?_
  obtain ⟨o1, hyp⟩ := hyp
  obtain ⟨ht, hf⟩ := hyp
  refine ex_if_eq 22 4 dX9_mayHaveAge_1 (by decide) rfl o1 (fun c9 => ?_) (fun c9 => ?_)
  · have hyp := ht c9
    clear ht hf
    refine ex_iconst 23 dX9_mayHaveAge_22 rfl ?_
    exact ex_iret dX9_mayHaveAge_23 (Or.inr ⟨rfl, Or.inl rfl⟩) ⟨_, rfl, hyp⟩
  · have hyp := hf c9
    clear ht hf
    refine ex_iload_n 5 dX9_mayHaveAge_4 rfl rfl ?_
    refine ex_iload_n 6 dX9_mayHaveAge_5 rfl rfl ?_
    refine q_callSi [vi x0] 9 dX9_mayHaveAge_6 rfl cvX9_233 rfl rfl ⟨Nat.le_of_ble_eq_true rfl, Nat.le_of_ble_eq_true rfl⟩ (Nat.le_of_ble_eq_true rfl) hyp (fun y4 h2 k3 hyp => ?_)
    obtain ⟨o5, hyp⟩ := hyp
    obtain ⟨o6, hyp⟩ := hyp
    obtain ⟨ht, hf⟩ := hyp
    refine ex_icmp_lt 22 12 dX9_mayHaveAge_9 (by decide) rfl o5 o6 (fun c8 => ?_) (fun c8 => ?_)
    · have hyp := ht c8
      clear ht hf
      refine ex_iconst 23 dX9_mayHaveAge_22 rfl ?_
      exact ex_iret dX9_mayHaveAge_23 (Or.inr ⟨rfl, Or.inl rfl⟩) ⟨_, rfl, hyp⟩
    · have hyp := hf c8
      clear ht hf
      refine ex_iload_n 13 dX9_mayHaveAge_12 rfl rfl ?_
      refine ex_bipush 15 dX9_mayHaveAge_13 rfl ⟨by decide, by decide⟩ ?_
      obtain ⟨ht, hf⟩ := hyp
      refine ex_icmp_gt 22 18 dX9_mayHaveAge_15 (by decide) rfl o5 ⟨by decide, by decide⟩ (fun c7 => ?_) (fun c7 => ?_)
      · have hyp := ht c7
        clear ht hf
        refine ex_iconst 23 dX9_mayHaveAge_22 rfl ?_
        exact ex_iret dX9_mayHaveAge_23 (Or.inr ⟨rfl, Or.inl rfl⟩) ⟨_, rfl, hyp⟩
      · have hyp := hf c7
        clear ht hf
        refine ex_iconst 19 dX9_mayHaveAge_18 rfl ?_
        refine ex_goto 23 dX9_mayHaveAge_19 (by decide) ?_
        exact ex_iret dX9_mayHaveAge_23 (Or.inr ⟨rfl, Or.inr rfl⟩) ⟨_, rfl, hyp⟩
set_option maxRecDepth 4000 in
theorem tX9_areTwo {P : Int → PH → Prop} (h0 : PH) (a0 : Nat) (x1 : Int) (x2 : Int) (hyp : OB h0 9 a0 ∧ ∃ r2 : Nat, h0.2.2 a0 3 = some r2 ∧ OB h0 8 r2 ∧ METi mX8_has [vr r2, vi x1] h0 (fun y7 h5 => h5.1 = h0.1 → (rng y7 ∧ (y7 = 0 → (P 0 h5)) ∧ (¬ y7 = 0 → (∃ r10 : Nat, h5.2.2 a0 3 = some r10 ∧ OB h5 8 r10 ∧ METi mX8_has [vr r10, vi x2] h5 (fun y15 h13 => h13.1 = h5.1 → (rng y15 ∧ (y15 = 0 → (P 0 h13)) ∧ (¬ y15 = 0 → (rng x1 ∧ rng x2 ∧ (x1 = x2 → (P 0 h13)) ∧ (¬ x1 = x2 → (P 1 h13))))))))))) : METi mX9_areTwo [vr a0, vi x1, vi x2] h0 P := by
  refine met_of_ex (by decide +kernel) (Nat.le_of_ble_eq_true rfl) ?_
  show EX mX9_areTwo 0 [some (vr a0), some (vi x1), some (vi x2)] [] h0 (0, 0) _
  refine ex_aload_n 1 dX9_areTwo_0 rfl rfl ?_
  obtain ⟨o1, hyp⟩ := hyp
  obtain ⟨r2, f3, hyp⟩ := hyp
  refine q_getR 9 3 4 dX9_areTwo_1 rfl fiX9_33 rfl o1 f3 ?_
  refine ex_iload_n 5 dX9_areTwo_4 rfl rfl ?_
  obtain ⟨o4, hyp⟩ := hyp
  refine q_callVi [vi x1] 8 dX9_areTwo_5 rfl cvX9_111 rfl rfl ⟨Nat.le_of_ble_eq_true rfl, Nat.le_of_ble_eq_true rfl⟩ (Nat.le_of_ble_eq_true rfl) o4 hyp (fun y7 h5 k6 hyp => ?_)
  obtain ⟨o8, hyp⟩ := hyp
  obtain ⟨ht, hf⟩ := hyp
  refine ex_if_eq 31 11 dX9_areTwo_8 (by decide) rfl o8 (fun c21 => ?_) (fun c21 => ?_)
  · have hyp := ht c21
    clear ht hf
    refine ex_iconst 32 dX9_areTwo_31 rfl ?_
    exact ex_iret dX9_areTwo_32 (Or.inr ⟨rfl, Or.inl rfl⟩) ⟨_, rfl, hyp⟩
  · have hyp := hf c21
    clear ht hf
    refine ex_aload_n 12 dX9_areTwo_11 rfl rfl ?_
    have f9 := OB.of k6 o1
    obtain ⟨r10, f11, hyp⟩ := hyp
    refine q_getR 9 3 15 dX9_areTwo_12 rfl fiX9_33 rfl f9 f11 ?_
    refine ex_iload_n 16 dX9_areTwo_15 rfl rfl ?_
    obtain ⟨o12, hyp⟩ := hyp
    refine q_callVi [vi x2] 19 dX9_areTwo_16 rfl cvX9_111 rfl rfl ⟨Nat.le_of_ble_eq_true rfl, Nat.le_of_ble_eq_true rfl⟩ (Nat.le_of_ble_eq_true rfl) o12 hyp (fun y15 h13 k14 hyp => ?_)
    obtain ⟨o16, hyp⟩ := hyp
    obtain ⟨ht, hf⟩ := hyp
    refine ex_if_eq 31 22 dX9_areTwo_19 (by decide) rfl o16 (fun c20 => ?_) (fun c20 => ?_)
    · have hyp := ht c20
      clear ht hf
      refine ex_iconst 32 dX9_areTwo_31 rfl ?_
      exact ex_iret dX9_areTwo_32 (Or.inr ⟨rfl, Or.inl rfl⟩) ⟨_, rfl, hyp⟩
    · have hyp := hf c20
      clear ht hf
      refine ex_iload_n 23 dX9_areTwo_22 rfl rfl ?_
      refine ex_iload_n 24 dX9_areTwo_23 rfl rfl ?_
      obtain ⟨o17, hyp⟩ := hyp
      obtain ⟨o18, hyp⟩ := hyp
      obtain ⟨ht, hf⟩ := hyp
      refine ex_icmp_eq 31 27 dX9_areTwo_24 (by decide) rfl o17 o18 (fun c19 => ?_) (fun c19 => ?_)
      · have hyp := ht c19
        clear ht hf
        refine ex_iconst 32 dX9_areTwo_31 rfl ?_
        exact ex_iret dX9_areTwo_32 (Or.inr ⟨rfl, Or.inl rfl⟩) ⟨_, rfl, hyp⟩
      · have hyp := hf c19
        clear ht hf
        refine ex_iconst 28 dX9_areTwo_27 rfl ?_
        refine ex_goto 32 dX9_areTwo_28 (by decide) ?_
        exact ex_iret dX9_areTwo_32 (Or.inr ⟨rfl, Or.inr rfl⟩) ⟨_, rfl, hyp⟩
set_option maxRecDepth 4000 in
theorem tX9_addEntriesOfPage {P : PH → Prop} (h0 : PH) (a0 : Nat) (hyp : OB h0 9 a0 ∧ ∃ r2 : Nat, h0.2.2 a0 1 = some r2 ∧ OB h0 7 r2 ∧ METv mX7_start [vr r2] h0 (0, 0) (fun h5 => h5.1 = h0.1 → (EXv mX9_addEntriesOfPage 9 [some (vr a0), some (vi 0)] [] h5 (0, 0) P))) : METv mX9_addEntriesOfPage [vr a0] h0 (0, 0) P := by
  refine met_of_ex (by decide +kernel) (Nat.le_of_ble_eq_true rfl) ?_
  show EX mX9_addEntriesOfPage 0 [some (vr a0), none] [] h0 (0, 0) _
  refine ex_aload_n 1 dX9_addEntriesOfPage_0 rfl rfl ?_
  obtain ⟨o1, hyp⟩ := hyp
  obtain ⟨r2, f3, hyp⟩ := hyp
  refine q_getR 9 1 4 dX9_addEntriesOfPage_1 rfl fiX9_19 rfl o1 f3 ?_
  obtain ⟨o4, hyp⟩ := hyp
  refine q_callVv [] 7 dX9_addEntriesOfPage_4 rfl cvX9_79 rfl rfl ⟨Nat.le_of_ble_eq_true rfl, Nat.le_of_ble_eq_true rfl⟩ (Nat.le_of_ble_eq_true rfl) o4 hyp (fun h5 k6 hyp => ?_)
  refine ex_iconst 8 dX9_addEntriesOfPage_7 rfl ?_
  refine q_istore_n [some (vr a0), some (vi 0)] 9 dX9_addEntriesOfPage_8 rfl (Nat.le_of_ble_eq_true rfl) rfl rfl ?_
  exact hyp
set_option maxRecDepth 4000 in
theorem tX9_addEntriesOfPage_9 {P : PH → Prop} (h0 : PH) (a0 : Nat) (x1 : Int) (hyp : OB h0 9 a0 ∧ ∃ r2 : Nat, h0.2.2 a0 0 = some r2 ∧ OB h0 5 r2 ∧ rng x1 ∧ rng (h0.2.1 r2 1) ∧ (h0.2.1 r2 1 ≤ x1 → (∃ r7 : Nat, h0.2.2 a0 3 = some r7 ∧ ∃ r9 : Nat, h0.2.2 a0 1 = some r9 ∧ ∃ r11 : Nat, h0.2.2 a0 2 = some r11 ∧ OB h0 8 r7 ∧ METv mX8_add [vr r7, vr r2, vr r9, vr r11] h0 (0, 0) (fun h14 => h14.1 = h0.1 → (P h14)))) ∧ (x1 < h0.2.1 r2 1 → (∃ r16 : Nat, h0.2.2 r2 0 = some r16 ∧ AI h0 20 r16 x1 ∧ rng (h0.2.1 r16 (x1).toNat) ∧ (¬ h0.2.1 r16 (x1).toNat = 59 → (∃ r20 : Nat, h0.2.2 a0 1 = some r20 ∧ OB h0 7 r20 ∧ METi mX7_takes [vr r20, vi (h0.2.1 r16 (x1).toNat)] h0 (fun y25 h23 => h23.1 = h0.1 → (EXv mX9_addEntriesOfPage 9 [some (vr a0), some (vi (x1 + 1))] [] h23 (0, 0) P)))) ∧ (h0.2.1 r16 (x1).toNat = 59 → (∃ r26 : Nat, h0.2.2 a0 3 = some r26 ∧ ∃ r28 : Nat, h0.2.2 a0 1 = some r28 ∧ ∃ r30 : Nat, h0.2.2 a0 2 = some r30 ∧ OB h0 8 r26 ∧ METv mX8_add [vr r26, vr r2, vr r28, vr r30] h0 (0, 0) (fun h33 => h33.1 = h0.1 → (∃ r36 : Nat, h33.2.2 a0 1 = some r36 ∧ ∃ r38 : Nat, h33.2.2 a0 0 = some r38 ∧ OB h33 5 r38 ∧ ∃ r41 : Nat, h33.2.2 r38 0 = some r41 ∧ AI h33 20 r41 x1 ∧ OB h33 7 r36 ∧ METi mX7_takes [vr r36, vi (h33.2.1 r41 (x1).toNat)] h33 (fun y47 h45 => h45.1 = h33.1 → (EXv mX9_addEntriesOfPage 9 [some (vr a0), some (vi (x1 + 1))] [] h45 (0, 0) P))))))))) : EXv mX9_addEntriesOfPage 9 [some (vr a0), some (vi x1)] [] h0 (0, 0) P := by
  refine ex_iload_n 10 dX9_addEntriesOfPage_9 rfl rfl ?_
  refine ex_aload_n 11 dX9_addEntriesOfPage_10 rfl rfl ?_
  obtain ⟨o1, hyp⟩ := hyp
  obtain ⟨r2, f3, hyp⟩ := hyp
  refine q_getR 9 0 14 dX9_addEntriesOfPage_11 rfl fiX9_10 rfl o1 f3 ?_
  obtain ⟨o4, hyp⟩ := hyp
  refine q_getI 5 1 17 dX9_addEntriesOfPage_14 rfl fiX9_72 (Or.inl rfl) o4 ?_
  obtain ⟨o5, hyp⟩ := hyp
  obtain ⟨o6, hyp⟩ := hyp
  obtain ⟨ht, hf⟩ := hyp
  refine ex_icmp_ge 76 20 dX9_addEntriesOfPage_17 (by decide) rfl o5 o6 (fun c49 => ?_) (fun c49 => ?_)
  · have hyp := ht c49
    clear ht hf
    refine ex_aload_n 77 dX9_addEntriesOfPage_76 rfl rfl ?_
    obtain ⟨r7, f8, hyp⟩ := hyp
    refine q_getR 9 3 80 dX9_addEntriesOfPage_77 rfl fiX9_33 rfl o1 f8 ?_
    refine ex_aload_n 81 dX9_addEntriesOfPage_80 rfl rfl ?_
    refine q_getR 9 0 84 dX9_addEntriesOfPage_81 rfl fiX9_10 rfl o1 f3 ?_
    refine ex_aload_n 85 dX9_addEntriesOfPage_84 rfl rfl ?_
    obtain ⟨r9, f10, hyp⟩ := hyp
    refine q_getR 9 1 88 dX9_addEntriesOfPage_85 rfl fiX9_19 rfl o1 f10 ?_
    refine ex_aload_n 89 dX9_addEntriesOfPage_88 rfl rfl ?_
    obtain ⟨r11, f12, hyp⟩ := hyp
    refine q_getR 9 2 92 dX9_addEntriesOfPage_89 rfl fiX9_26 rfl o1 f12 ?_
    obtain ⟨o13, hyp⟩ := hyp
    refine q_callVv [vr r2, vr r9, vr r11] 95 dX9_addEntriesOfPage_92 rfl cvX9_236 rfl rfl ⟨Nat.le_of_ble_eq_true rfl, Nat.le_of_ble_eq_true rfl⟩ (Nat.le_of_ble_eq_true rfl) o13 hyp (fun h14 k15 hyp => ?_)
    exact ex_vret dX9_addEntriesOfPage_95 rfl ⟨rfl, hyp⟩
  · have hyp := hf c49
    clear ht hf
    refine ex_aload_n 21 dX9_addEntriesOfPage_20 rfl rfl ?_
    refine q_getR 9 0 24 dX9_addEntriesOfPage_21 rfl fiX9_10 rfl o1 f3 ?_
    obtain ⟨r16, f17, hyp⟩ := hyp
    refine q_getR 5 0 27 dX9_addEntriesOfPage_24 rfl fiX9_82 rfl o4 f17 ?_
    refine ex_iload_n 28 dX9_addEntriesOfPage_27 rfl rfl ?_
    obtain ⟨o18, hyp⟩ := hyp
    refine ex_iald 29 dX9_addEntriesOfPage_28 rfl o18 ?_
    refine ex_bipush 31 dX9_addEntriesOfPage_29 rfl ⟨by decide, by decide⟩ ?_
    obtain ⟨o19, hyp⟩ := hyp
    obtain ⟨ht, hf⟩ := hyp
    refine ex_icmp_ne 53 34 dX9_addEntriesOfPage_31 (by decide) rfl o19 ⟨by decide, by decide⟩ (fun c48 => ?_) (fun c48 => ?_)
    · have hyp := ht c48
      clear ht hf
      refine ex_aload_n 54 dX9_addEntriesOfPage_53 rfl rfl ?_
      obtain ⟨r20, f21, hyp⟩ := hyp
      refine q_getR 9 1 57 dX9_addEntriesOfPage_54 rfl fiX9_19 rfl o1 f21 ?_
      refine ex_aload_n 58 dX9_addEntriesOfPage_57 rfl rfl ?_
      refine q_getR 9 0 61 dX9_addEntriesOfPage_58 rfl fiX9_10 rfl o1 f3 ?_
      refine q_getR 5 0 64 dX9_addEntriesOfPage_61 rfl fiX9_82 rfl o4 f17 ?_
      refine ex_iload_n 65 dX9_addEntriesOfPage_64 rfl rfl ?_
      refine ex_iald 66 dX9_addEntriesOfPage_65 rfl o18 ?_
      obtain ⟨o22, hyp⟩ := hyp
      refine q_callVi [vi (h0.2.1 r16 (x1).toNat)] 69 dX9_addEntriesOfPage_66 rfl cvX9_86 rfl rfl ⟨Nat.le_of_ble_eq_true rfl, Nat.le_of_ble_eq_true rfl⟩ (Nat.le_of_ble_eq_true rfl) o22 hyp (fun y25 h23 k24 hyp => ?_)
      refine ex_pop 70 dX9_addEntriesOfPage_69 rfl rfl ?_
      refine q_iinc [some (vr a0), some (vi (x1 + 1))] 73 dX9_addEntriesOfPage_70 rfl rfl (Nat.le_of_ble_eq_true rfl) rfl rfl ?_
      refine ex_goto 9 dX9_addEntriesOfPage_73 (by decide) ?_
      exact hyp
    · have hyp := hf c48
      clear ht hf
      refine ex_aload_n 35 dX9_addEntriesOfPage_34 rfl rfl ?_
      obtain ⟨r26, f27, hyp⟩ := hyp
      refine q_getR 9 3 38 dX9_addEntriesOfPage_35 rfl fiX9_33 rfl o1 f27 ?_
      refine ex_aload_n 39 dX9_addEntriesOfPage_38 rfl rfl ?_
      refine q_getR 9 0 42 dX9_addEntriesOfPage_39 rfl fiX9_10 rfl o1 f3 ?_
      refine ex_aload_n 43 dX9_addEntriesOfPage_42 rfl rfl ?_
      obtain ⟨r28, f29, hyp⟩ := hyp
      refine q_getR 9 1 46 dX9_addEntriesOfPage_43 rfl fiX9_19 rfl o1 f29 ?_
      refine ex_aload_n 47 dX9_addEntriesOfPage_46 rfl rfl ?_
      obtain ⟨r30, f31, hyp⟩ := hyp
      refine q_getR 9 2 50 dX9_addEntriesOfPage_47 rfl fiX9_26 rfl o1 f31 ?_
      obtain ⟨o32, hyp⟩ := hyp
      refine q_callVv [vr r2, vr r28, vr r30] 53 dX9_addEntriesOfPage_50 rfl cvX9_236 rfl rfl ⟨Nat.le_of_ble_eq_true rfl, Nat.le_of_ble_eq_true rfl⟩ (Nat.le_of_ble_eq_true rfl) o32 hyp (fun h33 k34 hyp => ?_)
      refine ex_aload_n 54 dX9_addEntriesOfPage_53 rfl rfl ?_
      have f35 := OB.of k34 o1
      obtain ⟨r36, f37, hyp⟩ := hyp
      refine q_getR 9 1 57 dX9_addEntriesOfPage_54 rfl fiX9_19 rfl f35 f37 ?_
      refine ex_aload_n 58 dX9_addEntriesOfPage_57 rfl rfl ?_
      obtain ⟨r38, f39, hyp⟩ := hyp
      refine q_getR 9 0 61 dX9_addEntriesOfPage_58 rfl fiX9_10 rfl f35 f39 ?_
      obtain ⟨o40, hyp⟩ := hyp
      obtain ⟨r41, f42, hyp⟩ := hyp
      refine q_getR 5 0 64 dX9_addEntriesOfPage_61 rfl fiX9_82 rfl o40 f42 ?_
      refine ex_iload_n 65 dX9_addEntriesOfPage_64 rfl rfl ?_
      obtain ⟨o43, hyp⟩ := hyp
      refine ex_iald 66 dX9_addEntriesOfPage_65 rfl o43 ?_
      obtain ⟨o44, hyp⟩ := hyp
      refine q_callVi [vi (h33.2.1 r41 (x1).toNat)] 69 dX9_addEntriesOfPage_66 rfl cvX9_86 rfl rfl ⟨Nat.le_of_ble_eq_true rfl, Nat.le_of_ble_eq_true rfl⟩ (Nat.le_of_ble_eq_true rfl) o44 hyp (fun y47 h45 k46 hyp => ?_)
      refine ex_pop 70 dX9_addEntriesOfPage_69 rfl rfl ?_
      refine q_iinc [some (vr a0), some (vi (x1 + 1))] 73 dX9_addEntriesOfPage_70 rfl rfl (Nat.le_of_ble_eq_true rfl) rfl rfl ?_
      refine ex_goto 9 dX9_addEntriesOfPage_73 (by decide) ?_
      exact hyp
set_option maxRecDepth 4000 in
theorem tX9_settle {P : PH → Prop} (h0 : PH) (a0 : Nat) (hyp : OB h0 9 a0 ∧ rng (h0.2.1 a0 11) ∧ (¬ h0.2.1 a0 11 = 0 → (∃ r3 : Nat, h0.2.2 a0 3 = some r3 ∧ OB h0 8 r3 ∧ METv mX8_settleBorn [vr r3, vi (h0.2.1 a0 8)] h0 (0, 0) (fun h6 => h6.1 = h0.1 → (∃ r9 : Nat, h6.2.2 a0 4 = some r9 ∧ ∃ r11 : Nat, h6.2.2 a0 3 = some r11 ∧ OB h6 6 r9 ∧ METv mX6_settle [vr r9, vr r11, vi (h6.2.1 a0 7)] h6 (0, 0) (fun h14 => h14.1 = h6.1 → (∃ r17 : Nat, h14.2.2 a0 5 = some r17 ∧ ∃ r19 : Nat, h14.2.2 a0 3 = some r19 ∧ ∃ r21 : Nat, h14.2.2 a0 4 = some r21 ∧ OB h14 3 r17 ∧ METv mX3_settle [vr r17, vr r19, vr r21] h14 (0, 0) (fun h24 => h24.1 = h14.1 → (∃ r27 : Nat, h24.2.2 a0 6 = some r27 ∧ ∃ r29 : Nat, h24.2.2 a0 3 = some r29 ∧ ∃ r31 : Nat, h24.2.2 a0 4 = some r31 ∧ ∃ r33 : Nat, h24.2.2 a0 5 = some r33 ∧ OB h24 2 r27 ∧ METv mX2_settle [vr r27, vr r29, vr r31, vr r33, vi (h24.2.1 a0 9)] h24 (0, 0) (fun h36 => h36.1 = h24.1 → (∀ h39 : PH, h39 = px_upI h36 a0 11 0 → (P h39))))))))))) ∧ (h0.2.1 a0 11 = 0 → (P h0))) : METv mX9_settle [vr a0] h0 (0, 0) P := by
  refine met_of_ex (by decide +kernel) (Nat.le_of_ble_eq_true rfl) ?_
  show EX mX9_settle 0 [some (vr a0)] [] h0 (0, 0) _
  refine ex_aload_n 1 dX9_settle_0 rfl rfl ?_
  obtain ⟨o1, hyp⟩ := hyp
  refine q_getI 9 11 4 dX9_settle_1 rfl fiX9_68 (Or.inr rfl) o1 ?_
  obtain ⟨o2, hyp⟩ := hyp
  obtain ⟨ht, hf⟩ := hyp
  refine ex_if_ne 8 7 dX9_settle_4 (by decide) rfl o2 (fun c41 => ?_) (fun c41 => ?_)
  · have hyp := ht c41
    clear ht hf
    refine ex_aload_n 9 dX9_settle_8 rfl rfl ?_
    obtain ⟨r3, f4, hyp⟩ := hyp
    refine q_getR 9 3 12 dX9_settle_9 rfl fiX9_33 rfl o1 f4 ?_
    refine ex_aload_n 13 dX9_settle_12 rfl rfl ?_
    refine q_getI 9 8 16 dX9_settle_13 rfl fiX9_62 (Or.inl rfl) o1 ?_
    obtain ⟨o5, hyp⟩ := hyp
    refine q_callVv [vi (h0.2.1 a0 8)] 19 dX9_settle_16 rfl cvX9_240 rfl rfl ⟨Nat.le_of_ble_eq_true rfl, Nat.le_of_ble_eq_true rfl⟩ (Nat.le_of_ble_eq_true rfl) o5 hyp (fun h6 k7 hyp => ?_)
    refine ex_aload_n 20 dX9_settle_19 rfl rfl ?_
    have f8 := OB.of k7 o1
    obtain ⟨r9, f10, hyp⟩ := hyp
    refine q_getR 9 4 23 dX9_settle_20 rfl fiX9_40 rfl f8 f10 ?_
    refine ex_aload_n 24 dX9_settle_23 rfl rfl ?_
    obtain ⟨r11, f12, hyp⟩ := hyp
    refine q_getR 9 3 27 dX9_settle_24 rfl fiX9_33 rfl f8 f12 ?_
    refine ex_aload_n 28 dX9_settle_27 rfl rfl ?_
    refine q_getI 9 7 31 dX9_settle_28 rfl fiX9_58 (Or.inl rfl) f8 ?_
    obtain ⟨o13, hyp⟩ := hyp
    refine q_callVv [vr r11, vi (h6.2.1 a0 7)] 34 dX9_settle_31 rfl cvX9_243 rfl rfl ⟨Nat.le_of_ble_eq_true rfl, Nat.le_of_ble_eq_true rfl⟩ (Nat.le_of_ble_eq_true rfl) o13 hyp (fun h14 k15 hyp => ?_)
    refine ex_aload_n 35 dX9_settle_34 rfl rfl ?_
    have f16 := OB.of k15 f8
    obtain ⟨r17, f18, hyp⟩ := hyp
    refine q_getR 9 5 38 dX9_settle_35 rfl fiX9_47 rfl f16 f18 ?_
    refine ex_aload_n 39 dX9_settle_38 rfl rfl ?_
    obtain ⟨r19, f20, hyp⟩ := hyp
    refine q_getR 9 3 42 dX9_settle_39 rfl fiX9_33 rfl f16 f20 ?_
    refine ex_aload_n 43 dX9_settle_42 rfl rfl ?_
    obtain ⟨r21, f22, hyp⟩ := hyp
    refine q_getR 9 4 46 dX9_settle_43 rfl fiX9_40 rfl f16 f22 ?_
    obtain ⟨o23, hyp⟩ := hyp
    refine q_callVv [vr r19, vr r21] 49 dX9_settle_46 rfl cvX9_246 rfl rfl ⟨Nat.le_of_ble_eq_true rfl, Nat.le_of_ble_eq_true rfl⟩ (Nat.le_of_ble_eq_true rfl) o23 hyp (fun h24 k25 hyp => ?_)
    refine ex_aload_n 50 dX9_settle_49 rfl rfl ?_
    have f26 := OB.of k25 f16
    obtain ⟨r27, f28, hyp⟩ := hyp
    refine q_getR 9 6 53 dX9_settle_50 rfl fiX9_54 rfl f26 f28 ?_
    refine ex_aload_n 54 dX9_settle_53 rfl rfl ?_
    obtain ⟨r29, f30, hyp⟩ := hyp
    refine q_getR 9 3 57 dX9_settle_54 rfl fiX9_33 rfl f26 f30 ?_
    refine ex_aload_n 58 dX9_settle_57 rfl rfl ?_
    obtain ⟨r31, f32, hyp⟩ := hyp
    refine q_getR 9 4 61 dX9_settle_58 rfl fiX9_40 rfl f26 f32 ?_
    refine ex_aload_n 62 dX9_settle_61 rfl rfl ?_
    obtain ⟨r33, f34, hyp⟩ := hyp
    refine q_getR 9 5 65 dX9_settle_62 rfl fiX9_47 rfl f26 f34 ?_
    refine ex_aload_n 66 dX9_settle_65 rfl rfl ?_
    refine q_getI 9 9 69 dX9_settle_66 rfl fiX9_65 (Or.inl rfl) f26 ?_
    obtain ⟨o35, hyp⟩ := hyp
    refine q_callVv [vr r29, vr r31, vr r33, vi (h24.2.1 a0 9)] 72 dX9_settle_69 rfl cvX9_249 rfl rfl ⟨Nat.le_of_ble_eq_true rfl, Nat.le_of_ble_eq_true rfl⟩ (Nat.le_of_ble_eq_true rfl) o35 hyp (fun h36 k37 hyp => ?_)
    refine ex_aload_n 73 dX9_settle_72 rfl rfl ?_
    refine ex_iconst 74 dX9_settle_73 rfl ?_
    have f38 := OB.of k37 f26
    refine q_putZ 9 11 77 dX9_settle_74 rfl fiX9_68 ff9_11 rfl f38 (Or.inl rfl) (fun h39 e40 => ?_)
    have hyp := hyp h39 e40
    exact ex_vret dX9_settle_77 rfl ⟨rfl, hyp⟩
  · have hyp := hf c41
    clear ht hf
    exact ex_vret dX9_settle_7 rfl ⟨rfl, hyp⟩
set_option maxRecDepth 4000 in
theorem tX9_tellEntry {P : Int → PH → Prop} (h0 : PH) (a0 : Nat) (x1 : Int) (x2 : Int) (hyp : OB h0 9 a0 ∧ ∃ r2 : Nat, h0.2.2 a0 3 = some r2 ∧ OB h0 8 r2 ∧ ∃ r5 : Nat, h0.2.2 r2 0 = some r5 ∧ AI h0 21 r5 x1 ∧ ∃ r8 : Nat, h0.2.2 r5 (x1).toNat = some r8 ∧ rng x2 ∧ (x2 < 0 ∨ 7 < x2 → (P (-102) h0)) ∧ (x2 = 0 → (OB h0 0 r8 ∧ P (h0.2.1 r8 4) h0)) ∧ (x2 = 1 → (OB h0 0 r8 ∧ P (h0.2.1 r8 5) h0)) ∧ (x2 = 2 → (OB h0 0 r8 ∧ P (h0.2.1 r8 6) h0)) ∧ (x2 = 3 → (OB h0 0 r8 ∧ P (h0.2.1 r8 3) h0)) ∧ (x2 = 4 → (OB h0 0 r8 ∧ P (h0.2.1 r8 8) h0)) ∧ (x2 = 5 → (OB h0 0 r8 ∧ P (h0.2.1 r8 9) h0)) ∧ (x2 = 6 → (∃ r17 : Nat, h0.2.2 a0 6 = some r17 ∧ OB h0 2 r17 ∧ ∃ r20 : Nat, h0.2.2 r17 1 = some r20 ∧ AI h0 20 r20 x1 ∧ P (h0.2.1 r20 (x1).toNat) h0)) ∧ (x2 = 7 → (∃ r23 : Nat, h0.2.2 a0 6 = some r23 ∧ OB h0 2 r23 ∧ ∃ r26 : Nat, h0.2.2 r23 1 = some r26 ∧ AI h0 20 r26 x1 ∧ rng (h0.2.1 r26 (x1).toNat) ∧ (¬ h0.2.1 r26 (x1).toNat = (-1) → (P 0 h0)) ∧ (h0.2.1 r26 (x1).toNat = (-1) → (P 1 h0))))) : METi mX9_tellEntry [vr a0, vi x1, vi x2] h0 P := by
  refine met_of_ex (by decide +kernel) (Nat.le_of_ble_eq_true rfl) ?_
  show EX mX9_tellEntry 0 [some (vr a0), some (vi x1), some (vi x2), none] [] h0 (0, 0) _
  refine ex_aload_n 1 dX9_tellEntry_0 rfl rfl ?_
  obtain ⟨o1, hyp⟩ := hyp
  obtain ⟨r2, f3, hyp⟩ := hyp
  refine q_getR 9 3 4 dX9_tellEntry_1 rfl fiX9_33 rfl o1 f3 ?_
  obtain ⟨o4, hyp⟩ := hyp
  obtain ⟨r5, f6, hyp⟩ := hyp
  refine q_getR 8 0 7 dX9_tellEntry_4 rfl fiX9_121 rfl o4 f6 ?_
  refine ex_iload_n 8 dX9_tellEntry_7 rfl rfl ?_
  obtain ⟨o7, hyp⟩ := hyp
  obtain ⟨r8, f9, hyp⟩ := hyp
  refine ex_aald 21 9 dX9_tellEntry_8 rfl (by decide) o7 f9 ?_
  refine q_astore_n [some (vr a0), some (vi x1), some (vi x2), some (vr r8)] 10 dX9_tellEntry_9 rfl (Nat.le_of_ble_eq_true rfl) rfl rfl ?_
  refine ex_iload_n 11 dX9_tellEntry_10 rfl rfl ?_
  obtain ⟨o10, hyp⟩ := hyp
  obtain ⟨hd, hv0, hv1, hv2, hv3, hv4, hv5, hv6, hv7⟩ := hyp
  rcases (show (x2 < 0 ∨ 7 < x2) ∨ x2 = 0 ∨ x2 = 1 ∨ x2 = 2 ∨ x2 = 3 ∨ x2 = 4 ∨ x2 = 5 ∨ x2 = 6 ∨ x2 = 7 by omega) with c | c | c | c | c | c | c | c | c
  · refine ex_tswOut 115 dX9_tellEntry_11 o10 c (by decide) ?_
    have hyp := hd c
    refine ex_bipush 117 dX9_tellEntry_115 rfl ⟨by decide, by decide⟩ ?_
    exact ex_iret dX9_tellEntry_117 (Or.inl rfl) ⟨_, rfl, hyp⟩
  · refine ex_tswIn 0 56 dX9_tellEntry_11 c ⟨by decide, by decide⟩ (by decide) (by decide) rfl (by decide) ?_
    have hyp := hv0 c
    refine ex_aload_n 57 dX9_tellEntry_56 rfl rfl ?_
    obtain ⟨o11, hyp⟩ := hyp
    refine q_getI 0 4 60 dX9_tellEntry_57 rfl fiX9_133 (Or.inl rfl) o11 ?_
    exact ex_iret dX9_tellEntry_60 (Or.inl rfl) ⟨_, rfl, hyp⟩
  · refine ex_tswIn 1 61 dX9_tellEntry_11 c ⟨by decide, by decide⟩ (by decide) (by decide) rfl (by decide) ?_
    have hyp := hv1 c
    refine ex_aload_n 62 dX9_tellEntry_61 rfl rfl ?_
    obtain ⟨o12, hyp⟩ := hyp
    refine q_getI 0 5 65 dX9_tellEntry_62 rfl fiX9_136 (Or.inl rfl) o12 ?_
    exact ex_iret dX9_tellEntry_65 (Or.inl rfl) ⟨_, rfl, hyp⟩
  · refine ex_tswIn 2 66 dX9_tellEntry_11 c ⟨by decide, by decide⟩ (by decide) (by decide) rfl (by decide) ?_
    have hyp := hv2 c
    refine ex_aload_n 67 dX9_tellEntry_66 rfl rfl ?_
    obtain ⟨o13, hyp⟩ := hyp
    refine q_getI 0 6 70 dX9_tellEntry_67 rfl fiX9_147 (Or.inl rfl) o13 ?_
    exact ex_iret dX9_tellEntry_70 (Or.inl rfl) ⟨_, rfl, hyp⟩
  · refine ex_tswIn 3 71 dX9_tellEntry_11 c ⟨by decide, by decide⟩ (by decide) (by decide) rfl (by decide) ?_
    have hyp := hv3 c
    refine ex_aload_n 72 dX9_tellEntry_71 rfl rfl ?_
    obtain ⟨o14, hyp⟩ := hyp
    refine q_getI 0 3 75 dX9_tellEntry_72 rfl fiX9_125 (Or.inl rfl) o14 ?_
    exact ex_iret dX9_tellEntry_75 (Or.inl rfl) ⟨_, rfl, hyp⟩
  · refine ex_tswIn 4 76 dX9_tellEntry_11 c ⟨by decide, by decide⟩ (by decide) (by decide) rfl (by decide) ?_
    have hyp := hv4 c
    refine ex_aload_n 77 dX9_tellEntry_76 rfl rfl ?_
    obtain ⟨o15, hyp⟩ := hyp
    refine q_getI 0 8 80 dX9_tellEntry_77 rfl fiX9_252 (Or.inl rfl) o15 ?_
    exact ex_iret dX9_tellEntry_80 (Or.inl rfl) ⟨_, rfl, hyp⟩
  · refine ex_tswIn 5 81 dX9_tellEntry_11 c ⟨by decide, by decide⟩ (by decide) (by decide) rfl (by decide) ?_
    have hyp := hv5 c
    refine ex_aload_n 82 dX9_tellEntry_81 rfl rfl ?_
    obtain ⟨o16, hyp⟩ := hyp
    refine q_getI 0 9 85 dX9_tellEntry_82 rfl fiX9_255 (Or.inl rfl) o16 ?_
    exact ex_iret dX9_tellEntry_85 (Or.inl rfl) ⟨_, rfl, hyp⟩
  · refine ex_tswIn 6 86 dX9_tellEntry_11 c ⟨by decide, by decide⟩ (by decide) (by decide) rfl (by decide) ?_
    have hyp := hv6 c
    refine ex_aload_n 87 dX9_tellEntry_86 rfl rfl ?_
    obtain ⟨r17, f18, hyp⟩ := hyp
    refine q_getR 9 6 90 dX9_tellEntry_87 rfl fiX9_54 rfl o1 f18 ?_
    obtain ⟨o19, hyp⟩ := hyp
    obtain ⟨r20, f21, hyp⟩ := hyp
    refine q_getR 2 1 93 dX9_tellEntry_90 rfl fiX9_258 rfl o19 f21 ?_
    refine ex_iload_n 94 dX9_tellEntry_93 rfl rfl ?_
    obtain ⟨o22, hyp⟩ := hyp
    refine ex_iald 95 dX9_tellEntry_94 rfl o22 ?_
    exact ex_iret dX9_tellEntry_95 (Or.inl rfl) ⟨_, rfl, hyp⟩
  · refine ex_tswIn 7 96 dX9_tellEntry_11 c ⟨by decide, by decide⟩ (by decide) (by decide) rfl (by decide) ?_
    have hyp := hv7 c
    refine ex_aload_n 97 dX9_tellEntry_96 rfl rfl ?_
    obtain ⟨r23, f24, hyp⟩ := hyp
    refine q_getR 9 6 100 dX9_tellEntry_97 rfl fiX9_54 rfl o1 f24 ?_
    obtain ⟨o25, hyp⟩ := hyp
    obtain ⟨r26, f27, hyp⟩ := hyp
    refine q_getR 2 1 103 dX9_tellEntry_100 rfl fiX9_258 rfl o25 f27 ?_
    refine ex_iload_n 104 dX9_tellEntry_103 rfl rfl ?_
    obtain ⟨o28, hyp⟩ := hyp
    refine ex_iald 105 dX9_tellEntry_104 rfl o28 ?_
    refine ex_iconst 106 dX9_tellEntry_105 rfl ?_
    obtain ⟨o29, hyp⟩ := hyp
    obtain ⟨ht, hf⟩ := hyp
    refine ex_icmp_ne 113 109 dX9_tellEntry_106 (by decide) rfl o29 ⟨by decide, by decide⟩ (fun c30 => ?_) (fun c30 => ?_)
    · have hyp := ht c30
      clear ht hf
      refine ex_iconst 114 dX9_tellEntry_113 rfl ?_
      exact ex_iret dX9_tellEntry_114 (Or.inl rfl) ⟨_, rfl, hyp⟩
    · have hyp := hf c30
      clear ht hf
      refine ex_iconst 110 dX9_tellEntry_109 rfl ?_
      refine ex_goto 114 dX9_tellEntry_110 (by decide) ?_
      exact ex_iret dX9_tellEntry_114 (Or.inl rfl) ⟨_, rfl, hyp⟩
set_option maxRecDepth 4000 in
theorem tX9_tellTwo {P : Int → PH → Prop} (h0 : PH) (a0 : Nat) (x1 : Int) (x2 : Int) (x3 : Int) (hyp : OB h0 9 a0 ∧ ∃ r2 : Nat, h0.2.2 a0 3 = some r2 ∧ OB h0 8 r2 ∧ ∃ r5 : Nat, h0.2.2 r2 0 = some r5 ∧ AI h0 21 r5 x1 ∧ ∃ r8 : Nat, h0.2.2 r5 (x1).toNat = some r8 ∧ AI h0 21 r5 x2 ∧ ∃ r11 : Nat, h0.2.2 r5 (x2).toNat = some r11 ∧ rng x3 ∧ (x3 < 0 ∨ 4 < x3 → (P (-102) h0)) ∧ (x3 = 0 → (OB h0 0 r8 ∧ METi mX0_distanceTo [vr r8, vr r11] h0 (fun y17 h15 => h15.1 = h0.1 → (P y17 h15)))) ∧ (x3 = 1 → (OB h0 0 r8 ∧ METi mX0_likenessTo [vr r8, vr r11] h0 (fun y21 h19 => h19.1 = h0.1 → (P y21 h19)))) ∧ (x3 = 2 → (∃ r22 : Nat, h0.2.2 a0 4 = some r22 ∧ OB h0 6 r22 ∧ ∃ r25 : Nat, h0.2.2 r22 0 = some r25 ∧ AI h0 23 r25 x1 ∧ ∃ r28 : Nat, h0.2.2 r25 (x1).toNat = some r28 ∧ AI h0 20 r28 x2 ∧ P (h0.2.1 r28 (x2).toNat) h0)) ∧ (x3 = 3 → (∃ r31 : Nat, h0.2.2 a0 4 = some r31 ∧ OB h0 6 r31 ∧ ∃ r34 : Nat, h0.2.2 r31 1 = some r34 ∧ AI h0 23 r34 x1 ∧ ∃ r37 : Nat, h0.2.2 r34 (x1).toNat = some r37 ∧ AI h0 20 r37 x2 ∧ P (h0.2.1 r37 (x2).toNat) h0)) ∧ (x3 = 4 → (OB h0 0 r8 ∧ METi mX0_yearsWith [vr r8, vr r11] h0 (fun y43 h41 => h41.1 = h0.1 → (P y43 h41))))) : METi mX9_tellTwo [vr a0, vi x1, vi x2, vi x3] h0 P := by
  refine met_of_ex (by decide +kernel) (Nat.le_of_ble_eq_true rfl) ?_
  show EX mX9_tellTwo 0 [some (vr a0), some (vi x1), some (vi x2), some (vi x3), none, none] [] h0 (0, 0) _
  refine ex_aload_n 1 dX9_tellTwo_0 rfl rfl ?_
  obtain ⟨o1, hyp⟩ := hyp
  obtain ⟨r2, f3, hyp⟩ := hyp
  refine q_getR 9 3 4 dX9_tellTwo_1 rfl fiX9_33 rfl o1 f3 ?_
  obtain ⟨o4, hyp⟩ := hyp
  obtain ⟨r5, f6, hyp⟩ := hyp
  refine q_getR 8 0 7 dX9_tellTwo_4 rfl fiX9_121 rfl o4 f6 ?_
  refine ex_iload_n 8 dX9_tellTwo_7 rfl rfl ?_
  obtain ⟨o7, hyp⟩ := hyp
  obtain ⟨r8, f9, hyp⟩ := hyp
  refine ex_aald 21 9 dX9_tellTwo_8 rfl (by decide) o7 f9 ?_
  refine q_astore [some (vr a0), some (vi x1), some (vi x2), some (vi x3), some (vr r8), none] 11 dX9_tellTwo_9 rfl (Nat.le_of_ble_eq_true rfl) rfl rfl ?_
  refine ex_aload_n 12 dX9_tellTwo_11 rfl rfl ?_
  refine q_getR 9 3 15 dX9_tellTwo_12 rfl fiX9_33 rfl o1 f3 ?_
  refine q_getR 8 0 18 dX9_tellTwo_15 rfl fiX9_121 rfl o4 f6 ?_
  refine ex_iload_n 19 dX9_tellTwo_18 rfl rfl ?_
  obtain ⟨o10, hyp⟩ := hyp
  obtain ⟨r11, f12, hyp⟩ := hyp
  refine ex_aald 21 20 dX9_tellTwo_19 rfl (by decide) o10 f12 ?_
  refine q_astore [some (vr a0), some (vi x1), some (vi x2), some (vi x3), some (vr r8), some (vr r11)] 22 dX9_tellTwo_20 rfl (Nat.le_of_ble_eq_true rfl) rfl rfl ?_
  refine ex_iload_n 23 dX9_tellTwo_22 rfl rfl ?_
  obtain ⟨o13, hyp⟩ := hyp
  obtain ⟨hd, hv0, hv1, hv2, hv3, hv4⟩ := hyp
  rcases (show (x3 < 0 ∨ 4 < x3) ∨ x3 = 0 ∨ x3 = 1 ∨ x3 = 2 ∨ x3 = 3 ∨ x3 = 4 by omega) with c | c | c | c | c | c
  · refine ex_tswOut 104 dX9_tellTwo_23 o13 c (by decide) ?_
    have hyp := hd c
    refine ex_bipush 106 dX9_tellTwo_104 rfl ⟨by decide, by decide⟩ ?_
    exact ex_iret dX9_tellTwo_106 (Or.inl rfl) ⟨_, rfl, hyp⟩
  · refine ex_tswIn 0 56 dX9_tellTwo_23 c ⟨by decide, by decide⟩ (by decide) (by decide) rfl (by decide) ?_
    have hyp := hv0 c
    refine ex_aload 58 dX9_tellTwo_56 rfl rfl ?_
    refine ex_aload 60 dX9_tellTwo_58 rfl rfl ?_
    obtain ⟨o14, hyp⟩ := hyp
    refine q_callVi [vr r11] 63 dX9_tellTwo_60 rfl cvX9_261 rfl rfl ⟨Nat.le_of_ble_eq_true rfl, Nat.le_of_ble_eq_true rfl⟩ (Nat.le_of_ble_eq_true rfl) o14 hyp (fun y17 h15 k16 hyp => ?_)
    exact ex_iret dX9_tellTwo_63 (Or.inl rfl) ⟨_, rfl, hyp⟩
  · refine ex_tswIn 1 64 dX9_tellTwo_23 c ⟨by decide, by decide⟩ (by decide) (by decide) rfl (by decide) ?_
    have hyp := hv1 c
    refine ex_aload 66 dX9_tellTwo_64 rfl rfl ?_
    refine ex_aload 68 dX9_tellTwo_66 rfl rfl ?_
    obtain ⟨o18, hyp⟩ := hyp
    refine q_callVi [vr r11] 71 dX9_tellTwo_68 rfl cvX9_265 rfl rfl ⟨Nat.le_of_ble_eq_true rfl, Nat.le_of_ble_eq_true rfl⟩ (Nat.le_of_ble_eq_true rfl) o18 hyp (fun y21 h19 k20 hyp => ?_)
    exact ex_iret dX9_tellTwo_71 (Or.inl rfl) ⟨_, rfl, hyp⟩
  · refine ex_tswIn 2 72 dX9_tellTwo_23 c ⟨by decide, by decide⟩ (by decide) (by decide) rfl (by decide) ?_
    have hyp := hv2 c
    refine ex_aload_n 73 dX9_tellTwo_72 rfl rfl ?_
    obtain ⟨r22, f23, hyp⟩ := hyp
    refine q_getR 9 4 76 dX9_tellTwo_73 rfl fiX9_40 rfl o1 f23 ?_
    obtain ⟨o24, hyp⟩ := hyp
    obtain ⟨r25, f26, hyp⟩ := hyp
    refine q_getR 6 0 79 dX9_tellTwo_76 rfl fiX9_268 rfl o24 f26 ?_
    refine ex_iload_n 80 dX9_tellTwo_79 rfl rfl ?_
    obtain ⟨o27, hyp⟩ := hyp
    obtain ⟨r28, f29, hyp⟩ := hyp
    refine ex_aald 23 81 dX9_tellTwo_80 rfl (by decide) o27 f29 ?_
    refine ex_iload_n 82 dX9_tellTwo_81 rfl rfl ?_
    obtain ⟨o30, hyp⟩ := hyp
    refine ex_iald 83 dX9_tellTwo_82 rfl o30 ?_
    exact ex_iret dX9_tellTwo_83 (Or.inl rfl) ⟨_, rfl, hyp⟩
  · refine ex_tswIn 3 84 dX9_tellTwo_23 c ⟨by decide, by decide⟩ (by decide) (by decide) rfl (by decide) ?_
    have hyp := hv3 c
    refine ex_aload_n 85 dX9_tellTwo_84 rfl rfl ?_
    obtain ⟨r31, f32, hyp⟩ := hyp
    refine q_getR 9 4 88 dX9_tellTwo_85 rfl fiX9_40 rfl o1 f32 ?_
    obtain ⟨o33, hyp⟩ := hyp
    obtain ⟨r34, f35, hyp⟩ := hyp
    refine q_getR 6 1 91 dX9_tellTwo_88 rfl fiX9_272 rfl o33 f35 ?_
    refine ex_iload_n 92 dX9_tellTwo_91 rfl rfl ?_
    obtain ⟨o36, hyp⟩ := hyp
    obtain ⟨r37, f38, hyp⟩ := hyp
    refine ex_aald 23 93 dX9_tellTwo_92 rfl (by decide) o36 f38 ?_
    refine ex_iload_n 94 dX9_tellTwo_93 rfl rfl ?_
    obtain ⟨o39, hyp⟩ := hyp
    refine ex_iald 95 dX9_tellTwo_94 rfl o39 ?_
    exact ex_iret dX9_tellTwo_95 (Or.inl rfl) ⟨_, rfl, hyp⟩
  · refine ex_tswIn 4 96 dX9_tellTwo_23 c ⟨by decide, by decide⟩ (by decide) (by decide) rfl (by decide) ?_
    have hyp := hv4 c
    refine ex_aload 98 dX9_tellTwo_96 rfl rfl ?_
    refine ex_aload 100 dX9_tellTwo_98 rfl rfl ?_
    obtain ⟨o40, hyp⟩ := hyp
    refine q_callVi [vr r11] 103 dX9_tellTwo_100 rfl cvX9_275 rfl rfl ⟨Nat.le_of_ble_eq_true rfl, Nat.le_of_ble_eq_true rfl⟩ (Nat.le_of_ble_eq_true rfl) o40 hyp (fun y43 h41 k42 hyp => ?_)
    exact ex_iret dX9_tellTwo_103 (Or.inl rfl) ⟨_, rfl, hyp⟩
set_option maxRecDepth 4000 in
theorem tX9_tellLives {P : Int → PH → Prop} (h0 : PH) (a0 : Nat) (x1 : Int) (hyp : rng x1 ∧ (x1 < 0 ∨ 5 < x1 → (P (-102) h0)) ∧ (x1 = 0 → (OB h0 9 a0 ∧ ∃ r3 : Nat, h0.2.2 a0 6 = some r3 ∧ OB h0 2 r3 ∧ P (h0.2.1 r3 2) h0)) ∧ (x1 = 1 → (OB h0 9 a0 ∧ ∃ r7 : Nat, h0.2.2 a0 5 = some r7 ∧ OB h0 3 r7 ∧ P (h0.2.1 r7 1) h0)) ∧ (x1 = 2 → (OB h0 9 a0 ∧ ∃ r11 : Nat, h0.2.2 a0 5 = some r11 ∧ OB h0 3 r11 ∧ P (h0.2.1 r11 2) h0)) ∧ (x1 = 3 → (OB h0 9 a0 ∧ ∃ r15 : Nat, h0.2.2 a0 6 = some r15 ∧ OB h0 2 r15 ∧ P (h0.2.1 r15 4) h0)) ∧ (x1 = 4 → (OB h0 9 a0 ∧ ∃ r19 : Nat, h0.2.2 a0 6 = some r19 ∧ OB h0 2 r19 ∧ METi mX2_countShaky [vr r19] h0 (fun y24 h22 => h22.1 = h0.1 → (P y24 h22)))) ∧ (x1 = 5 → (OB h0 9 a0 ∧ ∃ r26 : Nat, h0.2.2 a0 6 = some r26 ∧ OB h0 2 r26 ∧ METi mX2_countSingle [vr r26] h0 (fun y31 h29 => h29.1 = h0.1 → (P y31 h29))))) : METi mX9_tellLives [vr a0, vi x1] h0 P := by
  refine met_of_ex (by decide +kernel) (Nat.le_of_ble_eq_true rfl) ?_
  show EX mX9_tellLives 0 [some (vr a0), some (vi x1)] [] h0 (0, 0) _
  refine ex_iload_n 1 dX9_tellLives_0 rfl rfl ?_
  obtain ⟨o1, hyp⟩ := hyp
  obtain ⟨hd, hv0, hv1, hv2, hv3, hv4, hv5⟩ := hyp
  rcases (show (x1 < 0 ∨ 5 < x1) ∨ x1 = 0 ∨ x1 = 1 ∨ x1 = 2 ∨ x1 = 3 ∨ x1 = 4 ∨ x1 = 5 by omega) with c | c | c | c | c | c | c
  · refine ex_tswOut 88 dX9_tellLives_1 o1 c (by decide) ?_
    have hyp := hd c
    refine ex_bipush 90 dX9_tellLives_88 rfl ⟨by decide, by decide⟩ ?_
    exact ex_iret dX9_tellLives_90 (Or.inl rfl) ⟨_, rfl, hyp⟩
  · refine ex_tswIn 0 40 dX9_tellLives_1 c ⟨by decide, by decide⟩ (by decide) (by decide) rfl (by decide) ?_
    have hyp := hv0 c
    refine ex_aload_n 41 dX9_tellLives_40 rfl rfl ?_
    obtain ⟨o2, hyp⟩ := hyp
    obtain ⟨r3, f4, hyp⟩ := hyp
    refine q_getR 9 6 44 dX9_tellLives_41 rfl fiX9_54 rfl o2 f4 ?_
    obtain ⟨o5, hyp⟩ := hyp
    refine q_getI 2 2 47 dX9_tellLives_44 rfl fiX9_278 (Or.inl rfl) o5 ?_
    exact ex_iret dX9_tellLives_47 (Or.inl rfl) ⟨_, rfl, hyp⟩
  · refine ex_tswIn 1 48 dX9_tellLives_1 c ⟨by decide, by decide⟩ (by decide) (by decide) rfl (by decide) ?_
    have hyp := hv1 c
    refine ex_aload_n 49 dX9_tellLives_48 rfl rfl ?_
    obtain ⟨o6, hyp⟩ := hyp
    obtain ⟨r7, f8, hyp⟩ := hyp
    refine q_getR 9 5 52 dX9_tellLives_49 rfl fiX9_47 rfl o6 f8 ?_
    obtain ⟨o9, hyp⟩ := hyp
    refine q_getI 3 1 55 dX9_tellLives_52 rfl fiX9_279 (Or.inl rfl) o9 ?_
    exact ex_iret dX9_tellLives_55 (Or.inl rfl) ⟨_, rfl, hyp⟩
  · refine ex_tswIn 2 56 dX9_tellLives_1 c ⟨by decide, by decide⟩ (by decide) (by decide) rfl (by decide) ?_
    have hyp := hv2 c
    refine ex_aload_n 57 dX9_tellLives_56 rfl rfl ?_
    obtain ⟨o10, hyp⟩ := hyp
    obtain ⟨r11, f12, hyp⟩ := hyp
    refine q_getR 9 5 60 dX9_tellLives_57 rfl fiX9_47 rfl o10 f12 ?_
    obtain ⟨o13, hyp⟩ := hyp
    refine q_getI 3 2 63 dX9_tellLives_60 rfl fiX9_281 (Or.inl rfl) o13 ?_
    exact ex_iret dX9_tellLives_63 (Or.inl rfl) ⟨_, rfl, hyp⟩
  · refine ex_tswIn 3 64 dX9_tellLives_1 c ⟨by decide, by decide⟩ (by decide) (by decide) rfl (by decide) ?_
    have hyp := hv3 c
    refine ex_aload_n 65 dX9_tellLives_64 rfl rfl ?_
    obtain ⟨o14, hyp⟩ := hyp
    obtain ⟨r15, f16, hyp⟩ := hyp
    refine q_getR 9 6 68 dX9_tellLives_65 rfl fiX9_54 rfl o14 f16 ?_
    obtain ⟨o17, hyp⟩ := hyp
    refine q_getI 2 4 71 dX9_tellLives_68 rfl fiX9_283 (Or.inl rfl) o17 ?_
    exact ex_iret dX9_tellLives_71 (Or.inl rfl) ⟨_, rfl, hyp⟩
  · refine ex_tswIn 4 72 dX9_tellLives_1 c ⟨by decide, by decide⟩ (by decide) (by decide) rfl (by decide) ?_
    have hyp := hv4 c
    refine ex_aload_n 73 dX9_tellLives_72 rfl rfl ?_
    obtain ⟨o18, hyp⟩ := hyp
    obtain ⟨r19, f20, hyp⟩ := hyp
    refine q_getR 9 6 76 dX9_tellLives_73 rfl fiX9_54 rfl o18 f20 ?_
    obtain ⟨o21, hyp⟩ := hyp
    refine q_callVi [] 79 dX9_tellLives_76 rfl cvX9_286 rfl rfl ⟨Nat.le_of_ble_eq_true rfl, Nat.le_of_ble_eq_true rfl⟩ (Nat.le_of_ble_eq_true rfl) o21 hyp (fun y24 h22 k23 hyp => ?_)
    exact ex_iret dX9_tellLives_79 (Or.inl rfl) ⟨_, rfl, hyp⟩
  · refine ex_tswIn 5 80 dX9_tellLives_1 c ⟨by decide, by decide⟩ (by decide) (by decide) rfl (by decide) ?_
    have hyp := hv5 c
    refine ex_aload_n 81 dX9_tellLives_80 rfl rfl ?_
    obtain ⟨o25, hyp⟩ := hyp
    obtain ⟨r26, f27, hyp⟩ := hyp
    refine q_getR 9 6 84 dX9_tellLives_81 rfl fiX9_54 rfl o25 f27 ?_
    obtain ⟨o28, hyp⟩ := hyp
    refine q_callVi [] 87 dX9_tellLives_84 rfl cvX9_289 rfl rfl ⟨Nat.le_of_ble_eq_true rfl, Nat.le_of_ble_eq_true rfl⟩ (Nat.le_of_ble_eq_true rfl) o28 hyp (fun y31 h29 k30 hyp => ?_)
    exact ex_iret dX9_tellLives_87 (Or.inl rfl) ⟨_, rfl, hyp⟩
set_option maxRecDepth 4000 in
theorem tX9_tellLife {P : Int → PH → Prop} (h0 : PH) (a0 : Nat) (x1 : Int) (hyp : rng x1 ∧ (x1 < 0 ∨ 7 < x1 → (P (-102) h0)) ∧ (x1 = 0 → (OB h0 1 a0 ∧ P (h0.2.1 a0 3) h0)) ∧ (x1 = 1 → (OB h0 1 a0 ∧ P (h0.2.1 a0 4) h0)) ∧ (x1 = 2 → (OB h0 1 a0 ∧ METi mX1_weddings [vr a0] h0 (fun y7 h5 => h5.1 = h0.1 → (P y7 h5)))) ∧ (x1 = 3 → (OB h0 1 a0 ∧ METi mX1_isBorn [vr a0] h0 (fun y11 h9 => h9.1 = h0.1 → (rng y11 ∧ (y11 = 0 → (P (-1) h9)) ∧ (¬ y11 = 0 → (P (h9.2.1 a0 5) h9)))))) ∧ (x1 = 4 → (OB h0 1 a0 ∧ METi mX1_isBorn [vr a0] h0 (fun y18 h16 => h16.1 = h0.1 → (rng y18 ∧ (y18 = 0 → (P (-1) h16)) ∧ (¬ y18 = 0 → (P (h16.2.1 a0 6) h16)))))) ∧ (x1 = 5 → (OB h0 1 a0 ∧ rng (h0.2.1 a0 8) ∧ (h0.2.1 a0 8 = 0 → (P 0 h0)) ∧ (¬ h0.2.1 a0 8 = 0 → (P 1 h0)))) ∧ (x1 = 6 → (OB h0 1 a0 ∧ P (h0.2.1 a0 1) h0)) ∧ (x1 = 7 → (OB h0 1 a0 ∧ P (h0.2.1 a0 7) h0))) : METi mX9_tellLife [vr a0, vi x1] h0 P := by
  refine met_of_ex (by decide +kernel) (Nat.le_of_ble_eq_true rfl) ?_
  show EX mX9_tellLife 0 [some (vr a0), some (vi x1)] [] h0 (0, 0) _
  refine ex_iload_n 1 dX9_tellLife_0 rfl rfl ?_
  obtain ⟨o1, hyp⟩ := hyp
  obtain ⟨hd, hv0, hv1, hv2, hv3, hv4, hv5, hv6, hv7⟩ := hyp
  rcases (show (x1 < 0 ∨ 7 < x1) ∨ x1 = 0 ∨ x1 = 1 ∨ x1 = 2 ∨ x1 = 3 ∨ x1 = 4 ∨ x1 = 5 ∨ x1 = 6 ∨ x1 = 7 by omega) with c | c | c | c | c | c | c | c | c
  · refine ex_tswOut 118 dX9_tellLife_1 o1 c (by decide) ?_
    have hyp := hd c
    refine ex_bipush 120 dX9_tellLife_118 rfl ⟨by decide, by decide⟩ ?_
    exact ex_iret dX9_tellLife_120 (Or.inl rfl) ⟨_, rfl, hyp⟩
  · refine ex_tswIn 0 48 dX9_tellLife_1 c ⟨by decide, by decide⟩ (by decide) (by decide) rfl (by decide) ?_
    have hyp := hv0 c
    refine ex_aload_n 49 dX9_tellLife_48 rfl rfl ?_
    obtain ⟨o2, hyp⟩ := hyp
    refine q_getI 1 3 52 dX9_tellLife_49 rfl fiX9_292 (Or.inl rfl) o2 ?_
    exact ex_iret dX9_tellLife_52 (Or.inl rfl) ⟨_, rfl, hyp⟩
  · refine ex_tswIn 1 53 dX9_tellLife_1 c ⟨by decide, by decide⟩ (by decide) (by decide) rfl (by decide) ?_
    have hyp := hv1 c
    refine ex_aload_n 54 dX9_tellLife_53 rfl rfl ?_
    obtain ⟨o3, hyp⟩ := hyp
    refine q_getI 1 4 57 dX9_tellLife_54 rfl fiX9_295 (Or.inl rfl) o3 ?_
    exact ex_iret dX9_tellLife_57 (Or.inl rfl) ⟨_, rfl, hyp⟩
  · refine ex_tswIn 2 58 dX9_tellLife_1 c ⟨by decide, by decide⟩ (by decide) (by decide) rfl (by decide) ?_
    have hyp := hv2 c
    refine ex_aload_n 59 dX9_tellLife_58 rfl rfl ?_
    obtain ⟨o4, hyp⟩ := hyp
    refine q_callVi [] 62 dX9_tellLife_59 rfl cvX9_180 rfl rfl ⟨Nat.le_of_ble_eq_true rfl, Nat.le_of_ble_eq_true rfl⟩ (Nat.le_of_ble_eq_true rfl) o4 hyp (fun y7 h5 k6 hyp => ?_)
    exact ex_iret dX9_tellLife_62 (Or.inl rfl) ⟨_, rfl, hyp⟩
  · refine ex_tswIn 3 63 dX9_tellLife_1 c ⟨by decide, by decide⟩ (by decide) (by decide) rfl (by decide) ?_
    have hyp := hv3 c
    refine ex_aload_n 64 dX9_tellLife_63 rfl rfl ?_
    obtain ⟨o8, hyp⟩ := hyp
    refine q_callVi [] 67 dX9_tellLife_64 rfl cvX9_298 rfl rfl ⟨Nat.le_of_ble_eq_true rfl, Nat.le_of_ble_eq_true rfl⟩ (Nat.le_of_ble_eq_true rfl) o8 hyp (fun y11 h9 k10 hyp => ?_)
    obtain ⟨o12, hyp⟩ := hyp
    obtain ⟨ht, hf⟩ := hyp
    refine ex_if_eq 77 70 dX9_tellLife_67 (by decide) rfl o12 (fun c14 => ?_) (fun c14 => ?_)
    · have hyp := ht c14
      clear ht hf
      refine ex_iconst 78 dX9_tellLife_77 rfl ?_
      exact ex_iret dX9_tellLife_78 (Or.inl rfl) ⟨_, rfl, hyp⟩
    · have hyp := hf c14
      clear ht hf
      refine ex_aload_n 71 dX9_tellLife_70 rfl rfl ?_
      have f13 := OB.of k10 o8
      refine q_getI 1 5 74 dX9_tellLife_71 rfl fiX9_301 (Or.inl rfl) f13 ?_
      refine ex_goto 78 dX9_tellLife_74 (by decide) ?_
      exact ex_iret dX9_tellLife_78 (Or.inl rfl) ⟨_, rfl, hyp⟩
  · refine ex_tswIn 4 79 dX9_tellLife_1 c ⟨by decide, by decide⟩ (by decide) (by decide) rfl (by decide) ?_
    have hyp := hv4 c
    refine ex_aload_n 80 dX9_tellLife_79 rfl rfl ?_
    obtain ⟨o15, hyp⟩ := hyp
    refine q_callVi [] 83 dX9_tellLife_80 rfl cvX9_298 rfl rfl ⟨Nat.le_of_ble_eq_true rfl, Nat.le_of_ble_eq_true rfl⟩ (Nat.le_of_ble_eq_true rfl) o15 hyp (fun y18 h16 k17 hyp => ?_)
    obtain ⟨o19, hyp⟩ := hyp
    obtain ⟨ht, hf⟩ := hyp
    refine ex_if_eq 93 86 dX9_tellLife_83 (by decide) rfl o19 (fun c21 => ?_) (fun c21 => ?_)
    · have hyp := ht c21
      clear ht hf
      refine ex_iconst 94 dX9_tellLife_93 rfl ?_
      exact ex_iret dX9_tellLife_94 (Or.inl rfl) ⟨_, rfl, hyp⟩
    · have hyp := hf c21
      clear ht hf
      refine ex_aload_n 87 dX9_tellLife_86 rfl rfl ?_
      have f20 := OB.of k17 o15
      refine q_getI 1 6 90 dX9_tellLife_87 rfl fiX9_302 (Or.inl rfl) f20 ?_
      refine ex_goto 94 dX9_tellLife_90 (by decide) ?_
      exact ex_iret dX9_tellLife_94 (Or.inl rfl) ⟨_, rfl, hyp⟩
  · refine ex_tswIn 5 95 dX9_tellLife_1 c ⟨by decide, by decide⟩ (by decide) (by decide) rfl (by decide) ?_
    have hyp := hv5 c
    refine ex_aload_n 96 dX9_tellLife_95 rfl rfl ?_
    obtain ⟨o22, hyp⟩ := hyp
    refine q_getI 1 8 99 dX9_tellLife_96 rfl fiX9_303 (Or.inr rfl) o22 ?_
    obtain ⟨o23, hyp⟩ := hyp
    obtain ⟨ht, hf⟩ := hyp
    refine ex_if_eq 106 102 dX9_tellLife_99 (by decide) rfl o23 (fun c24 => ?_) (fun c24 => ?_)
    · have hyp := ht c24
      clear ht hf
      refine ex_iconst 107 dX9_tellLife_106 rfl ?_
      exact ex_iret dX9_tellLife_107 (Or.inl rfl) ⟨_, rfl, hyp⟩
    · have hyp := hf c24
      clear ht hf
      refine ex_iconst 103 dX9_tellLife_102 rfl ?_
      refine ex_goto 107 dX9_tellLife_103 (by decide) ?_
      exact ex_iret dX9_tellLife_107 (Or.inl rfl) ⟨_, rfl, hyp⟩
  · refine ex_tswIn 6 108 dX9_tellLife_1 c ⟨by decide, by decide⟩ (by decide) (by decide) rfl (by decide) ?_
    have hyp := hv6 c
    refine ex_aload_n 109 dX9_tellLife_108 rfl rfl ?_
    obtain ⟨o25, hyp⟩ := hyp
    refine q_getI 1 1 112 dX9_tellLife_109 rfl fiX9_306 (Or.inl rfl) o25 ?_
    exact ex_iret dX9_tellLife_112 (Or.inl rfl) ⟨_, rfl, hyp⟩
  · refine ex_tswIn 7 113 dX9_tellLife_1 c ⟨by decide, by decide⟩ (by decide) (by decide) rfl (by decide) ?_
    have hyp := hv7 c
    refine ex_aload_n 114 dX9_tellLife_113 rfl rfl ?_
    obtain ⟨o26, hyp⟩ := hyp
    refine q_getI 1 7 117 dX9_tellLife_114 rfl fiX9_307 (Or.inl rfl) o26 ?_
    exact ex_iret dX9_tellLife_117 (Or.inl rfl) ⟨_, rfl, hyp⟩
set_option maxRecDepth 4000 in
theorem tX9_mixed {P : Int → PH → Prop} (h0 : PH) (x0 : Int) (x2 : Int) (hyp : P ((31 * x0) + x2) h0) : METl mX9_mixed [vl x0, vl x2] h0 P := by
  refine met_of_ex (by decide +kernel) (Nat.le_of_ble_eq_true rfl) ?_
  show EX mX9_mixed 0 [some (vl x0), none, some (vl x2), none] [] h0 (0, 0) _
  refine ex_ldc2 (n := 31) 3 dX9_mixed_0 rfl (wt4 75 rfl rfl) ?_
  refine ex_lload_n 4 dX9_mixed_3 rfl rfl ?_
  refine ex_lmul 5 dX9_mixed_4 rfl ?_
  refine ex_lload_n 6 dX9_mixed_5 rfl rfl ?_
  refine ex_ladd 7 dX9_mixed_6 rfl ?_
  exact ex_lret dX9_mixed_7 rfl ⟨_, rfl, hyp⟩
set_option maxRecDepth 4000 in
theorem tX9_mixEntries {P : Int → PH → Prop} (h0 : PH) (a0 : Nat) (x1 : Int) (hyp : EXl mX9_mixEntries 5 [some (vr a0), none, none, some (vl x1), none, some (vi 0), none, none] [] h0 P) : METl mX9_mixEntries [vr a0, vl x1] h0 P := by
  refine met_of_ex (by decide +kernel) (Nat.le_of_ble_eq_true rfl) ?_
  show EX mX9_mixEntries 0 [some (vr a0), some (vl x1), none, none, none, none, none, none] [] h0 (0, 0) _
  refine ex_lload_n 1 dX9_mixEntries_0 rfl rfl ?_
  refine q_lstore_n [some (vr a0), some (vl x1), none, some (vl x1), none, none, none, none] 2 dX9_mixEntries_1 rfl (Nat.le_of_ble_eq_true rfl) rfl rfl ?_
  refine ex_iconst 3 dX9_mixEntries_2 rfl ?_
  refine q_istore [some (vr a0), some (vl x1), none, some (vl x1), none, some (vi 0), none, none] 5 dX9_mixEntries_3 rfl (Nat.le_of_ble_eq_true rfl) rfl rfl ?_
  refine ex_dropL (ls' := [some (vr a0), none, none, some (vl x1), none, some (vi 0), none, none]) 1 rfl ?_
  exact hyp
set_option maxRecDepth 4000 in
theorem tX9_mixEntries_5 {P : Int → PH → Prop} (h0 : PH) (a0 : Nat) (x3 : Int) (x5 : Int) (hyp : OB h0 9 a0 ∧ ∃ r2 : Nat, h0.2.2 a0 3 = some r2 ∧ OB h0 8 r2 ∧ rng x5 ∧ rng (h0.2.1 r2 2) ∧ (h0.2.1 r2 2 ≤ x5 → (P x3 h0)) ∧ (x5 < h0.2.1 r2 2 → (EXl mX9_mixEntries 20 [some (vr a0), none, none, some (vl x3), none, some (vi x5), some (vi 0), none] [] h0 P))) : EXl mX9_mixEntries 5 [some (vr a0), none, none, some (vl x3), none, some (vi x5), none, none] [] h0 P := by
  refine ex_iload 7 dX9_mixEntries_5 rfl rfl ?_
  refine ex_aload_n 8 dX9_mixEntries_7 rfl rfl ?_
  obtain ⟨o1, hyp⟩ := hyp
  obtain ⟨r2, f3, hyp⟩ := hyp
  refine q_getR 9 3 11 dX9_mixEntries_8 rfl fiX9_33 rfl o1 f3 ?_
  obtain ⟨o4, hyp⟩ := hyp
  refine q_getI 8 2 14 dX9_mixEntries_11 rfl fiX9_142 (Or.inl rfl) o4 ?_
  obtain ⟨o5, hyp⟩ := hyp
  obtain ⟨o6, hyp⟩ := hyp
  obtain ⟨ht, hf⟩ := hyp
  refine ex_icmp_ge 128 17 dX9_mixEntries_14 (by decide) rfl o5 o6 (fun c7 => ?_) (fun c7 => ?_)
  · have hyp := ht c7
    clear ht hf
    refine ex_lload_n 129 dX9_mixEntries_128 rfl rfl ?_
    exact ex_lret dX9_mixEntries_129 rfl ⟨_, rfl, hyp⟩
  · have hyp := hf c7
    clear ht hf
    refine ex_iconst 18 dX9_mixEntries_17 rfl ?_
    refine q_istore [some (vr a0), none, none, some (vl x3), none, some (vi x5), some (vi 0), none] 20 dX9_mixEntries_18 rfl (Nat.le_of_ble_eq_true rfl) rfl rfl ?_
    exact hyp
set_option maxRecDepth 4000 in
theorem tX9_mixEntries_20 {P : Int → PH → Prop} (h0 : PH) (a0 : Nat) (x3 : Int) (x5 : Int) (x6 : Int) (hyp : rng x6 ∧ (7 < x6 → (OB h0 9 a0 ∧ ∃ r3 : Nat, h0.2.2 a0 3 = some r3 ∧ OB h0 8 r3 ∧ ∃ r6 : Nat, h0.2.2 r3 0 = some r6 ∧ AI h0 21 r6 x5 ∧ ∃ r9 : Nat, h0.2.2 r6 (x5).toNat = some r9 ∧ EXl mX9_mixEntries 62 [some (vr a0), none, none, some (vl x3), none, some (vi x5), some (vr r9), some (vi 0)] [] h0 P)) ∧ (x6 ≤ 7 → (OB h0 9 a0 ∧ METi mX9_tellEntry [vr a0, vi x5, vi x6] h0 (fun y14 h12 => h12.1 = h0.1 → (rng y14 ∧ METl mX9_mixed [vl x3, vl y14] h12 (fun y18 h16 => h16.1 = h12.1 → (EXl mX9_mixEntries 20 [some (vr a0), none, none, some (vl y18), none, some (vi x5), some (vi (x6 + 1)), none] [] h16 P))))))) : EXl mX9_mixEntries 20 [some (vr a0), none, none, some (vl x3), none, some (vi x5), some (vi x6), none] [] h0 P := by
  refine ex_iload 22 dX9_mixEntries_20 rfl rfl ?_
  refine ex_bipush 24 dX9_mixEntries_22 rfl ⟨by decide, by decide⟩ ?_
  obtain ⟨o1, hyp⟩ := hyp
  obtain ⟨ht, hf⟩ := hyp
  refine ex_icmp_gt 47 27 dX9_mixEntries_24 (by decide) rfl o1 ⟨by decide, by decide⟩ (fun c19 => ?_) (fun c19 => ?_)
  · have hyp := ht c19
    clear ht hf
    refine ex_aload_n 48 dX9_mixEntries_47 rfl rfl ?_
    obtain ⟨o2, hyp⟩ := hyp
    obtain ⟨r3, f4, hyp⟩ := hyp
    refine q_getR 9 3 51 dX9_mixEntries_48 rfl fiX9_33 rfl o2 f4 ?_
    obtain ⟨o5, hyp⟩ := hyp
    obtain ⟨r6, f7, hyp⟩ := hyp
    refine q_getR 8 0 54 dX9_mixEntries_51 rfl fiX9_121 rfl o5 f7 ?_
    refine ex_iload 56 dX9_mixEntries_54 rfl rfl ?_
    obtain ⟨o8, hyp⟩ := hyp
    obtain ⟨r9, f10, hyp⟩ := hyp
    refine ex_aald 21 57 dX9_mixEntries_56 rfl (by decide) o8 f10 ?_
    refine q_astore [some (vr a0), none, none, some (vl x3), none, some (vi x5), some (vr r9), none] 59 dX9_mixEntries_57 rfl (Nat.le_of_ble_eq_true rfl) rfl rfl ?_
    refine ex_iconst 60 dX9_mixEntries_59 rfl ?_
    refine q_istore [some (vr a0), none, none, some (vl x3), none, some (vi x5), some (vr r9), some (vi 0)] 62 dX9_mixEntries_60 rfl (Nat.le_of_ble_eq_true rfl) rfl rfl ?_
    exact hyp
  · have hyp := hf c19
    clear ht hf
    refine ex_lload_n 28 dX9_mixEntries_27 rfl rfl ?_
    refine ex_aload_n 29 dX9_mixEntries_28 rfl rfl ?_
    refine ex_iload 31 dX9_mixEntries_29 rfl rfl ?_
    refine ex_iload 33 dX9_mixEntries_31 rfl rfl ?_
    obtain ⟨o11, hyp⟩ := hyp
    refine q_callVi [vi x5, vi x6] 36 dX9_mixEntries_33 rfl cvX9_117 rfl rfl ⟨Nat.le_of_ble_eq_true rfl, Nat.le_of_ble_eq_true rfl⟩ (Nat.le_of_ble_eq_true rfl) o11 hyp (fun y14 h12 k13 hyp => ?_)
    obtain ⟨o15, hyp⟩ := hyp
    refine ex_i2l 37 dX9_mixEntries_36 rfl o15 ?_
    refine q_callSl [vl x3, vl y14] 40 dX9_mixEntries_37 rfl cvX9_226 rfl rfl ⟨Nat.le_of_ble_eq_true rfl, Nat.le_of_ble_eq_true rfl⟩ (Nat.le_of_ble_eq_true rfl) hyp (fun y18 h16 k17 hyp => ?_)
    refine q_lstore_n [some (vr a0), none, none, some (vl y18), none, some (vi x5), some (vi x6), none] 41 dX9_mixEntries_40 rfl (Nat.le_of_ble_eq_true rfl) rfl rfl ?_
    refine q_iinc [some (vr a0), none, none, some (vl y18), none, some (vi x5), some (vi (x6 + 1)), none] 44 dX9_mixEntries_41 rfl rfl (Nat.le_of_ble_eq_true rfl) rfl rfl ?_
    refine ex_goto 20 dX9_mixEntries_44 (by decide) ?_
    exact hyp
set_option maxRecDepth 4000 in
theorem tX9_mixEntries_62 {P : Int → PH → Prop} (h0 : PH) (a0 : Nat) (x3 : Int) (x5 : Int) (a6 : Nat) (x7 : Int) (hyp : OB h0 0 a6 ∧ rng x7 ∧ rng (h0.2.1 a6 3) ∧ (h0.2.1 a6 3 ≤ x7 → (OB h0 9 a0 ∧ ∃ r5 : Nat, h0.2.2 a0 4 = some r5 ∧ OB h0 6 r5 ∧ METi mX6_countFitting [vr r5, vi x5] h0 (fun y10 h8 => h8.1 = h0.1 → (rng y10 ∧ METl mX9_mixed [vl x3, vl y10] h8 (fun y14 h12 => h12.1 = h8.1 → (∃ r17 : Nat, h12.2.2 a0 4 = some r17 ∧ OB h12 6 r17 ∧ METi mX6_bestFor [vr r17, vi x5] h12 (fun y22 h20 => h20.1 = h12.1 → (rng y22 ∧ METl mX9_mixed [vl y14, vl y22] h20 (fun y26 h24 => h24.1 = h20.1 → (EXl mX9_mixEntries 5 [some (vr a0), none, none, some (vl y26), none, some (vi (x5 + 1)), none, none] [] h24 P)))))))))) ∧ (x7 < h0.2.1 a6 3 → (∃ r27 : Nat, h0.2.2 a6 1 = some r27 ∧ AI h0 20 r27 x7 ∧ rng (h0.2.1 r27 (x7).toNat) ∧ METl mX9_mixed [vl x3, vl (h0.2.1 r27 (x7).toNat)] h0 (fun y33 h31 => h31.1 = h0.1 → (EXl mX9_mixEntries 62 [some (vr a0), none, none, some (vl y33), none, some (vi x5), some (vr a6), some (vi (x7 + 1))] [] h31 P))))) : EXl mX9_mixEntries 62 [some (vr a0), none, none, some (vl x3), none, some (vi x5), some (vr a6), some (vi x7)] [] h0 P := by
  refine ex_iload 64 dX9_mixEntries_62 rfl rfl ?_
  refine ex_aload 66 dX9_mixEntries_64 rfl rfl ?_
  obtain ⟨o1, hyp⟩ := hyp
  refine q_getI 0 3 69 dX9_mixEntries_66 rfl fiX9_125 (Or.inl rfl) o1 ?_
  obtain ⟨o2, hyp⟩ := hyp
  obtain ⟨o3, hyp⟩ := hyp
  obtain ⟨ht, hf⟩ := hyp
  refine ex_icmp_ge 92 72 dX9_mixEntries_69 (by decide) rfl o2 o3 (fun c34 => ?_) (fun c34 => ?_)
  · have hyp := ht c34
    clear ht hf
    refine ex_lload_n 93 dX9_mixEntries_92 rfl rfl ?_
    refine ex_aload_n 94 dX9_mixEntries_93 rfl rfl ?_
    obtain ⟨o4, hyp⟩ := hyp
    obtain ⟨r5, f6, hyp⟩ := hyp
    refine q_getR 9 4 97 dX9_mixEntries_94 rfl fiX9_40 rfl o4 f6 ?_
    refine ex_iload 99 dX9_mixEntries_97 rfl rfl ?_
    obtain ⟨o7, hyp⟩ := hyp
    refine q_callVi [vi x5] 102 dX9_mixEntries_99 rfl cvX9_161 rfl rfl ⟨Nat.le_of_ble_eq_true rfl, Nat.le_of_ble_eq_true rfl⟩ (Nat.le_of_ble_eq_true rfl) o7 hyp (fun y10 h8 k9 hyp => ?_)
    obtain ⟨o11, hyp⟩ := hyp
    refine ex_i2l 103 dX9_mixEntries_102 rfl o11 ?_
    refine q_callSl [vl x3, vl y10] 106 dX9_mixEntries_103 rfl cvX9_226 rfl rfl ⟨Nat.le_of_ble_eq_true rfl, Nat.le_of_ble_eq_true rfl⟩ (Nat.le_of_ble_eq_true rfl) hyp (fun y14 h12 k13 hyp => ?_)
    refine q_lstore_n [some (vr a0), none, none, some (vl y14), none, some (vi x5), some (vr a6), some (vi x7)] 107 dX9_mixEntries_106 rfl (Nat.le_of_ble_eq_true rfl) rfl rfl ?_
    refine ex_lload_n 108 dX9_mixEntries_107 rfl rfl ?_
    refine ex_aload_n 109 dX9_mixEntries_108 rfl rfl ?_
    have f15 := OB.of k9 o4
    have f16 := OB.of k13 f15
    obtain ⟨r17, f18, hyp⟩ := hyp
    refine q_getR 9 4 112 dX9_mixEntries_109 rfl fiX9_40 rfl f16 f18 ?_
    refine ex_iload 114 dX9_mixEntries_112 rfl rfl ?_
    obtain ⟨o19, hyp⟩ := hyp
    refine q_callVi [vi x5] 117 dX9_mixEntries_114 rfl cvX9_165 rfl rfl ⟨Nat.le_of_ble_eq_true rfl, Nat.le_of_ble_eq_true rfl⟩ (Nat.le_of_ble_eq_true rfl) o19 hyp (fun y22 h20 k21 hyp => ?_)
    obtain ⟨o23, hyp⟩ := hyp
    refine ex_i2l 118 dX9_mixEntries_117 rfl o23 ?_
    refine q_callSl [vl y14, vl y22] 121 dX9_mixEntries_118 rfl cvX9_226 rfl rfl ⟨Nat.le_of_ble_eq_true rfl, Nat.le_of_ble_eq_true rfl⟩ (Nat.le_of_ble_eq_true rfl) hyp (fun y26 h24 k25 hyp => ?_)
    refine q_lstore_n [some (vr a0), none, none, some (vl y26), none, some (vi x5), some (vr a6), some (vi x7)] 122 dX9_mixEntries_121 rfl (Nat.le_of_ble_eq_true rfl) rfl rfl ?_
    refine q_iinc [some (vr a0), none, none, some (vl y26), none, some (vi (x5 + 1)), some (vr a6), some (vi x7)] 125 dX9_mixEntries_122 rfl rfl (Nat.le_of_ble_eq_true rfl) rfl rfl ?_
    refine ex_goto 5 dX9_mixEntries_125 (by decide) ?_
    refine ex_dropL (ls' := [some (vr a0), none, none, some (vl y26), none, some (vi (x5 + 1)), none, some (vi x7)]) 6 rfl ?_
    refine ex_dropL (ls' := [some (vr a0), none, none, some (vl y26), none, some (vi (x5 + 1)), none, none]) 7 rfl ?_
    exact hyp
  · have hyp := hf c34
    clear ht hf
    refine ex_lload_n 73 dX9_mixEntries_72 rfl rfl ?_
    refine ex_aload 75 dX9_mixEntries_73 rfl rfl ?_
    obtain ⟨r27, f28, hyp⟩ := hyp
    refine q_getR 0 1 78 dX9_mixEntries_75 rfl fiX9_130 rfl o1 f28 ?_
    refine ex_iload 80 dX9_mixEntries_78 rfl rfl ?_
    obtain ⟨o29, hyp⟩ := hyp
    refine ex_iald 81 dX9_mixEntries_80 rfl o29 ?_
    obtain ⟨o30, hyp⟩ := hyp
    refine ex_i2l 82 dX9_mixEntries_81 rfl o30 ?_
    refine q_callSl [vl x3, vl (h0.2.1 r27 (x7).toNat)] 85 dX9_mixEntries_82 rfl cvX9_226 rfl rfl ⟨Nat.le_of_ble_eq_true rfl, Nat.le_of_ble_eq_true rfl⟩ (Nat.le_of_ble_eq_true rfl) hyp (fun y33 h31 k32 hyp => ?_)
    refine q_lstore_n [some (vr a0), none, none, some (vl y33), none, some (vi x5), some (vr a6), some (vi x7)] 86 dX9_mixEntries_85 rfl (Nat.le_of_ble_eq_true rfl) rfl rfl ?_
    refine q_iinc [some (vr a0), none, none, some (vl y33), none, some (vi x5), some (vr a6), some (vi (x7 + 1))] 89 dX9_mixEntries_86 rfl rfl (Nat.le_of_ble_eq_true rfl) rfl rfl ?_
    refine ex_goto 62 dX9_mixEntries_89 (by decide) ?_
    exact hyp
set_option maxRecDepth 4000 in
theorem tX9_mixTwos {P : Int → PH → Prop} (h0 : PH) (a0 : Nat) (x1 : Int) (hyp : EXl mX9_mixTwos 5 [some (vr a0), none, none, some (vl x1), none, some (vi 0), none, none] [] h0 P) : METl mX9_mixTwos [vr a0, vl x1] h0 P := by
  refine met_of_ex (by decide +kernel) (Nat.le_of_ble_eq_true rfl) ?_
  show EX mX9_mixTwos 0 [some (vr a0), some (vl x1), none, none, none, none, none, none] [] h0 (0, 0) _
  refine ex_lload_n 1 dX9_mixTwos_0 rfl rfl ?_
  refine q_lstore_n [some (vr a0), some (vl x1), none, some (vl x1), none, none, none, none] 2 dX9_mixTwos_1 rfl (Nat.le_of_ble_eq_true rfl) rfl rfl ?_
  refine ex_iconst 3 dX9_mixTwos_2 rfl ?_
  refine q_istore [some (vr a0), some (vl x1), none, some (vl x1), none, some (vi 0), none, none] 5 dX9_mixTwos_3 rfl (Nat.le_of_ble_eq_true rfl) rfl rfl ?_
  refine ex_dropL (ls' := [some (vr a0), none, none, some (vl x1), none, some (vi 0), none, none]) 1 rfl ?_
  exact hyp
set_option maxRecDepth 4000 in
theorem tX9_mixTwos_5 {P : Int → PH → Prop} (h0 : PH) (a0 : Nat) (x3 : Int) (x5 : Int) (hyp : OB h0 9 a0 ∧ ∃ r2 : Nat, h0.2.2 a0 3 = some r2 ∧ OB h0 8 r2 ∧ rng x5 ∧ rng (h0.2.1 r2 2) ∧ (h0.2.1 r2 2 ≤ x5 → (P x3 h0)) ∧ (x5 < h0.2.1 r2 2 → (EXl mX9_mixTwos 23 [some (vr a0), none, none, some (vl x3), none, some (vi x5), some (vi (x5 + 1)), none] [] h0 P))) : EXl mX9_mixTwos 5 [some (vr a0), none, none, some (vl x3), none, some (vi x5), none, none] [] h0 P := by
  refine ex_iload 7 dX9_mixTwos_5 rfl rfl ?_
  refine ex_aload_n 8 dX9_mixTwos_7 rfl rfl ?_
  obtain ⟨o1, hyp⟩ := hyp
  obtain ⟨r2, f3, hyp⟩ := hyp
  refine q_getR 9 3 11 dX9_mixTwos_8 rfl fiX9_33 rfl o1 f3 ?_
  obtain ⟨o4, hyp⟩ := hyp
  refine q_getI 8 2 14 dX9_mixTwos_11 rfl fiX9_142 (Or.inl rfl) o4 ?_
  obtain ⟨o5, hyp⟩ := hyp
  obtain ⟨o6, hyp⟩ := hyp
  obtain ⟨ht, hf⟩ := hyp
  refine ex_icmp_ge 78 17 dX9_mixTwos_14 (by decide) rfl o5 o6 (fun c7 => ?_) (fun c7 => ?_)
  · have hyp := ht c7
    clear ht hf
    refine ex_lload_n 79 dX9_mixTwos_78 rfl rfl ?_
    exact ex_lret dX9_mixTwos_79 rfl ⟨_, rfl, hyp⟩
  · have hyp := hf c7
    clear ht hf
    refine ex_iload 19 dX9_mixTwos_17 rfl rfl ?_
    refine ex_iconst 20 dX9_mixTwos_19 rfl ?_
    refine ex_iadd 21 dX9_mixTwos_20 rfl ?_
    refine q_istore [some (vr a0), none, none, some (vl x3), none, some (vi x5), some (vi (x5 + 1)), none] 23 dX9_mixTwos_21 rfl (Nat.le_of_ble_eq_true rfl) rfl rfl ?_
    exact hyp
set_option maxRecDepth 4000 in
theorem tX9_mixTwos_23 {P : Int → PH → Prop} (h0 : PH) (a0 : Nat) (x3 : Int) (x5 : Int) (x6 : Int) (hyp : OB h0 9 a0 ∧ ∃ r2 : Nat, h0.2.2 a0 3 = some r2 ∧ OB h0 8 r2 ∧ rng x6 ∧ rng (h0.2.1 r2 2) ∧ (h0.2.1 r2 2 ≤ x6 → (EXl mX9_mixTwos 5 [some (vr a0), none, none, some (vl x3), none, some (vi (x5 + 1)), none, none] [] h0 P)) ∧ (x6 < h0.2.1 r2 2 → (EXl mX9_mixTwos 38 [some (vr a0), none, none, some (vl x3), none, some (vi x5), some (vi x6), some (vi 0)] [] h0 P))) : EXl mX9_mixTwos 23 [some (vr a0), none, none, some (vl x3), none, some (vi x5), some (vi x6), none] [] h0 P := by
  refine ex_iload 25 dX9_mixTwos_23 rfl rfl ?_
  refine ex_aload_n 26 dX9_mixTwos_25 rfl rfl ?_
  obtain ⟨o1, hyp⟩ := hyp
  obtain ⟨r2, f3, hyp⟩ := hyp
  refine q_getR 9 3 29 dX9_mixTwos_26 rfl fiX9_33 rfl o1 f3 ?_
  obtain ⟨o4, hyp⟩ := hyp
  refine q_getI 8 2 32 dX9_mixTwos_29 rfl fiX9_142 (Or.inl rfl) o4 ?_
  obtain ⟨o5, hyp⟩ := hyp
  obtain ⟨o6, hyp⟩ := hyp
  obtain ⟨ht, hf⟩ := hyp
  refine ex_icmp_ge 72 35 dX9_mixTwos_32 (by decide) rfl o5 o6 (fun c7 => ?_) (fun c7 => ?_)
  · have hyp := ht c7
    clear ht hf
    refine q_iinc [some (vr a0), none, none, some (vl x3), none, some (vi (x5 + 1)), some (vi x6), none] 75 dX9_mixTwos_72 rfl rfl (Nat.le_of_ble_eq_true rfl) rfl rfl ?_
    refine ex_goto 5 dX9_mixTwos_75 (by decide) ?_
    refine ex_dropL (ls' := [some (vr a0), none, none, some (vl x3), none, some (vi (x5 + 1)), none, none]) 6 rfl ?_
    exact hyp
  · have hyp := hf c7
    clear ht hf
    refine ex_iconst 36 dX9_mixTwos_35 rfl ?_
    refine q_istore [some (vr a0), none, none, some (vl x3), none, some (vi x5), some (vi x6), some (vi 0)] 38 dX9_mixTwos_36 rfl (Nat.le_of_ble_eq_true rfl) rfl rfl ?_
    exact hyp
set_option maxRecDepth 4000 in
theorem tX9_mixTwos_38 {P : Int → PH → Prop} (h0 : PH) (a0 : Nat) (x3 : Int) (x5 : Int) (x6 : Int) (x7 : Int) (hyp : rng x7 ∧ (4 < x7 → (EXl mX9_mixTwos 23 [some (vr a0), none, none, some (vl x3), none, some (vi x5), some (vi (x6 + 1)), none] [] h0 P)) ∧ (x7 ≤ 4 → (OB h0 9 a0 ∧ METi mX9_tellTwo [vr a0, vi x5, vi x6, vi x7] h0 (fun y5 h3 => h3.1 = h0.1 → (rng y5 ∧ METl mX9_mixed [vl x3, vl y5] h3 (fun y9 h7 => h7.1 = h3.1 → (EXl mX9_mixTwos 38 [some (vr a0), none, none, some (vl y9), none, some (vi x5), some (vi x6), some (vi (x7 + 1))] [] h7 P))))))) : EXl mX9_mixTwos 38 [some (vr a0), none, none, some (vl x3), none, some (vi x5), some (vi x6), some (vi x7)] [] h0 P := by
  refine ex_iload 40 dX9_mixTwos_38 rfl rfl ?_
  refine ex_iconst 41 dX9_mixTwos_40 rfl ?_
  obtain ⟨o1, hyp⟩ := hyp
  obtain ⟨ht, hf⟩ := hyp
  refine ex_icmp_gt 66 44 dX9_mixTwos_41 (by decide) rfl o1 ⟨by decide, by decide⟩ (fun c10 => ?_) (fun c10 => ?_)
  · have hyp := ht c10
    clear ht hf
    refine q_iinc [some (vr a0), none, none, some (vl x3), none, some (vi x5), some (vi (x6 + 1)), some (vi x7)] 69 dX9_mixTwos_66 rfl rfl (Nat.le_of_ble_eq_true rfl) rfl rfl ?_
    refine ex_goto 23 dX9_mixTwos_69 (by decide) ?_
    refine ex_dropL (ls' := [some (vr a0), none, none, some (vl x3), none, some (vi x5), some (vi (x6 + 1)), none]) 7 rfl ?_
    exact hyp
  · have hyp := hf c10
    clear ht hf
    refine ex_lload_n 45 dX9_mixTwos_44 rfl rfl ?_
    refine ex_aload_n 46 dX9_mixTwos_45 rfl rfl ?_
    refine ex_iload 48 dX9_mixTwos_46 rfl rfl ?_
    refine ex_iload 50 dX9_mixTwos_48 rfl rfl ?_
    refine ex_iload 52 dX9_mixTwos_50 rfl rfl ?_
    obtain ⟨o2, hyp⟩ := hyp
    refine q_callVi [vi x5, vi x6, vi x7] 55 dX9_mixTwos_52 rfl cvX9_157 rfl rfl ⟨Nat.le_of_ble_eq_true rfl, Nat.le_of_ble_eq_true rfl⟩ (Nat.le_of_ble_eq_true rfl) o2 hyp (fun y5 h3 k4 hyp => ?_)
    obtain ⟨o6, hyp⟩ := hyp
    refine ex_i2l 56 dX9_mixTwos_55 rfl o6 ?_
    refine q_callSl [vl x3, vl y5] 59 dX9_mixTwos_56 rfl cvX9_226 rfl rfl ⟨Nat.le_of_ble_eq_true rfl, Nat.le_of_ble_eq_true rfl⟩ (Nat.le_of_ble_eq_true rfl) hyp (fun y9 h7 k8 hyp => ?_)
    refine q_lstore_n [some (vr a0), none, none, some (vl y9), none, some (vi x5), some (vi x6), some (vi x7)] 60 dX9_mixTwos_59 rfl (Nat.le_of_ble_eq_true rfl) rfl rfl ?_
    refine q_iinc [some (vr a0), none, none, some (vl y9), none, some (vi x5), some (vi x6), some (vi (x7 + 1))] 63 dX9_mixTwos_60 rfl rfl (Nat.le_of_ble_eq_true rfl) rfl rfl ?_
    refine ex_goto 38 dX9_mixTwos_63 (by decide) ?_
    exact hyp
set_option maxRecDepth 4000 in
theorem tX9_mixLives {P : Int → PH → Prop} (h0 : PH) (a0 : Nat) (x1 : Int) (hyp : EXl mX9_mixLives 5 [some (vr a0), none, none, some (vl x1), none, some (vi 0), none, none] [] h0 P) : METl mX9_mixLives [vr a0, vl x1] h0 P := by
  refine met_of_ex (by decide +kernel) (Nat.le_of_ble_eq_true rfl) ?_
  show EX mX9_mixLives 0 [some (vr a0), some (vl x1), none, none, none, none, none, none] [] h0 (0, 0) _
  refine ex_lload_n 1 dX9_mixLives_0 rfl rfl ?_
  refine q_lstore_n [some (vr a0), some (vl x1), none, some (vl x1), none, none, none, none] 2 dX9_mixLives_1 rfl (Nat.le_of_ble_eq_true rfl) rfl rfl ?_
  refine ex_iconst 3 dX9_mixLives_2 rfl ?_
  refine q_istore [some (vr a0), some (vl x1), none, some (vl x1), none, some (vi 0), none, none] 5 dX9_mixLives_3 rfl (Nat.le_of_ble_eq_true rfl) rfl rfl ?_
  refine ex_dropL (ls' := [some (vr a0), none, none, some (vl x1), none, some (vi 0), none, none]) 1 rfl ?_
  exact hyp
set_option maxRecDepth 4000 in
theorem tX9_mixLives_5 {P : Int → PH → Prop} (h0 : PH) (a0 : Nat) (x3 : Int) (x5 : Int) (hyp : rng x5 ∧ (5 < x5 → (EXl mX9_mixLives 32 [some (vr a0), none, none, some (vl x3), none, some (vi 0), none, none] [] h0 P)) ∧ (x5 ≤ 5 → (OB h0 9 a0 ∧ METi mX9_tellLives [vr a0, vi x5] h0 (fun y5 h3 => h3.1 = h0.1 → (rng y5 ∧ METl mX9_mixed [vl x3, vl y5] h3 (fun y9 h7 => h7.1 = h3.1 → (EXl mX9_mixLives 5 [some (vr a0), none, none, some (vl y9), none, some (vi (x5 + 1)), none, none] [] h7 P))))))) : EXl mX9_mixLives 5 [some (vr a0), none, none, some (vl x3), none, some (vi x5), none, none] [] h0 P := by
  refine ex_iload 7 dX9_mixLives_5 rfl rfl ?_
  refine ex_iconst 8 dX9_mixLives_7 rfl ?_
  obtain ⟨o1, hyp⟩ := hyp
  obtain ⟨ht, hf⟩ := hyp
  refine ex_icmp_gt 29 11 dX9_mixLives_8 (by decide) rfl o1 ⟨by decide, by decide⟩ (fun c10 => ?_) (fun c10 => ?_)
  · have hyp := ht c10
    clear ht hf
    refine ex_iconst 30 dX9_mixLives_29 rfl ?_
    refine q_istore [some (vr a0), none, none, some (vl x3), none, some (vi 0), none, none] 32 dX9_mixLives_30 rfl (Nat.le_of_ble_eq_true rfl) rfl rfl ?_
    exact hyp
  · have hyp := hf c10
    clear ht hf
    refine ex_lload_n 12 dX9_mixLives_11 rfl rfl ?_
    refine ex_aload_n 13 dX9_mixLives_12 rfl rfl ?_
    refine ex_iload 15 dX9_mixLives_13 rfl rfl ?_
    obtain ⟨o2, hyp⟩ := hyp
    refine q_callVi [vi x5] 18 dX9_mixLives_15 rfl cvX9_168 rfl rfl ⟨Nat.le_of_ble_eq_true rfl, Nat.le_of_ble_eq_true rfl⟩ (Nat.le_of_ble_eq_true rfl) o2 hyp (fun y5 h3 k4 hyp => ?_)
    obtain ⟨o6, hyp⟩ := hyp
    refine ex_i2l 19 dX9_mixLives_18 rfl o6 ?_
    refine q_callSl [vl x3, vl y5] 22 dX9_mixLives_19 rfl cvX9_226 rfl rfl ⟨Nat.le_of_ble_eq_true rfl, Nat.le_of_ble_eq_true rfl⟩ (Nat.le_of_ble_eq_true rfl) hyp (fun y9 h7 k8 hyp => ?_)
    refine q_lstore_n [some (vr a0), none, none, some (vl y9), none, some (vi x5), none, none] 23 dX9_mixLives_22 rfl (Nat.le_of_ble_eq_true rfl) rfl rfl ?_
    refine q_iinc [some (vr a0), none, none, some (vl y9), none, some (vi (x5 + 1)), none, none] 26 dX9_mixLives_23 rfl rfl (Nat.le_of_ble_eq_true rfl) rfl rfl ?_
    refine ex_goto 5 dX9_mixLives_26 (by decide) ?_
    exact hyp
set_option maxRecDepth 4000 in
theorem tX9_mixLives_32 {P : Int → PH → Prop} (h0 : PH) (a0 : Nat) (x3 : Int) (x5 : Int) (hyp : OB h0 9 a0 ∧ ∃ r2 : Nat, h0.2.2 a0 6 = some r2 ∧ OB h0 2 r2 ∧ rng x5 ∧ rng (h0.2.1 r2 2) ∧ (h0.2.1 r2 2 ≤ x5 → (P x3 h0)) ∧ (x5 < h0.2.1 r2 2 → (∃ r7 : Nat, h0.2.2 r2 0 = some r7 ∧ AI h0 22 r7 x5 ∧ ∃ r10 : Nat, h0.2.2 r7 (x5).toNat = some r10 ∧ EXl mX9_mixLives 59 [some (vr a0), none, none, some (vl x3), none, some (vi x5), some (vr r10), some (vi 0)] [] h0 P))) : EXl mX9_mixLives 32 [some (vr a0), none, none, some (vl x3), none, some (vi x5), none, none] [] h0 P := by
  refine ex_iload 34 dX9_mixLives_32 rfl rfl ?_
  refine ex_aload_n 35 dX9_mixLives_34 rfl rfl ?_
  obtain ⟨o1, hyp⟩ := hyp
  obtain ⟨r2, f3, hyp⟩ := hyp
  refine q_getR 9 6 38 dX9_mixLives_35 rfl fiX9_54 rfl o1 f3 ?_
  obtain ⟨o4, hyp⟩ := hyp
  refine q_getI 2 2 41 dX9_mixLives_38 rfl fiX9_278 (Or.inl rfl) o4 ?_
  obtain ⟨o5, hyp⟩ := hyp
  obtain ⟨o6, hyp⟩ := hyp
  obtain ⟨ht, hf⟩ := hyp
  refine ex_icmp_ge 128 44 dX9_mixLives_41 (by decide) rfl o5 o6 (fun c12 => ?_) (fun c12 => ?_)
  · have hyp := ht c12
    clear ht hf
    refine ex_lload_n 129 dX9_mixLives_128 rfl rfl ?_
    exact ex_lret dX9_mixLives_129 rfl ⟨_, rfl, hyp⟩
  · have hyp := hf c12
    clear ht hf
    refine ex_aload_n 45 dX9_mixLives_44 rfl rfl ?_
    refine q_getR 9 6 48 dX9_mixLives_45 rfl fiX9_54 rfl o1 f3 ?_
    obtain ⟨r7, f8, hyp⟩ := hyp
    refine q_getR 2 0 51 dX9_mixLives_48 rfl fiX9_172 rfl o4 f8 ?_
    refine ex_iload 53 dX9_mixLives_51 rfl rfl ?_
    obtain ⟨o9, hyp⟩ := hyp
    obtain ⟨r10, f11, hyp⟩ := hyp
    refine ex_aald 22 54 dX9_mixLives_53 rfl (by decide) o9 f11 ?_
    refine q_astore [some (vr a0), none, none, some (vl x3), none, some (vi x5), some (vr r10), none] 56 dX9_mixLives_54 rfl (Nat.le_of_ble_eq_true rfl) rfl rfl ?_
    refine ex_iconst 57 dX9_mixLives_56 rfl ?_
    refine q_istore [some (vr a0), none, none, some (vl x3), none, some (vi x5), some (vr r10), some (vi 0)] 59 dX9_mixLives_57 rfl (Nat.le_of_ble_eq_true rfl) rfl rfl ?_
    exact hyp
set_option maxRecDepth 4000 in
theorem tX9_mixLives_59 {P : Int → PH → Prop} (h0 : PH) (a0 : Nat) (x3 : Int) (x5 : Int) (a6 : Nat) (x7 : Int) (hyp : rng x7 ∧ (7 < x7 → (OB h0 1 a6 ∧ EXl mX9_mixLives 92 [some (vr a0), none, none, some (vl x3), none, some (vi x5), some (vr a6), some (vi (h0.2.1 a6 2))] [] h0 P)) ∧ (x7 ≤ 7 → (METi mX9_tellLife [vr a6, vi x7] h0 (fun y5 h3 => h3.1 = h0.1 → (rng y5 ∧ METl mX9_mixed [vl x3, vl y5] h3 (fun y9 h7 => h7.1 = h3.1 → (EXl mX9_mixLives 59 [some (vr a0), none, none, some (vl y9), none, some (vi x5), some (vr a6), some (vi (x7 + 1))] [] h7 P))))))) : EXl mX9_mixLives 59 [some (vr a0), none, none, some (vl x3), none, some (vi x5), some (vr a6), some (vi x7)] [] h0 P := by
  refine ex_iload 61 dX9_mixLives_59 rfl rfl ?_
  refine ex_bipush 63 dX9_mixLives_61 rfl ⟨by decide, by decide⟩ ?_
  obtain ⟨o1, hyp⟩ := hyp
  obtain ⟨ht, hf⟩ := hyp
  refine ex_icmp_gt 85 66 dX9_mixLives_63 (by decide) rfl o1 ⟨by decide, by decide⟩ (fun c10 => ?_) (fun c10 => ?_)
  · have hyp := ht c10
    clear ht hf
    refine ex_aload 87 dX9_mixLives_85 rfl rfl ?_
    obtain ⟨o2, hyp⟩ := hyp
    refine q_getI 1 2 90 dX9_mixLives_87 rfl fiX9_188 (Or.inl rfl) o2 ?_
    refine q_istore [some (vr a0), none, none, some (vl x3), none, some (vi x5), some (vr a6), some (vi (h0.2.1 a6 2))] 92 dX9_mixLives_90 rfl (Nat.le_of_ble_eq_true rfl) rfl rfl ?_
    exact hyp
  · have hyp := hf c10
    clear ht hf
    refine ex_lload_n 67 dX9_mixLives_66 rfl rfl ?_
    refine ex_aload 69 dX9_mixLives_67 rfl rfl ?_
    refine ex_iload 71 dX9_mixLives_69 rfl rfl ?_
    refine q_callSi [vr a6, vi x7] 74 dX9_mixLives_71 rfl cvX9_176 rfl rfl ⟨Nat.le_of_ble_eq_true rfl, Nat.le_of_ble_eq_true rfl⟩ (Nat.le_of_ble_eq_true rfl) hyp (fun y5 h3 k4 hyp => ?_)
    obtain ⟨o6, hyp⟩ := hyp
    refine ex_i2l 75 dX9_mixLives_74 rfl o6 ?_
    refine q_callSl [vl x3, vl y5] 78 dX9_mixLives_75 rfl cvX9_226 rfl rfl ⟨Nat.le_of_ble_eq_true rfl, Nat.le_of_ble_eq_true rfl⟩ (Nat.le_of_ble_eq_true rfl) hyp (fun y9 h7 k8 hyp => ?_)
    refine q_lstore_n [some (vr a0), none, none, some (vl y9), none, some (vi x5), some (vr a6), some (vi x7)] 79 dX9_mixLives_78 rfl (Nat.le_of_ble_eq_true rfl) rfl rfl ?_
    refine q_iinc [some (vr a0), none, none, some (vl y9), none, some (vi x5), some (vr a6), some (vi (x7 + 1))] 82 dX9_mixLives_79 rfl rfl (Nat.le_of_ble_eq_true rfl) rfl rfl ?_
    refine ex_goto 59 dX9_mixLives_82 (by decide) ?_
    exact hyp
set_option maxRecDepth 4000 in
theorem tX9_mixLives_92 {P : Int → PH → Prop} (h0 : PH) (a0 : Nat) (x3 : Int) (x5 : Int) (a6 : Nat) (x7 : Int) (hyp : OB h0 1 a6 ∧ rng x7 ∧ rng (h0.2.1 a6 1) ∧ (h0.2.1 a6 1 ≤ x7 → (EXl mX9_mixLives 32 [some (vr a0), none, none, some (vl x3), none, some (vi (x5 + 1)), none, none] [] h0 P)) ∧ (x7 < h0.2.1 a6 1 → (∃ r4 : Nat, h0.2.2 a6 0 = some r4 ∧ AI h0 20 r4 x7 ∧ rng (h0.2.1 r4 (x7).toNat) ∧ METl mX9_mixed [vl x3, vl (h0.2.1 r4 (x7).toNat)] h0 (fun y10 h8 => h8.1 = h0.1 → (EXl mX9_mixLives 92 [some (vr a0), none, none, some (vl y10), none, some (vi x5), some (vr a6), some (vi (x7 + 1))] [] h8 P))))) : EXl mX9_mixLives 92 [some (vr a0), none, none, some (vl x3), none, some (vi x5), some (vr a6), some (vi x7)] [] h0 P := by
  refine ex_iload 94 dX9_mixLives_92 rfl rfl ?_
  refine ex_aload 96 dX9_mixLives_94 rfl rfl ?_
  obtain ⟨o1, hyp⟩ := hyp
  refine q_getI 1 1 99 dX9_mixLives_96 rfl fiX9_306 (Or.inl rfl) o1 ?_
  obtain ⟨o2, hyp⟩ := hyp
  obtain ⟨o3, hyp⟩ := hyp
  obtain ⟨ht, hf⟩ := hyp
  refine ex_icmp_ge 122 102 dX9_mixLives_99 (by decide) rfl o2 o3 (fun c11 => ?_) (fun c11 => ?_)
  · have hyp := ht c11
    clear ht hf
    refine q_iinc [some (vr a0), none, none, some (vl x3), none, some (vi (x5 + 1)), some (vr a6), some (vi x7)] 125 dX9_mixLives_122 rfl rfl (Nat.le_of_ble_eq_true rfl) rfl rfl ?_
    refine ex_goto 32 dX9_mixLives_125 (by decide) ?_
    refine ex_dropL (ls' := [some (vr a0), none, none, some (vl x3), none, some (vi (x5 + 1)), none, some (vi x7)]) 6 rfl ?_
    refine ex_dropL (ls' := [some (vr a0), none, none, some (vl x3), none, some (vi (x5 + 1)), none, none]) 7 rfl ?_
    exact hyp
  · have hyp := hf c11
    clear ht hf
    refine ex_lload_n 103 dX9_mixLives_102 rfl rfl ?_
    refine ex_aload 105 dX9_mixLives_103 rfl rfl ?_
    obtain ⟨r4, f5, hyp⟩ := hyp
    refine q_getR 1 0 108 dX9_mixLives_105 rfl fiX9_185 rfl o1 f5 ?_
    refine ex_iload 110 dX9_mixLives_108 rfl rfl ?_
    obtain ⟨o6, hyp⟩ := hyp
    refine ex_iald 111 dX9_mixLives_110 rfl o6 ?_
    obtain ⟨o7, hyp⟩ := hyp
    refine ex_i2l 112 dX9_mixLives_111 rfl o7 ?_
    refine q_callSl [vl x3, vl (h0.2.1 r4 (x7).toNat)] 115 dX9_mixLives_112 rfl cvX9_226 rfl rfl ⟨Nat.le_of_ble_eq_true rfl, Nat.le_of_ble_eq_true rfl⟩ (Nat.le_of_ble_eq_true rfl) hyp (fun y10 h8 k9 hyp => ?_)
    refine q_lstore_n [some (vr a0), none, none, some (vl y10), none, some (vi x5), some (vr a6), some (vi x7)] 116 dX9_mixLives_115 rfl (Nat.le_of_ble_eq_true rfl) rfl rfl ?_
    refine q_iinc [some (vr a0), none, none, some (vl y10), none, some (vi x5), some (vr a6), some (vi (x7 + 1))] 119 dX9_mixLives_116 rfl rfl (Nat.le_of_ble_eq_true rfl) rfl rfl ?_
    refine ex_goto 92 dX9_mixLives_119 (by decide) ?_
    exact hyp

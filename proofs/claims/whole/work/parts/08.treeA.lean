set_option maxRecDepth 4000 in
theorem tX0_read {P : PH → Prop} (h0 : PH) (a0 : Nat) (a1 : Nat) (a2 : Nat) (hyp : OB h0 7 a2 ∧ OB h0 0 a0 ∧ ∀ h3 : PH, h3 = px_upI h0 a0 4 (h0.2.1 a2 2) → (∀ h7 : PH, h7 = px_upI h3 a0 5 (h3.2.1 a2 5) → (∀ h11 : PH, h11 = px_upI h7 a0 6 (h7.2.1 a2 6) → (∀ h14 : PH, h14 = px_upI h11 a0 7 0 → (∀ h17 : PH, h17 = px_upI h14 a0 3 0 → (EXv mX0_read 36 [some (vr a0), some (vr a1), some (vr a2), some (vi 0)] [] h17 (0, 0) P)))))) : METv mX0_read [vr a0, vr a1, vr a2] h0 (0, 0) P := by
  refine met_of_ex (by decide +kernel) (Nat.le_of_ble_eq_true rfl) ?_
  show EX mX0_read 0 [some (vr a0), some (vr a1), some (vr a2), none] [] h0 (0, 0) _
  refine ex_aload_n 1 dX0_read_0 rfl rfl ?_
  refine ex_aload_n 2 dX0_read_1 rfl rfl ?_
  obtain ⟨o1, hyp⟩ := hyp
  refine q_getI 7 2 5 dX0_read_2 rfl fiX0_22 (Or.inl rfl) o1 ?_
  obtain ⟨o2, hyp⟩ := hyp
  refine q_putI 0 4 8 dX0_read_5 rfl fiX0_27 ff0_4 rfl o2 (fun h3 e4 => ?_)
  have hyp := hyp h3 e4
  refine ex_aload_n 9 dX0_read_8 rfl rfl ?_
  refine ex_aload_n 10 dX0_read_9 rfl rfl ?_
  have f5 := OB.of (KI e4) o1
  refine q_getI 7 5 13 dX0_read_10 rfl fiX0_28 (Or.inl rfl) f5 ?_
  have f6 := OB.of (KI e4) o2
  refine q_putI 0 5 16 dX0_read_13 rfl fiX0_31 ff0_5 rfl f6 (fun h7 e8 => ?_)
  have hyp := hyp h7 e8
  refine ex_aload_n 17 dX0_read_16 rfl rfl ?_
  refine ex_aload_n 18 dX0_read_17 rfl rfl ?_
  have f9 := OB.of (KI e8) f5
  refine q_getI 7 6 21 dX0_read_18 rfl fiX0_32 (Or.inl rfl) f9 ?_
  have f10 := OB.of (KI e8) f6
  refine q_putI 0 6 24 dX0_read_21 rfl fiX0_35 ff0_6 rfl f10 (fun h11 e12 => ?_)
  have hyp := hyp h11 e12
  refine ex_aload_n 25 dX0_read_24 rfl rfl ?_
  refine ex_iconst 26 dX0_read_25 rfl ?_
  have f13 := OB.of (KI e12) f10
  refine q_putI 0 7 29 dX0_read_26 rfl fiX0_36 ff0_7 rfl f13 (fun h14 e15 => ?_)
  have hyp := hyp h14 e15
  refine ex_aload_n 30 dX0_read_29 rfl rfl ?_
  refine ex_iconst 31 dX0_read_30 rfl ?_
  have f16 := OB.of (KI e15) f13
  refine q_putI 0 3 34 dX0_read_31 rfl fiX0_39 ff0_3 rfl f16 (fun h17 e18 => ?_)
  have hyp := hyp h17 e18
  refine ex_iconst 35 dX0_read_34 rfl ?_
  refine q_istore_n [some (vr a0), some (vr a1), some (vr a2), some (vi 0)] 36 dX0_read_35 rfl (Nat.le_of_ble_eq_true rfl) rfl rfl ?_
  exact hyp
set_option maxRecDepth 4000 in
theorem tX0_read_36 {P : PH → Prop} (h0 : PH) (a0 : Nat) (a1 : Nat) (a2 : Nat) (x3 : Int) (hyp : OB h0 7 a2 ∧ rng x3 ∧ rng (h0.2.1 a2 4) ∧ (h0.2.1 a2 4 ≤ x3 → (P h0)) ∧ (x3 < h0.2.1 a2 4 → (OB h0 5 a1 ∧ rng ((h0.2.1 a2 3) + x3) ∧ rng (h0.2.1 a1 1) ∧ (h0.2.1 a1 1 ≤ (h0.2.1 a2 3) + x3 → (P h0)) ∧ ((h0.2.1 a2 3) + x3 < h0.2.1 a1 1 → (OB h0 0 a0 ∧ ∃ r8 : Nat, h0.2.2 a0 1 = some r8 ∧ ∃ r10 : Nat, h0.2.2 a1 0 = some r10 ∧ AI h0 20 r10 ((h0.2.1 a2 3) + x3) ∧ AI h0 20 r8 x3 ∧ ∀ h14 : PH, h14 = px_upI h0 r8 (x3).toNat (h0.2.1 r10 ((h0.2.1 a2 3) + x3).toNat) → (∀ h17 : PH, h17 = px_upI h14 a0 3 ((h14.2.1 a0 3) + 1) → (EXv mX0_read 36 [some (vr a0), some (vr a1), some (vr a2), some (vi (x3 + 1))] [] h17 (0, 0) P))))))) : EXv mX0_read 36 [some (vr a0), some (vr a1), some (vr a2), some (vi x3)] [] h0 (0, 0) P := by
  refine ex_iload_n 37 dX0_read_36 rfl rfl ?_
  refine ex_aload_n 38 dX0_read_37 rfl rfl ?_
  obtain ⟨o1, hyp⟩ := hyp
  refine q_getI 7 4 41 dX0_read_38 rfl fiX0_42 (Or.inl rfl) o1 ?_
  obtain ⟨o2, hyp⟩ := hyp
  obtain ⟨o3, hyp⟩ := hyp
  obtain ⟨ht, hf⟩ := hyp
  refine ex_icmp_ge 90 44 dX0_read_41 (by decide) rfl o2 o3 (fun c20 => ?_) (fun c20 => ?_)
  · have hyp := ht c20
    clear ht hf
    exact ex_vret dX0_read_90 rfl ⟨rfl, hyp⟩
  · have hyp := hf c20
    clear ht hf
    refine ex_aload_n 45 dX0_read_44 rfl rfl ?_
    refine q_getI 7 3 48 dX0_read_45 rfl fiX0_45 (Or.inl rfl) o1 ?_
    refine ex_iload_n 49 dX0_read_48 rfl rfl ?_
    refine ex_iadd 50 dX0_read_49 rfl ?_
    refine ex_aload_n 51 dX0_read_50 rfl rfl ?_
    obtain ⟨o4, hyp⟩ := hyp
    refine q_getI 5 1 54 dX0_read_51 rfl fiX0_48 (Or.inl rfl) o4 ?_
    obtain ⟨o5, hyp⟩ := hyp
    obtain ⟨o6, hyp⟩ := hyp
    obtain ⟨ht, hf⟩ := hyp
    refine ex_icmp_ge 90 57 dX0_read_54 (by decide) rfl o5 o6 (fun c19 => ?_) (fun c19 => ?_)
    · have hyp := ht c19
      clear ht hf
      exact ex_vret dX0_read_90 rfl ⟨rfl, hyp⟩
    · have hyp := hf c19
      clear ht hf
      refine ex_aload_n 58 dX0_read_57 rfl rfl ?_
      obtain ⟨o7, hyp⟩ := hyp
      obtain ⟨r8, f9, hyp⟩ := hyp
      refine q_getR 0 1 61 dX0_read_58 rfl fiX0_9 rfl o7 f9 ?_
      refine ex_iload_n 62 dX0_read_61 rfl rfl ?_
      refine ex_aload_n 63 dX0_read_62 rfl rfl ?_
      obtain ⟨r10, f11, hyp⟩ := hyp
      refine q_getR 5 0 66 dX0_read_63 rfl fiX0_53 rfl o4 f11 ?_
      refine ex_aload_n 67 dX0_read_66 rfl rfl ?_
      refine q_getI 7 3 70 dX0_read_67 rfl fiX0_45 (Or.inl rfl) o1 ?_
      refine ex_iload_n 71 dX0_read_70 rfl rfl ?_
      refine ex_iadd 72 dX0_read_71 rfl ?_
      obtain ⟨o12, hyp⟩ := hyp
      refine ex_iald 73 dX0_read_72 rfl o12 ?_
      obtain ⟨o13, hyp⟩ := hyp
      refine ex_iast 74 dX0_read_73 rfl o13 (fun h14 e15 => ?_)
      have hyp := hyp h14 e15
      refine ex_aload_n 75 dX0_read_74 rfl rfl ?_
      refine ex_dup 76 dX0_read_75 rfl rfl ?_
      have f16 := OB.of (KI e15) o7
      refine q_getI 0 3 79 dX0_read_76 rfl fiX0_39 (Or.inl rfl) f16 ?_
      refine ex_iconst 80 dX0_read_79 rfl ?_
      refine ex_iadd 81 dX0_read_80 rfl ?_
      refine q_putI 0 3 84 dX0_read_81 rfl fiX0_39 ff0_3 rfl f16 (fun h17 e18 => ?_)
      have hyp := hyp h17 e18
      refine q_iinc [some (vr a0), some (vr a1), some (vr a2), some (vi (x3 + 1))] 87 dX0_read_84 rfl rfl (Nat.le_of_ble_eq_true rfl) rfl rfl ?_
      refine ex_goto 36 dX0_read_87 (by decide) ?_
      exact hyp
set_option maxRecDepth 4000 in
theorem tX0_settleBorn {P : PH → Prop} (h0 : PH) (a0 : Nat) (x1 : Int) (hyp : OB h0 0 a0 ∧ rng (h0.2.1 a0 4) ∧ (¬ h0.2.1 a0 4 = 0 → (rng (h0.2.1 a0 6) ∧ (h0.2.1 a0 6 = (-1) → ((¬ h0.2.1 a0 4 = 1 → (∀ h4 : PH, h4 = px_upI h0 a0 8 ((h0.2.1 a0 5) - 100) → (∀ h7 : PH, h7 = px_upI h4 a0 9 (h4.2.1 a0 5) → (P h7)))) ∧ (h0.2.1 a0 4 = 1 → (∀ h9 : PH, h9 = px_upI h0 a0 8 ((h0.2.1 a0 5) - 60) → (∀ h12 : PH, h12 = px_upI h9 a0 9 ((h9.2.1 a0 5) - 14) → (P h12)))))) ∧ (¬ h0.2.1 a0 6 = (-1) → (∀ h15 : PH, h15 = px_upI h0 a0 8 ((((h0.2.1 a0 5) - (h0.2.1 a0 6)) - 1) - x1) → (∀ h18 : PH, h18 = px_upI h15 a0 9 (((h15.2.1 a0 5) - (h15.2.1 a0 6)) + x1) → (P h18)))))) ∧ (h0.2.1 a0 4 = 0 → (∀ h21 : PH, h21 = px_upI h0 a0 8 (h0.2.1 a0 5) → (∀ h24 : PH, h24 = px_upI h21 a0 9 (h21.2.1 a0 5) → (P h24))))) : METv mX0_settleBorn [vr a0, vi x1] h0 (0, 0) P := by
  refine met_of_ex (by decide +kernel) (Nat.le_of_ble_eq_true rfl) ?_
  show EX mX0_settleBorn 0 [some (vr a0), some (vi x1)] [] h0 (0, 0) _
  refine ex_aload_n 1 dX0_settleBorn_0 rfl rfl ?_
  obtain ⟨o1, hyp⟩ := hyp
  refine q_getI 0 4 4 dX0_settleBorn_1 rfl fiX0_27 (Or.inl rfl) o1 ?_
  obtain ⟨o2, hyp⟩ := hyp
  obtain ⟨ht, hf⟩ := hyp
  refine ex_if_ne 26 7 dX0_settleBorn_4 (by decide) rfl o2 (fun c26 => ?_) (fun c26 => ?_)
  · have hyp := ht c26
    clear ht hf
    refine ex_aload_n 27 dX0_settleBorn_26 rfl rfl ?_
    refine q_getI 0 6 30 dX0_settleBorn_27 rfl fiX0_35 (Or.inl rfl) o1 ?_
    refine ex_iconst 31 dX0_settleBorn_30 rfl ?_
    obtain ⟨o3, hyp⟩ := hyp
    obtain ⟨ht, hf⟩ := hyp
    refine ex_icmp_eq 69 34 dX0_settleBorn_31 (by decide) rfl o3 ⟨by decide, by decide⟩ (fun c20 => ?_) (fun c20 => ?_)
    · have hyp := ht c20
      clear ht hf
      refine ex_aload_n 70 dX0_settleBorn_69 rfl rfl ?_
      refine q_getI 0 4 73 dX0_settleBorn_70 rfl fiX0_27 (Or.inl rfl) o1 ?_
      refine ex_iconst 74 dX0_settleBorn_73 rfl ?_
      obtain ⟨ht, hf⟩ := hyp
      refine ex_icmp_ne 102 77 dX0_settleBorn_74 (by decide) rfl o2 ⟨by decide, by decide⟩ (fun c14 => ?_) (fun c14 => ?_)
      · have hyp := ht c14
        clear ht hf
        refine ex_aload_n 103 dX0_settleBorn_102 rfl rfl ?_
        refine ex_aload_n 104 dX0_settleBorn_103 rfl rfl ?_
        refine q_getI 0 5 107 dX0_settleBorn_104 rfl fiX0_31 (Or.inl rfl) o1 ?_
        refine ex_bipush 109 dX0_settleBorn_107 rfl ⟨by decide, by decide⟩ ?_
        refine ex_isub 110 dX0_settleBorn_109 rfl ?_
        refine q_putI 0 8 113 dX0_settleBorn_110 rfl fiX0_56 ff0_8 rfl o1 (fun h4 e5 => ?_)
        have hyp := hyp h4 e5
        refine ex_aload_n 114 dX0_settleBorn_113 rfl rfl ?_
        refine ex_aload_n 115 dX0_settleBorn_114 rfl rfl ?_
        have f6 := OB.of (KI e5) o1
        refine q_getI 0 5 118 dX0_settleBorn_115 rfl fiX0_31 (Or.inl rfl) f6 ?_
        refine q_putI 0 9 121 dX0_settleBorn_118 rfl fiX0_59 ff0_9 rfl f6 (fun h7 e8 => ?_)
        have hyp := hyp h7 e8
        exact ex_vret dX0_settleBorn_121 rfl ⟨rfl, hyp⟩
      · have hyp := hf c14
        clear ht hf
        refine ex_aload_n 78 dX0_settleBorn_77 rfl rfl ?_
        refine ex_aload_n 79 dX0_settleBorn_78 rfl rfl ?_
        refine q_getI 0 5 82 dX0_settleBorn_79 rfl fiX0_31 (Or.inl rfl) o1 ?_
        refine ex_bipush 84 dX0_settleBorn_82 rfl ⟨by decide, by decide⟩ ?_
        refine ex_isub 85 dX0_settleBorn_84 rfl ?_
        refine q_putI 0 8 88 dX0_settleBorn_85 rfl fiX0_56 ff0_8 rfl o1 (fun h9 e10 => ?_)
        have hyp := hyp h9 e10
        refine ex_aload_n 89 dX0_settleBorn_88 rfl rfl ?_
        refine ex_aload_n 90 dX0_settleBorn_89 rfl rfl ?_
        have f11 := OB.of (KI e10) o1
        refine q_getI 0 5 93 dX0_settleBorn_90 rfl fiX0_31 (Or.inl rfl) f11 ?_
        refine ex_bipush 95 dX0_settleBorn_93 rfl ⟨by decide, by decide⟩ ?_
        refine ex_isub 96 dX0_settleBorn_95 rfl ?_
        refine q_putI 0 9 99 dX0_settleBorn_96 rfl fiX0_59 ff0_9 rfl f11 (fun h12 e13 => ?_)
        have hyp := hyp h12 e13
        refine ex_goto 121 dX0_settleBorn_99 (by decide) ?_
        exact ex_vret dX0_settleBorn_121 rfl ⟨rfl, hyp⟩
    · have hyp := hf c20
      clear ht hf
      refine ex_aload_n 35 dX0_settleBorn_34 rfl rfl ?_
      refine ex_aload_n 36 dX0_settleBorn_35 rfl rfl ?_
      refine q_getI 0 5 39 dX0_settleBorn_36 rfl fiX0_31 (Or.inl rfl) o1 ?_
      refine ex_aload_n 40 dX0_settleBorn_39 rfl rfl ?_
      refine q_getI 0 6 43 dX0_settleBorn_40 rfl fiX0_35 (Or.inl rfl) o1 ?_
      refine ex_isub 44 dX0_settleBorn_43 rfl ?_
      refine ex_iconst 45 dX0_settleBorn_44 rfl ?_
      refine ex_isub 46 dX0_settleBorn_45 rfl ?_
      refine ex_iload_n 47 dX0_settleBorn_46 rfl rfl ?_
      refine ex_isub 48 dX0_settleBorn_47 rfl ?_
      refine q_putI 0 8 51 dX0_settleBorn_48 rfl fiX0_56 ff0_8 rfl o1 (fun h15 e16 => ?_)
      have hyp := hyp h15 e16
      refine ex_aload_n 52 dX0_settleBorn_51 rfl rfl ?_
      refine ex_aload_n 53 dX0_settleBorn_52 rfl rfl ?_
      have f17 := OB.of (KI e16) o1
      refine q_getI 0 5 56 dX0_settleBorn_53 rfl fiX0_31 (Or.inl rfl) f17 ?_
      refine ex_aload_n 57 dX0_settleBorn_56 rfl rfl ?_
      refine q_getI 0 6 60 dX0_settleBorn_57 rfl fiX0_35 (Or.inl rfl) f17 ?_
      refine ex_isub 61 dX0_settleBorn_60 rfl ?_
      refine ex_iload_n 62 dX0_settleBorn_61 rfl rfl ?_
      refine ex_iadd 63 dX0_settleBorn_62 rfl ?_
      refine q_putI 0 9 66 dX0_settleBorn_63 rfl fiX0_59 ff0_9 rfl f17 (fun h18 e19 => ?_)
      have hyp := hyp h18 e19
      refine ex_goto 121 dX0_settleBorn_66 (by decide) ?_
      exact ex_vret dX0_settleBorn_121 rfl ⟨rfl, hyp⟩
  · have hyp := hf c26
    clear ht hf
    refine ex_aload_n 8 dX0_settleBorn_7 rfl rfl ?_
    refine ex_aload_n 9 dX0_settleBorn_8 rfl rfl ?_
    refine q_getI 0 5 12 dX0_settleBorn_9 rfl fiX0_31 (Or.inl rfl) o1 ?_
    refine q_putI 0 8 15 dX0_settleBorn_12 rfl fiX0_56 ff0_8 rfl o1 (fun h21 e22 => ?_)
    have hyp := hyp h21 e22
    refine ex_aload_n 16 dX0_settleBorn_15 rfl rfl ?_
    refine ex_aload_n 17 dX0_settleBorn_16 rfl rfl ?_
    have f23 := OB.of (KI e22) o1
    refine q_getI 0 5 20 dX0_settleBorn_17 rfl fiX0_31 (Or.inl rfl) f23 ?_
    refine q_putI 0 9 23 dX0_settleBorn_20 rfl fiX0_59 ff0_9 rfl f23 (fun h24 e25 => ?_)
    have hyp := hyp h24 e25
    refine ex_goto 121 dX0_settleBorn_23 (by decide) ?_
    exact ex_vret dX0_settleBorn_121 rfl ⟨rfl, hyp⟩
set_option maxRecDepth 4000 in
theorem tX0_isPartedFrom {P : Int → PH → Prop} (h0 : PH) (a0 : Nat) (a1 : Nat) (hyp : OB h0 0 a0 ∧ OB h0 0 a1 ∧ rng (b_and (h0.2.1 a0 7) (b_shl 1 (h0.2.1 a1 0))) ∧ (b_and (h0.2.1 a0 7) (b_shl 1 (h0.2.1 a1 0)) = 0 → (P 0 h0)) ∧ (¬ b_and (h0.2.1 a0 7) (b_shl 1 (h0.2.1 a1 0)) = 0 → (P 1 h0))) : METi mX0_isPartedFrom [vr a0, vr a1] h0 P := by
  refine met_of_ex (by decide +kernel) (Nat.le_of_ble_eq_true rfl) ?_
  show EX mX0_isPartedFrom 0 [some (vr a0), some (vr a1)] [] h0 (0, 0) _
  refine ex_aload_n 1 dX0_isPartedFrom_0 rfl rfl ?_
  obtain ⟨o1, hyp⟩ := hyp
  refine q_getI 0 7 4 dX0_isPartedFrom_1 rfl fiX0_36 (Or.inl rfl) o1 ?_
  refine ex_iconst 5 dX0_isPartedFrom_4 rfl ?_
  refine ex_aload_n 6 dX0_isPartedFrom_5 rfl rfl ?_
  obtain ⟨o2, hyp⟩ := hyp
  refine q_getI 0 0 9 dX0_isPartedFrom_6 rfl fiX0_18 (Or.inl rfl) o2 ?_
  refine ex_ishl 10 dX0_isPartedFrom_9 rfl ?_
  refine ex_iand 11 dX0_isPartedFrom_10 rfl ?_
  obtain ⟨o3, hyp⟩ := hyp
  obtain ⟨ht, hf⟩ := hyp
  refine ex_if_eq 18 14 dX0_isPartedFrom_11 (by decide) rfl o3 (fun c4 => ?_) (fun c4 => ?_)
  · have hyp := ht c4
    clear ht hf
    refine ex_iconst 19 dX0_isPartedFrom_18 rfl ?_
    exact ex_iret dX0_isPartedFrom_19 (Or.inr ⟨rfl, Or.inl rfl⟩) ⟨_, rfl, hyp⟩
  · have hyp := hf c4
    clear ht hf
    refine ex_iconst 15 dX0_isPartedFrom_14 rfl ?_
    refine ex_goto 19 dX0_isPartedFrom_15 (by decide) ?_
    exact ex_iret dX0_isPartedFrom_19 (Or.inr ⟨rfl, Or.inr rfl⟩) ⟨_, rfl, hyp⟩
set_option maxRecDepth 4000 in
theorem tX0_distanceTo {P : Int → PH → Prop} (h0 : PH) (a0 : Nat) (a1 : Nat) (hyp : OB h0 0 a0 ∧ ∃ r2 : Nat, h0.2.2 a0 2 = some r2 ∧ OB h0 0 a1 ∧ AI h0 20 r2 (h0.2.1 a1 0) ∧ P (h0.2.1 r2 (h0.2.1 a1 0).toNat) h0) : METi mX0_distanceTo [vr a0, vr a1] h0 P := by
  refine met_of_ex (by decide +kernel) (Nat.le_of_ble_eq_true rfl) ?_
  show EX mX0_distanceTo 0 [some (vr a0), some (vr a1)] [] h0 (0, 0) _
  refine ex_aload_n 1 dX0_distanceTo_0 rfl rfl ?_
  obtain ⟨o1, hyp⟩ := hyp
  obtain ⟨r2, f3, hyp⟩ := hyp
  refine q_getR 0 2 4 dX0_distanceTo_1 rfl fiX0_15 rfl o1 f3 ?_
  refine ex_aload_n 5 dX0_distanceTo_4 rfl rfl ?_
  obtain ⟨o4, hyp⟩ := hyp
  refine q_getI 0 0 8 dX0_distanceTo_5 rfl fiX0_18 (Or.inl rfl) o4 ?_
  obtain ⟨o5, hyp⟩ := hyp
  refine ex_iald 9 dX0_distanceTo_8 rfl o5 ?_
  exact ex_iret dX0_distanceTo_9 (Or.inl rfl) ⟨_, rfl, hyp⟩
set_option maxRecDepth 4000 in
theorem tX0_likenessTo {P : Int → PH → Prop} (h0 : PH) (a0 : Nat) (a1 : Nat) (hyp : OB h0 0 a0 ∧ OB h0 0 a1 ∧ rng (h0.2.1 a0 3) ∧ rng (h0.2.1 a1 3) ∧ rng (max (h0.2.1 a0 3) (h0.2.1 a1 3)) ∧ METi mX0_distanceTo [vr a0, vr a1] h0 (fun y8 h6 => h6.1 = h0.1 → (rng (1000 * y8) ∧ rng (2 * (max 1 (max (h0.2.1 a0 3) (h0.2.1 a1 3)))) ∧ ¬ 2 * (max 1 (max (h0.2.1 a0 3) (h0.2.1 a1 3))) = 0 ∧ P (1000 - (Int.tdiv (1000 * y8) (2 * (max 1 (max (h0.2.1 a0 3) (h0.2.1 a1 3)))))) h6))) : METi mX0_likenessTo [vr a0, vr a1] h0 P := by
  refine met_of_ex (by decide +kernel) (Nat.le_of_ble_eq_true rfl) ?_
  show EX mX0_likenessTo 0 [some (vr a0), some (vr a1), none] [] h0 (0, 0) _
  refine ex_iconst 1 dX0_likenessTo_0 rfl ?_
  refine ex_aload_n 2 dX0_likenessTo_1 rfl rfl ?_
  obtain ⟨o1, hyp⟩ := hyp
  refine q_getI 0 3 5 dX0_likenessTo_2 rfl fiX0_39 (Or.inl rfl) o1 ?_
  refine ex_aload_n 6 dX0_likenessTo_5 rfl rfl ?_
  obtain ⟨o2, hyp⟩ := hyp
  refine q_getI 0 3 9 dX0_likenessTo_6 rfl fiX0_39 (Or.inl rfl) o2 ?_
  obtain ⟨o3, hyp⟩ := hyp
  obtain ⟨o4, hyp⟩ := hyp
  refine q_max 12 dX0_likenessTo_9 rfl mlX0_62 ⟨Nat.le_of_ble_eq_true rfl, Nat.le_of_ble_eq_true rfl⟩ o3 o4 ?_
  obtain ⟨o5, hyp⟩ := hyp
  refine q_max 15 dX0_likenessTo_12 rfl mlX0_62 ⟨Nat.le_of_ble_eq_true rfl, Nat.le_of_ble_eq_true rfl⟩ ⟨by decide, by decide⟩ o5 ?_
  refine q_istore_n [some (vr a0), some (vr a1), some (vi (max 1 (max (h0.2.1 a0 3) (h0.2.1 a1 3))))] 16 dX0_likenessTo_15 rfl (Nat.le_of_ble_eq_true rfl) rfl rfl ?_
  refine ex_sipush 19 dX0_likenessTo_16 rfl ⟨by decide, by decide⟩ ?_
  refine ex_sipush 22 dX0_likenessTo_19 rfl ⟨by decide, by decide⟩ ?_
  refine ex_aload_n 23 dX0_likenessTo_22 rfl rfl ?_
  refine ex_aload_n 24 dX0_likenessTo_23 rfl rfl ?_
  refine q_callVi [vr a1] 27 dX0_likenessTo_24 rfl cvX0_68 rfl rfl ⟨Nat.le_of_ble_eq_true rfl, Nat.le_of_ble_eq_true rfl⟩ (Nat.le_of_ble_eq_true rfl) o1 hyp (fun y8 h6 k7 hyp => ?_)
  refine ex_imul 28 dX0_likenessTo_27 rfl ?_
  refine ex_iconst 29 dX0_likenessTo_28 rfl ?_
  refine ex_iload_n 30 dX0_likenessTo_29 rfl rfl ?_
  refine ex_imul 31 dX0_likenessTo_30 rfl ?_
  obtain ⟨o9, hyp⟩ := hyp
  obtain ⟨o10, hyp⟩ := hyp
  obtain ⟨o11, hyp⟩ := hyp
  refine ex_idiv 32 dX0_likenessTo_31 rfl o9 o10 o11 ?_
  refine ex_isub 33 dX0_likenessTo_32 rfl ?_
  exact ex_iret dX0_likenessTo_33 (Or.inl rfl) ⟨_, rfl, hyp⟩
set_option maxRecDepth 4000 in
theorem tX0_yearsWith {P : Int → PH → Prop} (h0 : PH) (a0 : Nat) (a1 : Nat) (hyp : OB h0 0 a0 ∧ OB h0 0 a1 ∧ rng (h0.2.1 a0 8) ∧ rng (h0.2.1 a1 8) ∧ rng (h0.2.1 a0 9) ∧ rng (h0.2.1 a1 9) ∧ rng (((min (h0.2.1 a0 9) (h0.2.1 a1 9)) - (max (h0.2.1 a0 8) (h0.2.1 a1 8))) + 1) ∧ P (max 0 (((min (h0.2.1 a0 9) (h0.2.1 a1 9)) - (max (h0.2.1 a0 8) (h0.2.1 a1 8))) + 1)) h0) : METi mX0_yearsWith [vr a0, vr a1] h0 P := by
  refine met_of_ex (by decide +kernel) (Nat.le_of_ble_eq_true rfl) ?_
  show EX mX0_yearsWith 0 [some (vr a0), some (vr a1), none, none] [] h0 (0, 0) _
  refine ex_aload_n 1 dX0_yearsWith_0 rfl rfl ?_
  obtain ⟨o1, hyp⟩ := hyp
  refine q_getI 0 8 4 dX0_yearsWith_1 rfl fiX0_56 (Or.inl rfl) o1 ?_
  refine ex_aload_n 5 dX0_yearsWith_4 rfl rfl ?_
  obtain ⟨o2, hyp⟩ := hyp
  refine q_getI 0 8 8 dX0_yearsWith_5 rfl fiX0_56 (Or.inl rfl) o2 ?_
  obtain ⟨o3, hyp⟩ := hyp
  obtain ⟨o4, hyp⟩ := hyp
  refine q_max 11 dX0_yearsWith_8 rfl mlX0_62 ⟨Nat.le_of_ble_eq_true rfl, Nat.le_of_ble_eq_true rfl⟩ o3 o4 ?_
  refine q_istore_n [some (vr a0), some (vr a1), some (vi (max (h0.2.1 a0 8) (h0.2.1 a1 8))), none] 12 dX0_yearsWith_11 rfl (Nat.le_of_ble_eq_true rfl) rfl rfl ?_
  refine ex_aload_n 13 dX0_yearsWith_12 rfl rfl ?_
  refine q_getI 0 9 16 dX0_yearsWith_13 rfl fiX0_59 (Or.inl rfl) o1 ?_
  refine ex_aload_n 17 dX0_yearsWith_16 rfl rfl ?_
  refine q_getI 0 9 20 dX0_yearsWith_17 rfl fiX0_59 (Or.inl rfl) o2 ?_
  obtain ⟨o5, hyp⟩ := hyp
  obtain ⟨o6, hyp⟩ := hyp
  refine q_min 23 dX0_yearsWith_20 rfl mlX0_72 ⟨Nat.le_of_ble_eq_true rfl, Nat.le_of_ble_eq_true rfl⟩ o5 o6 ?_
  refine q_istore_n [some (vr a0), some (vr a1), some (vi (max (h0.2.1 a0 8) (h0.2.1 a1 8))), some (vi (min (h0.2.1 a0 9) (h0.2.1 a1 9)))] 24 dX0_yearsWith_23 rfl (Nat.le_of_ble_eq_true rfl) rfl rfl ?_
  refine ex_iconst 25 dX0_yearsWith_24 rfl ?_
  refine ex_iload_n 26 dX0_yearsWith_25 rfl rfl ?_
  refine ex_iload_n 27 dX0_yearsWith_26 rfl rfl ?_
  refine ex_isub 28 dX0_yearsWith_27 rfl ?_
  refine ex_iconst 29 dX0_yearsWith_28 rfl ?_
  refine ex_iadd 30 dX0_yearsWith_29 rfl ?_
  obtain ⟨o7, hyp⟩ := hyp
  refine q_max 33 dX0_yearsWith_30 rfl mlX0_62 ⟨Nat.le_of_ble_eq_true rfl, Nat.le_of_ble_eq_true rfl⟩ ⟨by decide, by decide⟩ o7 ?_
  exact ex_iret dX0_yearsWith_33 (Or.inl rfl) ⟨_, rfl, hyp⟩
set_option maxRecDepth 4000 in
theorem tX0_isInWrongOrderWith {P : Int → PH → Prop} (h0 : PH) (a0 : Nat) (a1 : Nat) (hyp : OB h0 0 a0 ∧ rng (h0.2.1 a0 4) ∧ (¬ h0.2.1 a0 4 = 0 → ((¬ h0.2.1 a0 4 = 2 → (P 0 h0)) ∧ (h0.2.1 a0 4 = 2 → (OB h0 0 a1 ∧ rng (h0.2.1 a0 5) ∧ rng (h0.2.1 a1 5) ∧ (h0.2.1 a1 5 ≤ h0.2.1 a0 5 → (P 0 h0)) ∧ (h0.2.1 a0 5 < h0.2.1 a1 5 → (P 1 h0)))))) ∧ (h0.2.1 a0 4 = 0 → (OB h0 0 a1 ∧ rng (h0.2.1 a0 5) ∧ rng (h0.2.1 a1 5) ∧ (h0.2.1 a1 5 < h0.2.1 a0 5 → (P 1 h0)) ∧ (h0.2.1 a0 5 ≤ h0.2.1 a1 5 → ((¬ h0.2.1 a0 4 = 2 → (P 0 h0)) ∧ (h0.2.1 a0 4 = 2 → ((h0.2.1 a1 5 ≤ h0.2.1 a0 5 → (P 0 h0)) ∧ (h0.2.1 a0 5 < h0.2.1 a1 5 → (P 1 h0))))))))) : METi mX0_isInWrongOrderWith [vr a0, vr a1] h0 P := by
  refine met_of_ex (by decide +kernel) (Nat.le_of_ble_eq_true rfl) ?_
  show EX mX0_isInWrongOrderWith 0 [some (vr a0), some (vr a1)] [] h0 (0, 0) _
  refine ex_aload_n 1 dX0_isInWrongOrderWith_0 rfl rfl ?_
  obtain ⟨o1, hyp⟩ := hyp
  refine q_getI 0 4 4 dX0_isInWrongOrderWith_1 rfl fiX0_27 (Or.inl rfl) o1 ?_
  obtain ⟨o2, hyp⟩ := hyp
  obtain ⟨ht, hf⟩ := hyp
  refine ex_if_ne 18 7 dX0_isInWrongOrderWith_4 (by decide) rfl o2 (fun c14 => ?_) (fun c14 => ?_)
  · have hyp := ht c14
    clear ht hf
    refine ex_aload_n 19 dX0_isInWrongOrderWith_18 rfl rfl ?_
    refine q_getI 0 4 22 dX0_isInWrongOrderWith_19 rfl fiX0_27 (Or.inl rfl) o1 ?_
    refine ex_iconst 23 dX0_isInWrongOrderWith_22 rfl ?_
    obtain ⟨ht, hf⟩ := hyp
    refine ex_icmp_ne 41 26 dX0_isInWrongOrderWith_23 (by decide) rfl o2 ⟨by decide, by decide⟩ (fun c7 => ?_) (fun c7 => ?_)
    · have hyp := ht c7
      clear ht hf
      refine ex_iconst 42 dX0_isInWrongOrderWith_41 rfl ?_
      exact ex_iret dX0_isInWrongOrderWith_42 (Or.inr ⟨rfl, Or.inl rfl⟩) ⟨_, rfl, hyp⟩
    · have hyp := hf c7
      clear ht hf
      refine ex_aload_n 27 dX0_isInWrongOrderWith_26 rfl rfl ?_
      refine q_getI 0 5 30 dX0_isInWrongOrderWith_27 rfl fiX0_31 (Or.inl rfl) o1 ?_
      refine ex_aload_n 31 dX0_isInWrongOrderWith_30 rfl rfl ?_
      obtain ⟨o3, hyp⟩ := hyp
      refine q_getI 0 5 34 dX0_isInWrongOrderWith_31 rfl fiX0_31 (Or.inl rfl) o3 ?_
      obtain ⟨o4, hyp⟩ := hyp
      obtain ⟨o5, hyp⟩ := hyp
      obtain ⟨ht, hf⟩ := hyp
      refine ex_icmp_ge 41 37 dX0_isInWrongOrderWith_34 (by decide) rfl o4 o5 (fun c6 => ?_) (fun c6 => ?_)
      · have hyp := ht c6
        clear ht hf
        refine ex_iconst 42 dX0_isInWrongOrderWith_41 rfl ?_
        exact ex_iret dX0_isInWrongOrderWith_42 (Or.inr ⟨rfl, Or.inl rfl⟩) ⟨_, rfl, hyp⟩
      · have hyp := hf c6
        clear ht hf
        refine ex_iconst 38 dX0_isInWrongOrderWith_37 rfl ?_
        refine ex_goto 42 dX0_isInWrongOrderWith_38 (by decide) ?_
        exact ex_iret dX0_isInWrongOrderWith_42 (Or.inr ⟨rfl, Or.inr rfl⟩) ⟨_, rfl, hyp⟩
  · have hyp := hf c14
    clear ht hf
    refine ex_aload_n 8 dX0_isInWrongOrderWith_7 rfl rfl ?_
    refine q_getI 0 5 11 dX0_isInWrongOrderWith_8 rfl fiX0_31 (Or.inl rfl) o1 ?_
    refine ex_aload_n 12 dX0_isInWrongOrderWith_11 rfl rfl ?_
    obtain ⟨o8, hyp⟩ := hyp
    refine q_getI 0 5 15 dX0_isInWrongOrderWith_12 rfl fiX0_31 (Or.inl rfl) o8 ?_
    obtain ⟨o9, hyp⟩ := hyp
    obtain ⟨o10, hyp⟩ := hyp
    obtain ⟨ht, hf⟩ := hyp
    refine ex_icmp_gt 37 18 dX0_isInWrongOrderWith_15 (by decide) rfl o9 o10 (fun c13 => ?_) (fun c13 => ?_)
    · have hyp := ht c13
      clear ht hf
      refine ex_iconst 38 dX0_isInWrongOrderWith_37 rfl ?_
      refine ex_goto 42 dX0_isInWrongOrderWith_38 (by decide) ?_
      exact ex_iret dX0_isInWrongOrderWith_42 (Or.inr ⟨rfl, Or.inr rfl⟩) ⟨_, rfl, hyp⟩
    · have hyp := hf c13
      clear ht hf
      refine ex_aload_n 19 dX0_isInWrongOrderWith_18 rfl rfl ?_
      refine q_getI 0 4 22 dX0_isInWrongOrderWith_19 rfl fiX0_27 (Or.inl rfl) o1 ?_
      refine ex_iconst 23 dX0_isInWrongOrderWith_22 rfl ?_
      obtain ⟨ht, hf⟩ := hyp
      refine ex_icmp_ne 41 26 dX0_isInWrongOrderWith_23 (by decide) rfl o2 ⟨by decide, by decide⟩ (fun c12 => ?_) (fun c12 => ?_)
      · have hyp := ht c12
        clear ht hf
        refine ex_iconst 42 dX0_isInWrongOrderWith_41 rfl ?_
        exact ex_iret dX0_isInWrongOrderWith_42 (Or.inr ⟨rfl, Or.inl rfl⟩) ⟨_, rfl, hyp⟩
      · have hyp := hf c12
        clear ht hf
        refine ex_aload_n 27 dX0_isInWrongOrderWith_26 rfl rfl ?_
        refine q_getI 0 5 30 dX0_isInWrongOrderWith_27 rfl fiX0_31 (Or.inl rfl) o1 ?_
        refine ex_aload_n 31 dX0_isInWrongOrderWith_30 rfl rfl ?_
        refine q_getI 0 5 34 dX0_isInWrongOrderWith_31 rfl fiX0_31 (Or.inl rfl) o8 ?_
        obtain ⟨ht, hf⟩ := hyp
        refine ex_icmp_ge 41 37 dX0_isInWrongOrderWith_34 (by decide) rfl o9 o10 (fun c11 => ?_) (fun c11 => ?_)
        · have hyp := ht c11
          clear ht hf
          refine ex_iconst 42 dX0_isInWrongOrderWith_41 rfl ?_
          exact ex_iret dX0_isInWrongOrderWith_42 (Or.inr ⟨rfl, Or.inl rfl⟩) ⟨_, rfl, hyp⟩
        · have hyp := hf c11
          clear ht hf
          refine ex_iconst 38 dX0_isInWrongOrderWith_37 rfl ?_
          refine ex_goto 42 dX0_isInWrongOrderWith_38 (by decide) ?_
          exact ex_iret dX0_isInWrongOrderWith_42 (Or.inr ⟨rfl, Or.inr rfl⟩) ⟨_, rfl, hyp⟩
set_option maxRecDepth 4000 in
theorem tX1_clear {P : PH → Prop} (h0 : PH) (a0 : Nat) (hyp : OB h0 1 a0 ∧ ∀ h2 : PH, h2 = px_upI h0 a0 1 0 → (∀ h5 : PH, h5 = px_upI h2 a0 2 0 → (∀ h8 : PH, h8 = px_upI h5 a0 3 (-1) → (∀ h11 : PH, h11 = px_upI h8 a0 4 (-1) → (∀ h14 : PH, h14 = px_upI h11 a0 8 0 → (P h14)))))) : METv mX1_clear [vr a0] h0 (0, 0) P := by
  refine met_of_ex (by decide +kernel) (Nat.le_of_ble_eq_true rfl) ?_
  show EX mX1_clear 0 [some (vr a0)] [] h0 (0, 0) _
  refine ex_aload_n 1 dX1_clear_0 rfl rfl ?_
  refine ex_iconst 2 dX1_clear_1 rfl ?_
  obtain ⟨o1, hyp⟩ := hyp
  refine q_putI 1 1 5 dX1_clear_2 rfl fiX1_15 ff1_1 rfl o1 (fun h2 e3 => ?_)
  have hyp := hyp h2 e3
  refine ex_aload_n 6 dX1_clear_5 rfl rfl ?_
  refine ex_iconst 7 dX1_clear_6 rfl ?_
  have f4 := OB.of (KI e3) o1
  refine q_putI 1 2 10 dX1_clear_7 rfl fiX1_19 ff1_2 rfl f4 (fun h5 e6 => ?_)
  have hyp := hyp h5 e6
  refine ex_aload_n 11 dX1_clear_10 rfl rfl ?_
  refine ex_iconst 12 dX1_clear_11 rfl ?_
  have f7 := OB.of (KI e6) f4
  refine q_putI 1 3 15 dX1_clear_12 rfl fiX1_22 ff1_3 rfl f7 (fun h8 e9 => ?_)
  have hyp := hyp h8 e9
  refine ex_aload_n 16 dX1_clear_15 rfl rfl ?_
  refine ex_iconst 17 dX1_clear_16 rfl ?_
  have f10 := OB.of (KI e9) f7
  refine q_putI 1 4 20 dX1_clear_17 rfl fiX1_25 ff1_4 rfl f10 (fun h11 e12 => ?_)
  have hyp := hyp h11 e12
  refine ex_aload_n 21 dX1_clear_20 rfl rfl ?_
  refine ex_iconst 22 dX1_clear_21 rfl ?_
  have f13 := OB.of (KI e12) f10
  refine q_putZ 1 8 25 dX1_clear_22 rfl fiX1_28 ff1_8 rfl f13 (Or.inl rfl) (fun h14 e15 => ?_)
  have hyp := hyp h14 e15
  exact ex_vret dX1_clear_25 rfl ⟨rfl, hyp⟩
set_option maxRecDepth 4000 in
theorem tX1_weddings {P : Int → PH → Prop} (h0 : PH) (a0 : Nat) (hyp : OB h0 1 a0 ∧ P ((h0.2.1 a0 1) - (h0.2.1 a0 2)) h0) : METi mX1_weddings [vr a0] h0 P := by
  refine met_of_ex (by decide +kernel) (Nat.le_of_ble_eq_true rfl) ?_
  show EX mX1_weddings 0 [some (vr a0)] [] h0 (0, 0) _
  refine ex_aload_n 1 dX1_weddings_0 rfl rfl ?_
  obtain ⟨o1, hyp⟩ := hyp
  refine q_getI 1 1 4 dX1_weddings_1 rfl fiX1_15 (Or.inl rfl) o1 ?_
  refine ex_aload_n 5 dX1_weddings_4 rfl rfl ?_
  refine q_getI 1 2 8 dX1_weddings_5 rfl fiX1_19 (Or.inl rfl) o1 ?_
  refine ex_isub 9 dX1_weddings_8 rfl ?_
  exact ex_iret dX1_weddings_9 (Or.inl rfl) ⟨_, rfl, hyp⟩
set_option maxRecDepth 4000 in
theorem tX1_isBorn {P : Int → PH → Prop} (h0 : PH) (a0 : Nat) (hyp : OB h0 1 a0 ∧ rng (h0.2.1 a0 5) ∧ rng (h0.2.1 a0 6) ∧ (h0.2.1 a0 6 < h0.2.1 a0 5 → (P 0 h0)) ∧ (h0.2.1 a0 5 ≤ h0.2.1 a0 6 → (P 1 h0))) : METi mX1_isBorn [vr a0] h0 P := by
  refine met_of_ex (by decide +kernel) (Nat.le_of_ble_eq_true rfl) ?_
  show EX mX1_isBorn 0 [some (vr a0)] [] h0 (0, 0) _
  refine ex_aload_n 1 dX1_isBorn_0 rfl rfl ?_
  obtain ⟨o1, hyp⟩ := hyp
  refine q_getI 1 5 4 dX1_isBorn_1 rfl fiX1_32 (Or.inl rfl) o1 ?_
  refine ex_aload_n 5 dX1_isBorn_4 rfl rfl ?_
  refine q_getI 1 6 8 dX1_isBorn_5 rfl fiX1_35 (Or.inl rfl) o1 ?_
  obtain ⟨o2, hyp⟩ := hyp
  obtain ⟨o3, hyp⟩ := hyp
  obtain ⟨ht, hf⟩ := hyp
  refine ex_icmp_gt 15 11 dX1_isBorn_8 (by decide) rfl o2 o3 (fun c4 => ?_) (fun c4 => ?_)
  · have hyp := ht c4
    clear ht hf
    refine ex_iconst 16 dX1_isBorn_15 rfl ?_
    exact ex_iret dX1_isBorn_16 (Or.inr ⟨rfl, Or.inl rfl⟩) ⟨_, rfl, hyp⟩
  · have hyp := hf c4
    clear ht hf
    refine ex_iconst 12 dX1_isBorn_11 rfl ?_
    refine ex_goto 16 dX1_isBorn_12 (by decide) ?_
    exact ex_iret dX1_isBorn_16 (Or.inr ⟨rfl, Or.inr rfl⟩) ⟨_, rfl, hyp⟩
set_option maxRecDepth 4000 in
theorem tX1_add {P : PH → Prop} (h0 : PH) (a0 : Nat) (x1 : Int) (a2 : Nat) (hyp : OB h0 1 a0 ∧ ∃ r2 : Nat, h0.2.2 a0 0 = some r2 ∧ ∃ n4 : Nat, h0.1[r2]? = some (20, n4) ∧ rng (h0.2.1 a0 1) ∧ rng (n4 : Int) ∧ (h0.2.1 a0 1 < (n4 : Int) → ((¬ h0.2.1 a0 1 = 0 → (OB h0 0 a2 ∧ rng (h0.2.1 a0 5) ∧ rng (h0.2.1 a2 8) ∧ EXv mX1_add 39 [some (vr a0), some (vi x1), some (vr a2)] [vi (max (h0.2.1 a0 5) (h0.2.1 a2 8)), vr a0] h0 (0, 0) P)) ∧ (h0.2.1 a0 1 = 0 → (OB h0 0 a2 ∧ EXv mX1_add 39 [some (vr a0), some (vi x1), some (vr a2)] [vi (h0.2.1 a2 8), vr a0] h0 (0, 0) P)))) ∧ ((n4 : Int) ≤ h0.2.1 a0 1 → (P h0))) : METv mX1_add [vr a0, vi x1, vr a2] h0 (0, 0) P := by
  refine met_of_ex (by decide +kernel) (Nat.le_of_ble_eq_true rfl) ?_
  show EX mX1_add 0 [some (vr a0), some (vi x1), some (vr a2)] [] h0 (0, 0) _
  refine ex_aload_n 1 dX1_add_0 rfl rfl ?_
  obtain ⟨o1, hyp⟩ := hyp
  refine q_getI 1 1 4 dX1_add_1 rfl fiX1_15 (Or.inl rfl) o1 ?_
  refine ex_aload_n 5 dX1_add_4 rfl rfl ?_
  obtain ⟨r2, f3, hyp⟩ := hyp
  refine q_getR 1 0 8 dX1_add_5 rfl fiX1_9 rfl o1 f3 ?_
  obtain ⟨n4, o5, hyp⟩ := hyp
  refine ex_alen 9 dX1_add_8 rfl o5 rfl ?_
  obtain ⟨o8, hyp⟩ := hyp
  obtain ⟨o9, hyp⟩ := hyp
  obtain ⟨ht, hf⟩ := hyp
  refine ex_icmp_lt 13 12 dX1_add_9 (by decide) rfl o8 o9 (fun c15 => ?_) (fun c15 => ?_)
  · have hyp := ht c15
    clear ht hf
    refine ex_aload_n 14 dX1_add_13 rfl rfl ?_
    refine ex_aload_n 15 dX1_add_14 rfl rfl ?_
    refine q_getI 1 1 18 dX1_add_15 rfl fiX1_15 (Or.inl rfl) o1 ?_
    obtain ⟨ht, hf⟩ := hyp
    refine ex_if_ne 28 21 dX1_add_18 (by decide) rfl o8 (fun c14 => ?_) (fun c14 => ?_)
    · have hyp := ht c14
      clear ht hf
      refine ex_aload_n 29 dX1_add_28 rfl rfl ?_
      refine q_getI 1 5 32 dX1_add_29 rfl fiX1_32 (Or.inl rfl) o1 ?_
      refine ex_aload_n 33 dX1_add_32 rfl rfl ?_
      obtain ⟨o10, hyp⟩ := hyp
      refine q_getI 0 8 36 dX1_add_33 rfl fiX1_38 (Or.inl rfl) o10 ?_
      obtain ⟨o11, hyp⟩ := hyp
      obtain ⟨o12, hyp⟩ := hyp
      refine q_max 39 dX1_add_36 rfl mlX1_41 ⟨Nat.le_of_ble_eq_true rfl, Nat.le_of_ble_eq_true rfl⟩ o11 o12 ?_
      exact hyp
    · have hyp := hf c14
      clear ht hf
      refine ex_aload_n 22 dX1_add_21 rfl rfl ?_
      obtain ⟨o13, hyp⟩ := hyp
      refine q_getI 0 8 25 dX1_add_22 rfl fiX1_38 (Or.inl rfl) o13 ?_
      refine ex_goto 39 dX1_add_25 (by decide) ?_
      exact hyp
  · have hyp := hf c15
    clear ht hf
    exact ex_vret dX1_add_12 rfl ⟨rfl, hyp⟩
set_option maxRecDepth 4000 in
theorem tX1_add_39 {P : PH → Prop} (h0 : PH) (a0 : Nat) (x1 : Int) (a2 : Nat) (as0 : Nat) (xs1 : Int) (hyp : OB h0 1 as0 ∧ ∀ h2 : PH, h2 = px_upI h0 as0 5 xs1 → (OB h2 1 a0 ∧ rng (h2.2.1 a0 1) ∧ (¬ h2.2.1 a0 1 = 0 → (OB h2 0 a2 ∧ rng (h2.2.1 a0 6) ∧ rng (h2.2.1 a2 9) ∧ EXv mX1_add 68 [some (vr a0), some (vi x1), some (vr a2)] [vi (min (h2.2.1 a0 6) (h2.2.1 a2 9)), vr a0] h2 (0, 0) P)) ∧ (h2.2.1 a0 1 = 0 → (OB h2 0 a2 ∧ EXv mX1_add 68 [some (vr a0), some (vi x1), some (vr a2)] [vi (h2.2.1 a2 9), vr a0] h2 (0, 0) P)))) : EXv mX1_add 39 [some (vr a0), some (vi x1), some (vr a2)] [vi xs1, vr as0] h0 (0, 0) P := by
  obtain ⟨o1, hyp⟩ := hyp
  refine q_putI 1 5 42 dX1_add_39 rfl fiX1_32 ff1_5 rfl o1 (fun h2 e3 => ?_)
  have hyp := hyp h2 e3
  refine ex_aload_n 43 dX1_add_42 rfl rfl ?_
  refine ex_aload_n 44 dX1_add_43 rfl rfl ?_
  obtain ⟨o4, hyp⟩ := hyp
  refine q_getI 1 1 47 dX1_add_44 rfl fiX1_15 (Or.inl rfl) o4 ?_
  obtain ⟨o5, hyp⟩ := hyp
  obtain ⟨ht, hf⟩ := hyp
  refine ex_if_ne 57 50 dX1_add_47 (by decide) rfl o5 (fun c10 => ?_) (fun c10 => ?_)
  · have hyp := ht c10
    clear ht hf
    refine ex_aload_n 58 dX1_add_57 rfl rfl ?_
    refine q_getI 1 6 61 dX1_add_58 rfl fiX1_35 (Or.inl rfl) o4 ?_
    refine ex_aload_n 62 dX1_add_61 rfl rfl ?_
    obtain ⟨o6, hyp⟩ := hyp
    refine q_getI 0 9 65 dX1_add_62 rfl fiX1_47 (Or.inl rfl) o6 ?_
    obtain ⟨o7, hyp⟩ := hyp
    obtain ⟨o8, hyp⟩ := hyp
    refine q_min 68 dX1_add_65 rfl mlX1_48 ⟨Nat.le_of_ble_eq_true rfl, Nat.le_of_ble_eq_true rfl⟩ o7 o8 ?_
    exact hyp
  · have hyp := hf c10
    clear ht hf
    refine ex_aload_n 51 dX1_add_50 rfl rfl ?_
    obtain ⟨o9, hyp⟩ := hyp
    refine q_getI 0 9 54 dX1_add_51 rfl fiX1_47 (Or.inl rfl) o9 ?_
    refine ex_goto 68 dX1_add_54 (by decide) ?_
    exact hyp
set_option maxRecDepth 4000 in
theorem tX1_add_68 {P : PH → Prop} (h0 : PH) (a0 : Nat) (x1 : Int) (a2 : Nat) (as0 : Nat) (xs1 : Int) (hyp : OB h0 1 as0 ∧ ∀ h2 : PH, h2 = px_upI h0 as0 6 xs1 → (OB h2 1 a0 ∧ rng (h2.2.1 a0 1) ∧ (¬ h2.2.1 a0 1 = 0 → (OB h2 0 a2 ∧ rng (h2.2.1 a0 7) ∧ rng (h2.2.1 a2 5) ∧ ∀ h9 : PH, h9 = px_upI h2 a0 7 (max (h2.2.1 a0 7) (h2.2.1 a2 5)) → (∃ r12 : Nat, h9.2.2 a0 0 = some r12 ∧ AI h9 20 r12 (h9.2.1 a0 1) ∧ ∀ h15 : PH, h15 = px_upI h9 r12 (h9.2.1 a0 1).toNat x1 → (∀ h18 : PH, h18 = px_upI h15 a0 1 ((h15.2.1 a0 1) + 1) → (rng (h18.2.1 a2 4) ∧ (¬ h18.2.1 a2 4 = 1 → (∀ h25 : PH, h25 = px_upI h18 a0 2 ((h18.2.1 a0 2) + 1) → (rng (h25.2.1 a2 4) ∧ (¬ h25.2.1 a2 4 = 0 → (∀ h30 : PH, h30 = px_upI h25 a0 4 x1 → (P h30))) ∧ (h25.2.1 a2 4 = 0 → (∀ h33 : PH, h33 = px_upI h25 a0 3 x1 → (P h33)))))) ∧ (h18.2.1 a2 4 = 1 → (P h18))))))) ∧ (h2.2.1 a0 1 = 0 → (OB h2 0 a2 ∧ ∀ h38 : PH, h38 = px_upI h2 a0 7 (h2.2.1 a2 5) → (∃ r41 : Nat, h38.2.2 a0 0 = some r41 ∧ AI h38 20 r41 (h38.2.1 a0 1) ∧ ∀ h44 : PH, h44 = px_upI h38 r41 (h38.2.1 a0 1).toNat x1 → (∀ h47 : PH, h47 = px_upI h44 a0 1 ((h44.2.1 a0 1) + 1) → (rng (h47.2.1 a2 4) ∧ (¬ h47.2.1 a2 4 = 1 → (∀ h54 : PH, h54 = px_upI h47 a0 2 ((h47.2.1 a0 2) + 1) → (rng (h54.2.1 a2 4) ∧ (¬ h54.2.1 a2 4 = 0 → (∀ h59 : PH, h59 = px_upI h54 a0 4 x1 → (P h59))) ∧ (h54.2.1 a2 4 = 0 → (∀ h62 : PH, h62 = px_upI h54 a0 3 x1 → (P h62)))))) ∧ (h47.2.1 a2 4 = 1 → (P h47))))))))) : EXv mX1_add 68 [some (vr a0), some (vi x1), some (vr a2)] [vi xs1, vr as0] h0 (0, 0) P := by
  obtain ⟨o1, hyp⟩ := hyp
  refine q_putI 1 6 71 dX1_add_68 rfl fiX1_35 ff1_6 rfl o1 (fun h2 e3 => ?_)
  have hyp := hyp h2 e3
  refine ex_aload_n 72 dX1_add_71 rfl rfl ?_
  refine ex_aload_n 73 dX1_add_72 rfl rfl ?_
  obtain ⟨o4, hyp⟩ := hyp
  refine q_getI 1 1 76 dX1_add_73 rfl fiX1_15 (Or.inl rfl) o4 ?_
  obtain ⟨o5, hyp⟩ := hyp
  obtain ⟨ht, hf⟩ := hyp
  refine ex_if_ne 86 79 dX1_add_76 (by decide) rfl o5 (fun c66 => ?_) (fun c66 => ?_)
  · have hyp := ht c66
    clear ht hf
    refine ex_aload_n 87 dX1_add_86 rfl rfl ?_
    refine q_getI 1 7 90 dX1_add_87 rfl fiX1_54 (Or.inl rfl) o4 ?_
    refine ex_aload_n 91 dX1_add_90 rfl rfl ?_
    obtain ⟨o6, hyp⟩ := hyp
    refine q_getI 0 5 94 dX1_add_91 rfl fiX1_51 (Or.inl rfl) o6 ?_
    obtain ⟨o7, hyp⟩ := hyp
    obtain ⟨o8, hyp⟩ := hyp
    refine q_max 97 dX1_add_94 rfl mlX1_41 ⟨Nat.le_of_ble_eq_true rfl, Nat.le_of_ble_eq_true rfl⟩ o7 o8 ?_
    refine q_putI 1 7 100 dX1_add_97 rfl fiX1_54 ff1_7 rfl o4 (fun h9 e10 => ?_)
    have hyp := hyp h9 e10
    refine ex_aload_n 101 dX1_add_100 rfl rfl ?_
    have f11 := OB.of (KI e10) o4
    obtain ⟨r12, f13, hyp⟩ := hyp
    refine q_getR 1 0 104 dX1_add_101 rfl fiX1_9 rfl f11 f13 ?_
    refine ex_aload_n 105 dX1_add_104 rfl rfl ?_
    refine q_getI 1 1 108 dX1_add_105 rfl fiX1_15 (Or.inl rfl) f11 ?_
    refine ex_iload_n 109 dX1_add_108 rfl rfl ?_
    obtain ⟨o14, hyp⟩ := hyp
    refine ex_iast 110 dX1_add_109 rfl o14 (fun h15 e16 => ?_)
    have hyp := hyp h15 e16
    refine ex_aload_n 111 dX1_add_110 rfl rfl ?_
    refine ex_dup 112 dX1_add_111 rfl rfl ?_
    have f17 := OB.of (KI e16) f11
    refine q_getI 1 1 115 dX1_add_112 rfl fiX1_15 (Or.inl rfl) f17 ?_
    refine ex_iconst 116 dX1_add_115 rfl ?_
    refine ex_iadd 117 dX1_add_116 rfl ?_
    refine q_putI 1 1 120 dX1_add_117 rfl fiX1_15 ff1_1 rfl f17 (fun h18 e19 => ?_)
    have hyp := hyp h18 e19
    refine ex_aload_n 121 dX1_add_120 rfl rfl ?_
    have f20 := OB.of (KI e10) o6
    have f21 := OB.of (KI e16) f20
    have f22 := OB.of (KI e19) f21
    refine q_getI 0 4 124 dX1_add_121 rfl fiX1_57 (Or.inl rfl) f22 ?_
    refine ex_iconst 125 dX1_add_124 rfl ?_
    obtain ⟨o23, hyp⟩ := hyp
    obtain ⟨ht, hf⟩ := hyp
    refine ex_icmp_ne 129 128 dX1_add_125 (by decide) rfl o23 ⟨by decide, by decide⟩ (fun c36 => ?_) (fun c36 => ?_)
    · have hyp := ht c36
      clear ht hf
      refine ex_aload_n 130 dX1_add_129 rfl rfl ?_
      refine ex_dup 131 dX1_add_130 rfl rfl ?_
      have f24 := OB.of (KI e19) f17
      refine q_getI 1 2 134 dX1_add_131 rfl fiX1_19 (Or.inl rfl) f24 ?_
      refine ex_iconst 135 dX1_add_134 rfl ?_
      refine ex_iadd 136 dX1_add_135 rfl ?_
      refine q_putI 1 2 139 dX1_add_136 rfl fiX1_19 ff1_2 rfl f24 (fun h25 e26 => ?_)
      have hyp := hyp h25 e26
      refine ex_aload_n 140 dX1_add_139 rfl rfl ?_
      have f27 := OB.of (KI e26) f22
      refine q_getI 0 4 143 dX1_add_140 rfl fiX1_57 (Or.inl rfl) f27 ?_
      obtain ⟨o28, hyp⟩ := hyp
      obtain ⟨ht, hf⟩ := hyp
      refine ex_if_ne 154 146 dX1_add_143 (by decide) rfl o28 (fun c35 => ?_) (fun c35 => ?_)
      · have hyp := ht c35
        clear ht hf
        refine ex_aload_n 155 dX1_add_154 rfl rfl ?_
        refine ex_iload_n 156 dX1_add_155 rfl rfl ?_
        have f29 := OB.of (KI e26) f24
        refine q_putI 1 4 159 dX1_add_156 rfl fiX1_25 ff1_4 rfl f29 (fun h30 e31 => ?_)
        have hyp := hyp h30 e31
        exact ex_vret dX1_add_159 rfl ⟨rfl, hyp⟩
      · have hyp := hf c35
        clear ht hf
        refine ex_aload_n 147 dX1_add_146 rfl rfl ?_
        refine ex_iload_n 148 dX1_add_147 rfl rfl ?_
        have f32 := OB.of (KI e26) f24
        refine q_putI 1 3 151 dX1_add_148 rfl fiX1_22 ff1_3 rfl f32 (fun h33 e34 => ?_)
        have hyp := hyp h33 e34
        refine ex_goto 159 dX1_add_151 (by decide) ?_
        exact ex_vret dX1_add_159 rfl ⟨rfl, hyp⟩
    · have hyp := hf c36
      clear ht hf
      exact ex_vret dX1_add_128 rfl ⟨rfl, hyp⟩
  · have hyp := hf c66
    clear ht hf
    refine ex_aload_n 80 dX1_add_79 rfl rfl ?_
    obtain ⟨o37, hyp⟩ := hyp
    refine q_getI 0 5 83 dX1_add_80 rfl fiX1_51 (Or.inl rfl) o37 ?_
    refine ex_goto 97 dX1_add_83 (by decide) ?_
    refine q_putI 1 7 100 dX1_add_97 rfl fiX1_54 ff1_7 rfl o4 (fun h38 e39 => ?_)
    have hyp := hyp h38 e39
    refine ex_aload_n 101 dX1_add_100 rfl rfl ?_
    have f40 := OB.of (KI e39) o4
    obtain ⟨r41, f42, hyp⟩ := hyp
    refine q_getR 1 0 104 dX1_add_101 rfl fiX1_9 rfl f40 f42 ?_
    refine ex_aload_n 105 dX1_add_104 rfl rfl ?_
    refine q_getI 1 1 108 dX1_add_105 rfl fiX1_15 (Or.inl rfl) f40 ?_
    refine ex_iload_n 109 dX1_add_108 rfl rfl ?_
    obtain ⟨o43, hyp⟩ := hyp
    refine ex_iast 110 dX1_add_109 rfl o43 (fun h44 e45 => ?_)
    have hyp := hyp h44 e45
    refine ex_aload_n 111 dX1_add_110 rfl rfl ?_
    refine ex_dup 112 dX1_add_111 rfl rfl ?_
    have f46 := OB.of (KI e45) f40
    refine q_getI 1 1 115 dX1_add_112 rfl fiX1_15 (Or.inl rfl) f46 ?_
    refine ex_iconst 116 dX1_add_115 rfl ?_
    refine ex_iadd 117 dX1_add_116 rfl ?_
    refine q_putI 1 1 120 dX1_add_117 rfl fiX1_15 ff1_1 rfl f46 (fun h47 e48 => ?_)
    have hyp := hyp h47 e48
    refine ex_aload_n 121 dX1_add_120 rfl rfl ?_
    have f49 := OB.of (KI e39) o37
    have f50 := OB.of (KI e45) f49
    have f51 := OB.of (KI e48) f50
    refine q_getI 0 4 124 dX1_add_121 rfl fiX1_57 (Or.inl rfl) f51 ?_
    refine ex_iconst 125 dX1_add_124 rfl ?_
    obtain ⟨o52, hyp⟩ := hyp
    obtain ⟨ht, hf⟩ := hyp
    refine ex_icmp_ne 129 128 dX1_add_125 (by decide) rfl o52 ⟨by decide, by decide⟩ (fun c65 => ?_) (fun c65 => ?_)
    · have hyp := ht c65
      clear ht hf
      refine ex_aload_n 130 dX1_add_129 rfl rfl ?_
      refine ex_dup 131 dX1_add_130 rfl rfl ?_
      have f53 := OB.of (KI e48) f46
      refine q_getI 1 2 134 dX1_add_131 rfl fiX1_19 (Or.inl rfl) f53 ?_
      refine ex_iconst 135 dX1_add_134 rfl ?_
      refine ex_iadd 136 dX1_add_135 rfl ?_
      refine q_putI 1 2 139 dX1_add_136 rfl fiX1_19 ff1_2 rfl f53 (fun h54 e55 => ?_)
      have hyp := hyp h54 e55
      refine ex_aload_n 140 dX1_add_139 rfl rfl ?_
      have f56 := OB.of (KI e55) f51
      refine q_getI 0 4 143 dX1_add_140 rfl fiX1_57 (Or.inl rfl) f56 ?_
      obtain ⟨o57, hyp⟩ := hyp
      obtain ⟨ht, hf⟩ := hyp
      refine ex_if_ne 154 146 dX1_add_143 (by decide) rfl o57 (fun c64 => ?_) (fun c64 => ?_)
      · have hyp := ht c64
        clear ht hf
        refine ex_aload_n 155 dX1_add_154 rfl rfl ?_
        refine ex_iload_n 156 dX1_add_155 rfl rfl ?_
        have f58 := OB.of (KI e55) f53
        refine q_putI 1 4 159 dX1_add_156 rfl fiX1_25 ff1_4 rfl f58 (fun h59 e60 => ?_)
        have hyp := hyp h59 e60
        exact ex_vret dX1_add_159 rfl ⟨rfl, hyp⟩
      · have hyp := hf c64
        clear ht hf
        refine ex_aload_n 147 dX1_add_146 rfl rfl ?_
        refine ex_iload_n 148 dX1_add_147 rfl rfl ?_
        have f61 := OB.of (KI e55) f53
        refine q_putI 1 3 151 dX1_add_148 rfl fiX1_22 ff1_3 rfl f61 (fun h62 e63 => ?_)
        have hyp := hyp h62 e63
        refine ex_goto 159 dX1_add_151 (by decide) ?_
        exact ex_vret dX1_add_159 rfl ⟨rfl, hyp⟩
    · have hyp := hf c65
      clear ht hf
      exact ex_vret dX1_add_128 rfl ⟨rfl, hyp⟩
set_option maxRecDepth 4000 in
theorem tX3_settle {P : PH → Prop} (h0 : PH) (a0 : Nat) (a1 : Nat) (a2 : Nat) (hyp : OB h0 3 a0 ∧ METv mX3_list [vr a0, vr a1] h0 (0, 0) (fun h2 => h2.1 = h0.1 → (EXv mX3_settle 12 [some (vr a0), none, some (vr a2), some (vi ((h2.2.1 a0 5) - 1)), none] [] h2 (0, 0) P))) : METv mX3_settle [vr a0, vr a1, vr a2] h0 (0, 0) P := by
  refine met_of_ex (by decide +kernel) (Nat.le_of_ble_eq_true rfl) ?_
  show EX mX3_settle 0 [some (vr a0), some (vr a1), some (vr a2), none, none] [] h0 (0, 0) _
  refine ex_aload_n 1 dX3_settle_0 rfl rfl ?_
  refine ex_aload_n 2 dX3_settle_1 rfl rfl ?_
  obtain ⟨o1, hyp⟩ := hyp
  refine q_callVv [vr a1] 5 dX3_settle_2 rfl cvX3_26 rfl rfl ⟨Nat.le_of_ble_eq_true rfl, Nat.le_of_ble_eq_true rfl⟩ (Nat.le_of_ble_eq_true rfl) o1 hyp (fun h2 k3 hyp => ?_)
  refine ex_aload_n 6 dX3_settle_5 rfl rfl ?_
  have f4 := OB.of k3 o1
  refine q_getI 3 5 9 dX3_settle_6 rfl fiX3_30 (Or.inl rfl) f4 ?_
  refine ex_iconst 10 dX3_settle_9 rfl ?_
  refine ex_isub 11 dX3_settle_10 rfl ?_
  refine q_istore_n [some (vr a0), some (vr a1), some (vr a2), some (vi ((h2.2.1 a0 5) - 1)), none] 12 dX3_settle_11 rfl (Nat.le_of_ble_eq_true rfl) rfl rfl ?_
  refine ex_dropL (ls' := [some (vr a0), none, some (vr a2), some (vi ((h2.2.1 a0 5) - 1)), none]) 1 rfl ?_
  exact hyp
set_option maxRecDepth 4000 in
theorem tX3_settle_12 {P : PH → Prop} (h0 : PH) (a0 : Nat) (a2 : Nat) (x3 : Int) (hyp : rng x3 ∧ (x3 < 0 → (OB h0 3 a0 ∧ METv mX3_choose [vr a0, vr a2] h0 (0, 0) (fun h3 => h3.1 = h0.1 → (P h3)))) ∧ (0 ≤ x3 → (EXv mX3_settle 19 [some (vr a0), none, some (vr a2), some (vi x3), some (vi 0)] [] h0 (0, 0) P))) : EXv mX3_settle 12 [some (vr a0), none, some (vr a2), some (vi x3), none] [] h0 (0, 0) P := by
  refine ex_iload_n 13 dX3_settle_12 rfl rfl ?_
  obtain ⟨o1, hyp⟩ := hyp
  obtain ⟨ht, hf⟩ := hyp
  refine ex_if_lt 59 16 dX3_settle_13 (by decide) rfl o1 (fun c5 => ?_) (fun c5 => ?_)
  · have hyp := ht c5
    clear ht hf
    refine ex_aload_n 60 dX3_settle_59 rfl rfl ?_
    refine ex_aload_n 61 dX3_settle_60 rfl rfl ?_
    obtain ⟨o2, hyp⟩ := hyp
    refine q_callVv [vr a2] 64 dX3_settle_61 rfl cvX3_41 rfl rfl ⟨Nat.le_of_ble_eq_true rfl, Nat.le_of_ble_eq_true rfl⟩ (Nat.le_of_ble_eq_true rfl) o2 hyp (fun h3 k4 hyp => ?_)
    exact ex_vret dX3_settle_64 rfl ⟨rfl, hyp⟩
  · have hyp := hf c5
    clear ht hf
    refine ex_iconst 17 dX3_settle_16 rfl ?_
    refine q_istore [some (vr a0), none, some (vr a2), some (vi x3), some (vi 0)] 19 dX3_settle_17 rfl (Nat.le_of_ble_eq_true rfl) rfl rfl ?_
    exact hyp
set_option maxRecDepth 4000 in
theorem tX3_settle_19 {P : PH → Prop} (h0 : PH) (a0 : Nat) (a2 : Nat) (x3 : Int) (x4 : Int) (hyp : OB h0 3 a0 ∧ rng x4 ∧ rng (b_shl 1 (h0.2.1 a0 6)) ∧ (b_shl 1 (h0.2.1 a0 6) ≤ x4 → (EXv mX3_settle 12 [some (vr a0), none, some (vr a2), some (vi (x3 + (-1))), none] [] h0 (0, 0) P)) ∧ (x4 < b_shl 1 (h0.2.1 a0 6) → (∃ r4 : Nat, h0.2.2 a0 7 = some r4 ∧ AI h0 23 r4 x3 ∧ ∃ r7 : Nat, h0.2.2 r4 (x3).toNat = some r7 ∧ METi mX3_bestFrom [vr a0, vi x3, vi x4, vr a2] h0 (fun y11 h9 => h9.1 = h0.1 → (AI h9 20 r7 x4 ∧ ∀ h13 : PH, h13 = px_upI h9 r7 (x4).toNat y11 → (EXv mX3_settle 19 [some (vr a0), none, some (vr a2), some (vi x3), some (vi (x4 + 1))] [] h13 (0, 0) P)))))) : EXv mX3_settle 19 [some (vr a0), none, some (vr a2), some (vi x3), some (vi x4)] [] h0 (0, 0) P := by
  refine ex_iload 21 dX3_settle_19 rfl rfl ?_
  refine ex_iconst 22 dX3_settle_21 rfl ?_
  refine ex_aload_n 23 dX3_settle_22 rfl rfl ?_
  obtain ⟨o1, hyp⟩ := hyp
  refine q_getI 3 6 26 dX3_settle_23 rfl fiX3_34 (Or.inl rfl) o1 ?_
  refine ex_ishl 27 dX3_settle_26 rfl ?_
  obtain ⟨o2, hyp⟩ := hyp
  obtain ⟨o3, hyp⟩ := hyp
  obtain ⟨ht, hf⟩ := hyp
  refine ex_icmp_ge 53 30 dX3_settle_27 (by decide) rfl o2 o3 (fun c15 => ?_) (fun c15 => ?_)
  · have hyp := ht c15
    clear ht hf
    refine q_iinc [some (vr a0), none, some (vr a2), some (vi (x3 + (-1))), some (vi x4)] 56 dX3_settle_53 rfl rfl (Nat.le_of_ble_eq_true rfl) rfl rfl ?_
    refine ex_goto 12 dX3_settle_56 (by decide) ?_
    refine ex_dropL (ls' := [some (vr a0), none, some (vr a2), some (vi (x3 + (-1))), none]) 4 rfl ?_
    exact hyp
  · have hyp := hf c15
    clear ht hf
    refine ex_aload_n 31 dX3_settle_30 rfl rfl ?_
    obtain ⟨r4, f5, hyp⟩ := hyp
    refine q_getR 3 7 34 dX3_settle_31 rfl fiX3_23 rfl o1 f5 ?_
    refine ex_iload_n 35 dX3_settle_34 rfl rfl ?_
    obtain ⟨o6, hyp⟩ := hyp
    obtain ⟨r7, f8, hyp⟩ := hyp
    refine ex_aald 23 36 dX3_settle_35 rfl (by decide) o6 f8 ?_
    refine ex_iload 38 dX3_settle_36 rfl rfl ?_
    refine ex_aload_n 39 dX3_settle_38 rfl rfl ?_
    refine ex_iload_n 40 dX3_settle_39 rfl rfl ?_
    refine ex_iload 42 dX3_settle_40 rfl rfl ?_
    refine ex_aload_n 43 dX3_settle_42 rfl rfl ?_
    refine q_callVi [vi x3, vi x4, vr a2] 46 dX3_settle_43 rfl cvX3_37 rfl rfl ⟨Nat.le_of_ble_eq_true rfl, Nat.le_of_ble_eq_true rfl⟩ (Nat.le_of_ble_eq_true rfl) o1 hyp (fun y11 h9 k10 hyp => ?_)
    obtain ⟨o12, hyp⟩ := hyp
    refine ex_iast 47 dX3_settle_46 rfl o12 (fun h13 e14 => ?_)
    have hyp := hyp h13 e14
    refine q_iinc [some (vr a0), none, some (vr a2), some (vi x3), some (vi (x4 + 1))] 50 dX3_settle_47 rfl rfl (Nat.le_of_ble_eq_true rfl) rfl rfl ?_
    refine ex_goto 19 dX3_settle_50 (by decide) ?_
    exact hyp
set_option maxRecDepth 4000 in
theorem tX3_list {P : PH → Prop} (h0 : PH) (a0 : Nat) (a1 : Nat) (hyp : OB h0 3 a0 ∧ ∀ h2 : PH, h2 = px_upI h0 a0 5 0 → (∀ h5 : PH, h5 = px_upI h2 a0 6 0 → (EXv mX3_list 12 [some (vr a0), some (vr a1), some (vi 0), none] [] h5 (0, 0) P))) : METv mX3_list [vr a0, vr a1] h0 (0, 0) P := by
  refine met_of_ex (by decide +kernel) (Nat.le_of_ble_eq_true rfl) ?_
  show EX mX3_list 0 [some (vr a0), some (vr a1), none, none] [] h0 (0, 0) _
  refine ex_aload_n 1 dX3_list_0 rfl rfl ?_
  refine ex_iconst 2 dX3_list_1 rfl ?_
  obtain ⟨o1, hyp⟩ := hyp
  refine q_putI 3 5 5 dX3_list_2 rfl fiX3_30 ff3_5 rfl o1 (fun h2 e3 => ?_)
  have hyp := hyp h2 e3
  refine ex_aload_n 6 dX3_list_5 rfl rfl ?_
  refine ex_iconst 7 dX3_list_6 rfl ?_
  have f4 := OB.of (KI e3) o1
  refine q_putI 3 6 10 dX3_list_7 rfl fiX3_34 ff3_6 rfl f4 (fun h5 e6 => ?_)
  have hyp := hyp h5 e6
  refine ex_iconst 11 dX3_list_10 rfl ?_
  refine q_istore_n [some (vr a0), some (vr a1), some (vi 0), none] 12 dX3_list_11 rfl (Nat.le_of_ble_eq_true rfl) rfl rfl ?_
  exact hyp
set_option maxRecDepth 4000 in
theorem tX3_list_12 {P : PH → Prop} (h0 : PH) (a0 : Nat) (a1 : Nat) (x2 : Int) (hyp : OB h0 8 a1 ∧ rng x2 ∧ rng (h0.2.1 a1 2) ∧ (h0.2.1 a1 2 ≤ x2 → (EXv mX3_list 115 [some (vr a0), none, some (vi 0), none] [] h0 (0, 0) P)) ∧ (x2 < h0.2.1 a1 2 → (OB h0 3 a0 ∧ ∃ r5 : Nat, h0.2.2 a0 0 = some r5 ∧ AI h0 20 r5 x2 ∧ ∀ h8 : PH, h8 = px_upI h0 r5 (x2).toNat (-1) → (∃ r11 : Nat, h8.2.2 a1 0 = some r11 ∧ AI h8 21 r11 x2 ∧ ∃ r14 : Nat, h8.2.2 r11 (x2).toNat = some r14 ∧ OB h8 0 r14 ∧ rng (h8.2.1 r14 4) ∧ (¬ h8.2.1 r14 4 = 0 → ((¬ h8.2.1 r14 4 = 2 → (EXv mX3_list 12 [some (vr a0), some (vr a1), some (vi (x2 + 1)), none] [] h8 (0, 0) P)) ∧ (h8.2.1 r14 4 = 2 → (rng (h8.2.1 a0 6) ∧ (7 ≤ h8.2.1 a0 6 → (EXv mX3_list 12 [some (vr a0), some (vr a1), some (vi (x2 + 1)), none] [] h8 (0, 0) P)) ∧ (h8.2.1 a0 6 < 7 → (∃ r20 : Nat, h8.2.2 a0 4 = some r20 ∧ AI h8 20 r20 (h8.2.1 a0 6) ∧ ∀ h23 : PH, h23 = px_upI h8 r20 (h8.2.1 a0 6).toNat x2 → (∀ h26 : PH, h26 = px_upI h23 a0 6 ((h23.2.1 a0 6) + 1) → (EXv mX3_list 12 [some (vr a0), some (vr a1), some (vi (x2 + 1)), none] [] h26 (0, 0) P)))))))) ∧ (h8.2.1 r14 4 = 0 → (rng (h8.2.1 a0 5) ∧ (7 ≤ h8.2.1 a0 5 → ((¬ h8.2.1 r14 4 = 2 → (EXv mX3_list 12 [some (vr a0), some (vr a1), some (vi (x2 + 1)), none] [] h8 (0, 0) P)) ∧ (h8.2.1 r14 4 = 2 → (rng (h8.2.1 a0 6) ∧ (7 ≤ h8.2.1 a0 6 → (EXv mX3_list 12 [some (vr a0), some (vr a1), some (vi (x2 + 1)), none] [] h8 (0, 0) P)) ∧ (h8.2.1 a0 6 < 7 → (∃ r33 : Nat, h8.2.2 a0 4 = some r33 ∧ AI h8 20 r33 (h8.2.1 a0 6) ∧ ∀ h36 : PH, h36 = px_upI h8 r33 (h8.2.1 a0 6).toNat x2 → (∀ h39 : PH, h39 = px_upI h36 a0 6 ((h36.2.1 a0 6) + 1) → (EXv mX3_list 12 [some (vr a0), some (vr a1), some (vi (x2 + 1)), none] [] h39 (0, 0) P)))))))) ∧ (h8.2.1 a0 5 < 7 → (∃ r43 : Nat, h8.2.2 a0 3 = some r43 ∧ AI h8 20 r43 (h8.2.1 a0 5) ∧ ∀ h46 : PH, h46 = px_upI h8 r43 (h8.2.1 a0 5).toNat x2 → (∀ h49 : PH, h49 = px_upI h46 a0 5 ((h46.2.1 a0 5) + 1) → (EXv mX3_list 12 [some (vr a0), some (vr a1), some (vi (x2 + 1)), none] [] h49 (0, 0) P)))))))))) : EXv mX3_list 12 [some (vr a0), some (vr a1), some (vi x2), none] [] h0 (0, 0) P := by
  refine ex_iload_n 13 dX3_list_12 rfl rfl ?_
  refine ex_aload_n 14 dX3_list_13 rfl rfl ?_
  obtain ⟨o1, hyp⟩ := hyp
  refine q_getI 8 2 17 dX3_list_14 rfl fiX3_45 (Or.inl rfl) o1 ?_
  obtain ⟨o2, hyp⟩ := hyp
  obtain ⟨o3, hyp⟩ := hyp
  obtain ⟨ht, hf⟩ := hyp
  refine ex_icmp_ge 113 20 dX3_list_17 (by decide) rfl o2 o3 (fun c53 => ?_) (fun c53 => ?_)
  · have hyp := ht c53
    clear ht hf
    refine ex_iconst 114 dX3_list_113 rfl ?_
    refine q_istore_n [some (vr a0), some (vr a1), some (vi 0), none] 115 dX3_list_114 rfl (Nat.le_of_ble_eq_true rfl) rfl rfl ?_
    refine ex_dropL (ls' := [some (vr a0), none, some (vi 0), none]) 1 rfl ?_
    exact hyp
  · have hyp := hf c53
    clear ht hf
    refine ex_aload_n 21 dX3_list_20 rfl rfl ?_
    obtain ⟨o4, hyp⟩ := hyp
    obtain ⟨r5, f6, hyp⟩ := hyp
    refine q_getR 3 0 24 dX3_list_21 rfl fiX3_9 rfl o4 f6 ?_
    refine ex_iload_n 25 dX3_list_24 rfl rfl ?_
    refine ex_iconst 26 dX3_list_25 rfl ?_
    obtain ⟨o7, hyp⟩ := hyp
    refine ex_iast 27 dX3_list_26 rfl o7 (fun h8 e9 => ?_)
    have hyp := hyp h8 e9
    refine ex_aload_n 28 dX3_list_27 rfl rfl ?_
    have f10 := OB.of (KI e9) o1
    obtain ⟨r11, f12, hyp⟩ := hyp
    refine q_getR 8 0 31 dX3_list_28 rfl fiX3_50 rfl f10 f12 ?_
    refine ex_iload_n 32 dX3_list_31 rfl rfl ?_
    obtain ⟨o13, hyp⟩ := hyp
    obtain ⟨r14, f15, hyp⟩ := hyp
    refine ex_aald 21 33 dX3_list_32 rfl (by decide) o13 f15 ?_
    obtain ⟨o16, hyp⟩ := hyp
    refine q_getI 0 4 36 dX3_list_33 rfl fiX3_54 (Or.inl rfl) o16 ?_
    refine q_istore_n [some (vr a0), some (vr a1), some (vi x2), some (vi (h8.2.1 r14 4))] 37 dX3_list_36 rfl (Nat.le_of_ble_eq_true rfl) rfl rfl ?_
    refine ex_iload_n 38 dX3_list_37 rfl rfl ?_
    obtain ⟨o17, hyp⟩ := hyp
    obtain ⟨ht, hf⟩ := hyp
    refine ex_if_ne 73 41 dX3_list_38 (by decide) rfl o17 (fun c52 => ?_) (fun c52 => ?_)
    · have hyp := ht c52
      clear ht hf
      refine ex_iload_n 74 dX3_list_73 rfl rfl ?_
      refine ex_iconst 75 dX3_list_74 rfl ?_
      obtain ⟨ht, hf⟩ := hyp
      refine ex_icmp_ne 107 78 dX3_list_75 (by decide) rfl o17 ⟨by decide, by decide⟩ (fun c29 => ?_) (fun c29 => ?_)
      · have hyp := ht c29
        clear ht hf
        refine q_iinc [some (vr a0), some (vr a1), some (vi (x2 + 1)), some (vi (h8.2.1 r14 4))] 110 dX3_list_107 rfl rfl (Nat.le_of_ble_eq_true rfl) rfl rfl ?_
        refine ex_goto 12 dX3_list_110 (by decide) ?_
        refine ex_dropL (ls' := [some (vr a0), some (vr a1), some (vi (x2 + 1)), none]) 3 rfl ?_
        exact hyp
      · have hyp := hf c29
        clear ht hf
        refine ex_aload_n 79 dX3_list_78 rfl rfl ?_
        have f18 := OB.of (KI e9) o4
        refine q_getI 3 6 82 dX3_list_79 rfl fiX3_34 (Or.inl rfl) f18 ?_
        refine ex_bipush 84 dX3_list_82 rfl ⟨by decide, by decide⟩ ?_
        obtain ⟨o19, hyp⟩ := hyp
        obtain ⟨ht, hf⟩ := hyp
        refine ex_icmp_ge 107 87 dX3_list_84 (by decide) rfl o19 ⟨by decide, by decide⟩ (fun c28 => ?_) (fun c28 => ?_)
        · have hyp := ht c28
          clear ht hf
          refine q_iinc [some (vr a0), some (vr a1), some (vi (x2 + 1)), some (vi (h8.2.1 r14 4))] 110 dX3_list_107 rfl rfl (Nat.le_of_ble_eq_true rfl) rfl rfl ?_
          refine ex_goto 12 dX3_list_110 (by decide) ?_
          refine ex_dropL (ls' := [some (vr a0), some (vr a1), some (vi (x2 + 1)), none]) 3 rfl ?_
          exact hyp
        · have hyp := hf c28
          clear ht hf
          refine ex_aload_n 88 dX3_list_87 rfl rfl ?_
          obtain ⟨r20, f21, hyp⟩ := hyp
          refine q_getR 3 4 91 dX3_list_88 rfl fiX3_18 rfl f18 f21 ?_
          refine ex_aload_n 92 dX3_list_91 rfl rfl ?_
          refine q_getI 3 6 95 dX3_list_92 rfl fiX3_34 (Or.inl rfl) f18 ?_
          refine ex_iload_n 96 dX3_list_95 rfl rfl ?_
          obtain ⟨o22, hyp⟩ := hyp
          refine ex_iast 97 dX3_list_96 rfl o22 (fun h23 e24 => ?_)
          have hyp := hyp h23 e24
          refine ex_aload_n 98 dX3_list_97 rfl rfl ?_
          refine ex_dup 99 dX3_list_98 rfl rfl ?_
          have f25 := OB.of (KI e24) f18
          refine q_getI 3 6 102 dX3_list_99 rfl fiX3_34 (Or.inl rfl) f25 ?_
          refine ex_iconst 103 dX3_list_102 rfl ?_
          refine ex_iadd 104 dX3_list_103 rfl ?_
          refine q_putI 3 6 107 dX3_list_104 rfl fiX3_34 ff3_6 rfl f25 (fun h26 e27 => ?_)
          have hyp := hyp h26 e27
          refine q_iinc [some (vr a0), some (vr a1), some (vi (x2 + 1)), some (vi (h8.2.1 r14 4))] 110 dX3_list_107 rfl rfl (Nat.le_of_ble_eq_true rfl) rfl rfl ?_
          refine ex_goto 12 dX3_list_110 (by decide) ?_
          refine ex_dropL (ls' := [some (vr a0), some (vr a1), some (vi (x2 + 1)), none]) 3 rfl ?_
          exact hyp
    · have hyp := hf c52
      clear ht hf
      refine ex_aload_n 42 dX3_list_41 rfl rfl ?_
      have f30 := OB.of (KI e9) o4
      refine q_getI 3 5 45 dX3_list_42 rfl fiX3_30 (Or.inl rfl) f30 ?_
      refine ex_bipush 47 dX3_list_45 rfl ⟨by decide, by decide⟩ ?_
      obtain ⟨o31, hyp⟩ := hyp
      obtain ⟨ht, hf⟩ := hyp
      refine ex_icmp_ge 73 50 dX3_list_47 (by decide) rfl o31 ⟨by decide, by decide⟩ (fun c51 => ?_) (fun c51 => ?_)
      · have hyp := ht c51
        clear ht hf
        refine ex_iload_n 74 dX3_list_73 rfl rfl ?_
        refine ex_iconst 75 dX3_list_74 rfl ?_
        obtain ⟨ht, hf⟩ := hyp
        refine ex_icmp_ne 107 78 dX3_list_75 (by decide) rfl o17 ⟨by decide, by decide⟩ (fun c42 => ?_) (fun c42 => ?_)
        · have hyp := ht c42
          clear ht hf
          refine q_iinc [some (vr a0), some (vr a1), some (vi (x2 + 1)), some (vi (h8.2.1 r14 4))] 110 dX3_list_107 rfl rfl (Nat.le_of_ble_eq_true rfl) rfl rfl ?_
          refine ex_goto 12 dX3_list_110 (by decide) ?_
          refine ex_dropL (ls' := [some (vr a0), some (vr a1), some (vi (x2 + 1)), none]) 3 rfl ?_
          exact hyp
        · have hyp := hf c42
          clear ht hf
          refine ex_aload_n 79 dX3_list_78 rfl rfl ?_
          refine q_getI 3 6 82 dX3_list_79 rfl fiX3_34 (Or.inl rfl) f30 ?_
          refine ex_bipush 84 dX3_list_82 rfl ⟨by decide, by decide⟩ ?_
          obtain ⟨o32, hyp⟩ := hyp
          obtain ⟨ht, hf⟩ := hyp
          refine ex_icmp_ge 107 87 dX3_list_84 (by decide) rfl o32 ⟨by decide, by decide⟩ (fun c41 => ?_) (fun c41 => ?_)
          · have hyp := ht c41
            clear ht hf
            refine q_iinc [some (vr a0), some (vr a1), some (vi (x2 + 1)), some (vi (h8.2.1 r14 4))] 110 dX3_list_107 rfl rfl (Nat.le_of_ble_eq_true rfl) rfl rfl ?_
            refine ex_goto 12 dX3_list_110 (by decide) ?_
            refine ex_dropL (ls' := [some (vr a0), some (vr a1), some (vi (x2 + 1)), none]) 3 rfl ?_
            exact hyp
          · have hyp := hf c41
            clear ht hf
            refine ex_aload_n 88 dX3_list_87 rfl rfl ?_
            obtain ⟨r33, f34, hyp⟩ := hyp
            refine q_getR 3 4 91 dX3_list_88 rfl fiX3_18 rfl f30 f34 ?_
            refine ex_aload_n 92 dX3_list_91 rfl rfl ?_
            refine q_getI 3 6 95 dX3_list_92 rfl fiX3_34 (Or.inl rfl) f30 ?_
            refine ex_iload_n 96 dX3_list_95 rfl rfl ?_
            obtain ⟨o35, hyp⟩ := hyp
            refine ex_iast 97 dX3_list_96 rfl o35 (fun h36 e37 => ?_)
            have hyp := hyp h36 e37
            refine ex_aload_n 98 dX3_list_97 rfl rfl ?_
            refine ex_dup 99 dX3_list_98 rfl rfl ?_
            have f38 := OB.of (KI e37) f30
            refine q_getI 3 6 102 dX3_list_99 rfl fiX3_34 (Or.inl rfl) f38 ?_
            refine ex_iconst 103 dX3_list_102 rfl ?_
            refine ex_iadd 104 dX3_list_103 rfl ?_
            refine q_putI 3 6 107 dX3_list_104 rfl fiX3_34 ff3_6 rfl f38 (fun h39 e40 => ?_)
            have hyp := hyp h39 e40
            refine q_iinc [some (vr a0), some (vr a1), some (vi (x2 + 1)), some (vi (h8.2.1 r14 4))] 110 dX3_list_107 rfl rfl (Nat.le_of_ble_eq_true rfl) rfl rfl ?_
            refine ex_goto 12 dX3_list_110 (by decide) ?_
            refine ex_dropL (ls' := [some (vr a0), some (vr a1), some (vi (x2 + 1)), none]) 3 rfl ?_
            exact hyp
      · have hyp := hf c51
        clear ht hf
        refine ex_aload_n 51 dX3_list_50 rfl rfl ?_
        obtain ⟨r43, f44, hyp⟩ := hyp
        refine q_getR 3 3 54 dX3_list_51 rfl fiX3_15 rfl f30 f44 ?_
        refine ex_aload_n 55 dX3_list_54 rfl rfl ?_
        refine q_getI 3 5 58 dX3_list_55 rfl fiX3_30 (Or.inl rfl) f30 ?_
        refine ex_iload_n 59 dX3_list_58 rfl rfl ?_
        obtain ⟨o45, hyp⟩ := hyp
        refine ex_iast 60 dX3_list_59 rfl o45 (fun h46 e47 => ?_)
        have hyp := hyp h46 e47
        refine ex_aload_n 61 dX3_list_60 rfl rfl ?_
        refine ex_dup 62 dX3_list_61 rfl rfl ?_
        have f48 := OB.of (KI e47) f30
        refine q_getI 3 5 65 dX3_list_62 rfl fiX3_30 (Or.inl rfl) f48 ?_
        refine ex_iconst 66 dX3_list_65 rfl ?_
        refine ex_iadd 67 dX3_list_66 rfl ?_
        refine q_putI 3 5 70 dX3_list_67 rfl fiX3_30 ff3_5 rfl f48 (fun h49 e50 => ?_)
        have hyp := hyp h49 e50
        refine ex_goto 107 dX3_list_70 (by decide) ?_
        refine q_iinc [some (vr a0), some (vr a1), some (vi (x2 + 1)), some (vi (h8.2.1 r14 4))] 110 dX3_list_107 rfl rfl (Nat.le_of_ble_eq_true rfl) rfl rfl ?_
        refine ex_goto 12 dX3_list_110 (by decide) ?_
        refine ex_dropL (ls' := [some (vr a0), some (vr a1), some (vi (x2 + 1)), none]) 3 rfl ?_
        exact hyp
set_option maxRecDepth 4000 in
theorem tX3_list_115 {P : PH → Prop} (h0 : PH) (a0 : Nat) (x2 : Int) (hyp : OB h0 3 a0 ∧ rng x2 ∧ rng (b_shl 1 (h0.2.1 a0 6)) ∧ (b_shl 1 (h0.2.1 a0 6) ≤ x2 → (P h0)) ∧ (x2 < b_shl 1 (h0.2.1 a0 6) → (∃ r4 : Nat, h0.2.2 a0 7 = some r4 ∧ AI h0 23 r4 (h0.2.1 a0 5) ∧ ∃ r7 : Nat, h0.2.2 r4 (h0.2.1 a0 5).toNat = some r7 ∧ AI h0 20 r7 x2 ∧ ∀ h10 : PH, h10 = px_upI h0 r7 (x2).toNat 0 → (EXv mX3_list 115 [some (vr a0), none, some (vi (x2 + 1)), none] [] h10 (0, 0) P)))) : EXv mX3_list 115 [some (vr a0), none, some (vi x2), none] [] h0 (0, 0) P := by
  refine ex_iload_n 116 dX3_list_115 rfl rfl ?_
  refine ex_iconst 117 dX3_list_116 rfl ?_
  refine ex_aload_n 118 dX3_list_117 rfl rfl ?_
  obtain ⟨o1, hyp⟩ := hyp
  refine q_getI 3 6 121 dX3_list_118 rfl fiX3_34 (Or.inl rfl) o1 ?_
  refine ex_ishl 122 dX3_list_121 rfl ?_
  obtain ⟨o2, hyp⟩ := hyp
  obtain ⟨o3, hyp⟩ := hyp
  obtain ⟨ht, hf⟩ := hyp
  refine ex_icmp_ge 143 125 dX3_list_122 (by decide) rfl o2 o3 (fun c12 => ?_) (fun c12 => ?_)
  · have hyp := ht c12
    clear ht hf
    exact ex_vret dX3_list_143 rfl ⟨rfl, hyp⟩
  · have hyp := hf c12
    clear ht hf
    refine ex_aload_n 126 dX3_list_125 rfl rfl ?_
    obtain ⟨r4, f5, hyp⟩ := hyp
    refine q_getR 3 7 129 dX3_list_126 rfl fiX3_23 rfl o1 f5 ?_
    refine ex_aload_n 130 dX3_list_129 rfl rfl ?_
    refine q_getI 3 5 133 dX3_list_130 rfl fiX3_30 (Or.inl rfl) o1 ?_
    obtain ⟨o6, hyp⟩ := hyp
    obtain ⟨r7, f8, hyp⟩ := hyp
    refine ex_aald 23 134 dX3_list_133 rfl (by decide) o6 f8 ?_
    refine ex_iload_n 135 dX3_list_134 rfl rfl ?_
    refine ex_iconst 136 dX3_list_135 rfl ?_
    obtain ⟨o9, hyp⟩ := hyp
    refine ex_iast 137 dX3_list_136 rfl o9 (fun h10 e11 => ?_)
    have hyp := hyp h10 e11
    refine q_iinc [some (vr a0), none, some (vi (x2 + 1)), none] 140 dX3_list_137 rfl rfl (Nat.le_of_ble_eq_true rfl) rfl rfl ?_
    refine ex_goto 115 dX3_list_140 (by decide) ?_
    exact hyp
set_option maxRecDepth 4000 in
theorem tX3_bestFrom {P : Int → PH → Prop} (h0 : PH) (a0 : Nat) (x1 : Int) (x2 : Int) (a3 : Nat) (hyp : OB h0 3 a0 ∧ ∃ r2 : Nat, h0.2.2 a0 7 = some r2 ∧ AI h0 23 r2 (x1 + 1) ∧ ∃ r5 : Nat, h0.2.2 r2 (x1 + 1).toNat = some r5 ∧ AI h0 20 r5 x2 ∧ EXi mX3_bestFrom 15 [some (vr a0), some (vi x1), some (vi x2), some (vr a3), some (vi (h0.2.1 r5 (x2).toNat)), some (vi 0)] [] h0 P) : METi mX3_bestFrom [vr a0, vi x1, vi x2, vr a3] h0 P := by
  refine met_of_ex (by decide +kernel) (Nat.le_of_ble_eq_true rfl) ?_
  show EX mX3_bestFrom 0 [some (vr a0), some (vi x1), some (vi x2), some (vr a3), none, none] [] h0 (0, 0) _
  refine ex_aload_n 1 dX3_bestFrom_0 rfl rfl ?_
  obtain ⟨o1, hyp⟩ := hyp
  obtain ⟨r2, f3, hyp⟩ := hyp
  refine q_getR 3 7 4 dX3_bestFrom_1 rfl fiX3_23 rfl o1 f3 ?_
  refine ex_iload_n 5 dX3_bestFrom_4 rfl rfl ?_
  refine ex_iconst 6 dX3_bestFrom_5 rfl ?_
  refine ex_iadd 7 dX3_bestFrom_6 rfl ?_
  obtain ⟨o4, hyp⟩ := hyp
  obtain ⟨r5, f6, hyp⟩ := hyp
  refine ex_aald 23 8 dX3_bestFrom_7 rfl (by decide) o4 f6 ?_
  refine ex_iload_n 9 dX3_bestFrom_8 rfl rfl ?_
  obtain ⟨o7, hyp⟩ := hyp
  refine ex_iald 10 dX3_bestFrom_9 rfl o7 ?_
  refine q_istore [some (vr a0), some (vi x1), some (vi x2), some (vr a3), some (vi (h0.2.1 r5 (x2).toNat)), none] 12 dX3_bestFrom_10 rfl (Nat.le_of_ble_eq_true rfl) rfl rfl ?_
  refine ex_iconst 13 dX3_bestFrom_12 rfl ?_
  refine q_istore [some (vr a0), some (vi x1), some (vi x2), some (vr a3), some (vi (h0.2.1 r5 (x2).toNat)), some (vi 0)] 15 dX3_bestFrom_13 rfl (Nat.le_of_ble_eq_true rfl) rfl rfl ?_
  exact hyp
set_option maxRecDepth 4000 in
theorem tX3_bestFrom_15 {P : Int → PH → Prop} (h0 : PH) (a0 : Nat) (x1 : Int) (x2 : Int) (a3 : Nat) (x4 : Int) (x5 : Int) (hyp : OB h0 3 a0 ∧ rng x5 ∧ rng (h0.2.1 a0 6) ∧ (h0.2.1 a0 6 ≤ x5 → (P x4 h0)) ∧ (x5 < h0.2.1 a0 6 → (METi mX3_isFree [vr a0, vi x1, vi x5, vi x2, vr a3] h0 (fun y6 h4 => h4.1 = h0.1 → (rng y6 ∧ (y6 = 0 → (EXi mX3_bestFrom 15 [some (vr a0), some (vi x1), some (vi x2), some (vr a3), some (vi x4), some (vi (x5 + 1))] [] h4 P)) ∧ (¬ y6 = 0 → (METi mX3_worthWith [vr a0, vi x1, vi x5, vi x2, vr a3] h4 (fun y11 h9 => h9.1 = h4.1 → (rng x4 ∧ rng y11 ∧ EXi mX3_bestFrom 15 [some (vr a0), some (vi x1), some (vi x2), some (vr a3), some (vi (max x4 y11)), some (vi (x5 + 1))] [] h9 P))))))))) : EXi mX3_bestFrom 15 [some (vr a0), some (vi x1), some (vi x2), some (vr a3), some (vi x4), some (vi x5)] [] h0 P := by
  refine ex_iload 17 dX3_bestFrom_15 rfl rfl ?_
  refine ex_aload_n 18 dX3_bestFrom_17 rfl rfl ?_
  obtain ⟨o1, hyp⟩ := hyp
  refine q_getI 3 6 21 dX3_bestFrom_18 rfl fiX3_34 (Or.inl rfl) o1 ?_
  obtain ⟨o2, hyp⟩ := hyp
  obtain ⟨o3, hyp⟩ := hyp
  obtain ⟨ht, hf⟩ := hyp
  refine ex_icmp_ge 58 24 dX3_bestFrom_21 (by decide) rfl o2 o3 (fun c15 => ?_) (fun c15 => ?_)
  · have hyp := ht c15
    clear ht hf
    refine ex_iload 60 dX3_bestFrom_58 rfl rfl ?_
    exact ex_iret dX3_bestFrom_60 (Or.inl rfl) ⟨_, rfl, hyp⟩
  · have hyp := hf c15
    clear ht hf
    refine ex_aload_n 25 dX3_bestFrom_24 rfl rfl ?_
    refine ex_iload_n 26 dX3_bestFrom_25 rfl rfl ?_
    refine ex_iload 28 dX3_bestFrom_26 rfl rfl ?_
    refine ex_iload_n 29 dX3_bestFrom_28 rfl rfl ?_
    refine ex_aload_n 30 dX3_bestFrom_29 rfl rfl ?_
    refine q_callVi [vi x1, vi x5, vi x2, vr a3] 33 dX3_bestFrom_30 rfl cvX3_59 rfl rfl ⟨Nat.le_of_ble_eq_true rfl, Nat.le_of_ble_eq_true rfl⟩ (Nat.le_of_ble_eq_true rfl) o1 hyp (fun y6 h4 k5 hyp => ?_)
    obtain ⟨o7, hyp⟩ := hyp
    obtain ⟨ht, hf⟩ := hyp
    refine ex_if_eq 52 36 dX3_bestFrom_33 (by decide) rfl o7 (fun c14 => ?_) (fun c14 => ?_)
    · have hyp := ht c14
      clear ht hf
      refine q_iinc [some (vr a0), some (vi x1), some (vi x2), some (vr a3), some (vi x4), some (vi (x5 + 1))] 55 dX3_bestFrom_52 rfl rfl (Nat.le_of_ble_eq_true rfl) rfl rfl ?_
      refine ex_goto 15 dX3_bestFrom_55 (by decide) ?_
      exact hyp
    · have hyp := hf c14
      clear ht hf
      refine ex_iload 38 dX3_bestFrom_36 rfl rfl ?_
      refine ex_aload_n 39 dX3_bestFrom_38 rfl rfl ?_
      refine ex_iload_n 40 dX3_bestFrom_39 rfl rfl ?_
      refine ex_iload 42 dX3_bestFrom_40 rfl rfl ?_
      refine ex_iload_n 43 dX3_bestFrom_42 rfl rfl ?_
      refine ex_aload_n 44 dX3_bestFrom_43 rfl rfl ?_
      have f8 := OB.of k5 o1
      refine q_callVi [vi x1, vi x5, vi x2, vr a3] 47 dX3_bestFrom_44 rfl cvX3_63 rfl rfl ⟨Nat.le_of_ble_eq_true rfl, Nat.le_of_ble_eq_true rfl⟩ (Nat.le_of_ble_eq_true rfl) f8 hyp (fun y11 h9 k10 hyp => ?_)
      obtain ⟨o12, hyp⟩ := hyp
      obtain ⟨o13, hyp⟩ := hyp
      refine q_max 50 dX3_bestFrom_47 rfl mlX3_67 ⟨Nat.le_of_ble_eq_true rfl, Nat.le_of_ble_eq_true rfl⟩ o12 o13 ?_
      refine q_istore [some (vr a0), some (vi x1), some (vi x2), some (vr a3), some (vi (max x4 y11)), some (vi x5)] 52 dX3_bestFrom_50 rfl (Nat.le_of_ble_eq_true rfl) rfl rfl ?_
      refine q_iinc [some (vr a0), some (vi x1), some (vi x2), some (vr a3), some (vi (max x4 y11)), some (vi (x5 + 1))] 55 dX3_bestFrom_52 rfl rfl (Nat.le_of_ble_eq_true rfl) rfl rfl ?_
      refine ex_goto 15 dX3_bestFrom_55 (by decide) ?_
      exact hyp
set_option maxRecDepth 4000 in
theorem tX3_isFree {P : Int → PH → Prop} (h0 : PH) (a0 : Nat) (x1 : Int) (x2 : Int) (x3 : Int) (a4 : Nat) (hyp : rng (b_and x3 (b_shl 1 x2)) ∧ (¬ b_and x3 (b_shl 1 x2) = 0 → (P 0 h0)) ∧ (b_and x3 (b_shl 1 x2) = 0 → (OB h0 3 a0 ∧ ∃ r3 : Nat, h0.2.2 a0 3 = some r3 ∧ AI h0 20 r3 x1 ∧ ∃ r6 : Nat, h0.2.2 a0 4 = some r6 ∧ AI h0 20 r6 x2 ∧ OB h0 6 a4 ∧ METi mX6_fit [vr a4, vi (h0.2.1 r3 (x1).toNat), vi (h0.2.1 r6 (x2).toNat)] h0 (fun y12 h10 => h10.1 = h0.1 → (rng y12 ∧ (y12 = 0 → (P 0 h10)) ∧ (¬ y12 = 0 → (P 1 h10))))))) : METi mX3_isFree [vr a0, vi x1, vi x2, vi x3, vr a4] h0 P := by
  refine met_of_ex (by decide +kernel) (Nat.le_of_ble_eq_true rfl) ?_
  show EX mX3_isFree 0 [some (vr a0), some (vi x1), some (vi x2), some (vi x3), some (vr a4)] [] h0 (0, 0) _
  refine ex_iload_n 1 dX3_isFree_0 rfl rfl ?_
  refine ex_iconst 2 dX3_isFree_1 rfl ?_
  refine ex_iload_n 3 dX3_isFree_2 rfl rfl ?_
  refine ex_ishl 4 dX3_isFree_3 rfl ?_
  refine ex_iand 5 dX3_isFree_4 rfl ?_
  obtain ⟨o1, hyp⟩ := hyp
  obtain ⟨ht, hf⟩ := hyp
  refine ex_if_ne 32 8 dX3_isFree_5 (by decide) rfl o1 (fun c15 => ?_) (fun c15 => ?_)
  · have hyp := ht c15
    clear ht hf
    refine ex_iconst 33 dX3_isFree_32 rfl ?_
    exact ex_iret dX3_isFree_33 (Or.inr ⟨rfl, Or.inl rfl⟩) ⟨_, rfl, hyp⟩
  · have hyp := hf c15
    clear ht hf
    refine ex_aload 10 dX3_isFree_8 rfl rfl ?_
    refine ex_aload_n 11 dX3_isFree_10 rfl rfl ?_
    obtain ⟨o2, hyp⟩ := hyp
    obtain ⟨r3, f4, hyp⟩ := hyp
    refine q_getR 3 3 14 dX3_isFree_11 rfl fiX3_15 rfl o2 f4 ?_
    refine ex_iload_n 15 dX3_isFree_14 rfl rfl ?_
    obtain ⟨o5, hyp⟩ := hyp
    refine ex_iald 16 dX3_isFree_15 rfl o5 ?_
    refine ex_aload_n 17 dX3_isFree_16 rfl rfl ?_
    obtain ⟨r6, f7, hyp⟩ := hyp
    refine q_getR 3 4 20 dX3_isFree_17 rfl fiX3_18 rfl o2 f7 ?_
    refine ex_iload_n 21 dX3_isFree_20 rfl rfl ?_
    obtain ⟨o8, hyp⟩ := hyp
    refine ex_iald 22 dX3_isFree_21 rfl o8 ?_
    obtain ⟨o9, hyp⟩ := hyp
    refine q_callVi [vi (h0.2.1 r3 (x1).toNat), vi (h0.2.1 r6 (x2).toNat)] 25 dX3_isFree_22 rfl cvX3_73 rfl rfl ⟨Nat.le_of_ble_eq_true rfl, Nat.le_of_ble_eq_true rfl⟩ (Nat.le_of_ble_eq_true rfl) o9 hyp (fun y12 h10 k11 hyp => ?_)
    obtain ⟨o13, hyp⟩ := hyp
    obtain ⟨ht, hf⟩ := hyp
    refine ex_if_eq 32 28 dX3_isFree_25 (by decide) rfl o13 (fun c14 => ?_) (fun c14 => ?_)
    · have hyp := ht c14
      clear ht hf
      refine ex_iconst 33 dX3_isFree_32 rfl ?_
      exact ex_iret dX3_isFree_33 (Or.inr ⟨rfl, Or.inl rfl⟩) ⟨_, rfl, hyp⟩
    · have hyp := hf c14
      clear ht hf
      refine ex_iconst 29 dX3_isFree_28 rfl ?_
      refine ex_goto 33 dX3_isFree_29 (by decide) ?_
      exact ex_iret dX3_isFree_33 (Or.inr ⟨rfl, Or.inr rfl⟩) ⟨_, rfl, hyp⟩
set_option maxRecDepth 4000 in
theorem tX3_worthWith {P : Int → PH → Prop} (h0 : PH) (a0 : Nat) (x1 : Int) (x2 : Int) (x3 : Int) (a4 : Nat) (hyp : OB h0 6 a4 ∧ ∃ r2 : Nat, h0.2.2 a4 1 = some r2 ∧ OB h0 3 a0 ∧ ∃ r5 : Nat, h0.2.2 a0 3 = some r5 ∧ AI h0 20 r5 x1 ∧ AI h0 23 r2 (h0.2.1 r5 (x1).toNat) ∧ ∃ r9 : Nat, h0.2.2 r2 (h0.2.1 r5 (x1).toNat).toNat = some r9 ∧ ∃ r11 : Nat, h0.2.2 a0 4 = some r11 ∧ AI h0 20 r11 x2 ∧ AI h0 20 r9 (h0.2.1 r11 (x2).toNat) ∧ ∃ r15 : Nat, h0.2.2 a0 7 = some r15 ∧ AI h0 23 r15 (x1 + 1) ∧ ∃ r18 : Nat, h0.2.2 r15 (x1 + 1).toNat = some r18 ∧ AI h0 20 r18 (b_or x3 (b_shl 1 x2)) ∧ P ((h0.2.1 r9 (h0.2.1 r11 (x2).toNat).toNat) + (h0.2.1 r18 (b_or x3 (b_shl 1 x2)).toNat)) h0) : METi mX3_worthWith [vr a0, vi x1, vi x2, vi x3, vr a4] h0 P := by
  refine met_of_ex (by decide +kernel) (Nat.le_of_ble_eq_true rfl) ?_
  show EX mX3_worthWith 0 [some (vr a0), some (vi x1), some (vi x2), some (vi x3), some (vr a4)] [] h0 (0, 0) _
  refine ex_aload 2 dX3_worthWith_0 rfl rfl ?_
  obtain ⟨o1, hyp⟩ := hyp
  obtain ⟨r2, f3, hyp⟩ := hyp
  refine q_getR 6 1 5 dX3_worthWith_2 rfl fiX3_79 rfl o1 f3 ?_
  refine ex_aload_n 6 dX3_worthWith_5 rfl rfl ?_
  obtain ⟨o4, hyp⟩ := hyp
  obtain ⟨r5, f6, hyp⟩ := hyp
  refine q_getR 3 3 9 dX3_worthWith_6 rfl fiX3_15 rfl o4 f6 ?_
  refine ex_iload_n 10 dX3_worthWith_9 rfl rfl ?_
  obtain ⟨o7, hyp⟩ := hyp
  refine ex_iald 11 dX3_worthWith_10 rfl o7 ?_
  obtain ⟨o8, hyp⟩ := hyp
  obtain ⟨r9, f10, hyp⟩ := hyp
  refine ex_aald 23 12 dX3_worthWith_11 rfl (by decide) o8 f10 ?_
  refine ex_aload_n 13 dX3_worthWith_12 rfl rfl ?_
  obtain ⟨r11, f12, hyp⟩ := hyp
  refine q_getR 3 4 16 dX3_worthWith_13 rfl fiX3_18 rfl o4 f12 ?_
  refine ex_iload_n 17 dX3_worthWith_16 rfl rfl ?_
  obtain ⟨o13, hyp⟩ := hyp
  refine ex_iald 18 dX3_worthWith_17 rfl o13 ?_
  obtain ⟨o14, hyp⟩ := hyp
  refine ex_iald 19 dX3_worthWith_18 rfl o14 ?_
  refine ex_aload_n 20 dX3_worthWith_19 rfl rfl ?_
  obtain ⟨r15, f16, hyp⟩ := hyp
  refine q_getR 3 7 23 dX3_worthWith_20 rfl fiX3_23 rfl o4 f16 ?_
  refine ex_iload_n 24 dX3_worthWith_23 rfl rfl ?_
  refine ex_iconst 25 dX3_worthWith_24 rfl ?_
  refine ex_iadd 26 dX3_worthWith_25 rfl ?_
  obtain ⟨o17, hyp⟩ := hyp
  obtain ⟨r18, f19, hyp⟩ := hyp
  refine ex_aald 23 27 dX3_worthWith_26 rfl (by decide) o17 f19 ?_
  refine ex_iload_n 28 dX3_worthWith_27 rfl rfl ?_
  refine ex_iconst 29 dX3_worthWith_28 rfl ?_
  refine ex_iload_n 30 dX3_worthWith_29 rfl rfl ?_
  refine ex_ishl 31 dX3_worthWith_30 rfl ?_
  refine ex_ior 32 dX3_worthWith_31 rfl ?_
  obtain ⟨o20, hyp⟩ := hyp
  refine ex_iald 33 dX3_worthWith_32 rfl o20 ?_
  refine ex_iadd 34 dX3_worthWith_33 rfl ?_
  exact ex_iret dX3_worthWith_34 (Or.inl rfl) ⟨_, rfl, hyp⟩
set_option maxRecDepth 4000 in
theorem tX3_choose {P : PH → Prop} (h0 : PH) (a0 : Nat) (a1 : Nat) (hyp : OB h0 3 a0 ∧ ∀ h2 : PH, h2 = px_upI h0 a0 1 0 → (∃ r5 : Nat, h2.2.2 a0 7 = some r5 ∧ AI h2 23 r5 0 ∧ ∃ r8 : Nat, h2.2.2 r5 (0 : Int).toNat = some r8 ∧ AI h2 20 r8 0 ∧ ∀ h11 : PH, h11 = px_upI h2 a0 2 (h2.2.1 r8 (0 : Int).toNat) → (EXv mX3_choose 21 [some (vr a0), some (vr a1), some (vi 0), some (vi 0), none] [] h11 (0, 0) P))) : METv mX3_choose [vr a0, vr a1] h0 (0, 0) P := by
  refine met_of_ex (by decide +kernel) (Nat.le_of_ble_eq_true rfl) ?_
  show EX mX3_choose 0 [some (vr a0), some (vr a1), none, none, none] [] h0 (0, 0) _
  refine ex_aload_n 1 dX3_choose_0 rfl rfl ?_
  refine ex_iconst 2 dX3_choose_1 rfl ?_
  obtain ⟨o1, hyp⟩ := hyp
  refine q_putI 3 1 5 dX3_choose_2 rfl fiX3_82 ff3_1 rfl o1 (fun h2 e3 => ?_)
  have hyp := hyp h2 e3
  refine ex_aload_n 6 dX3_choose_5 rfl rfl ?_
  refine ex_aload_n 7 dX3_choose_6 rfl rfl ?_
  have f4 := OB.of (KI e3) o1
  obtain ⟨r5, f6, hyp⟩ := hyp
  refine q_getR 3 7 10 dX3_choose_7 rfl fiX3_23 rfl f4 f6 ?_
  refine ex_iconst 11 dX3_choose_10 rfl ?_
  obtain ⟨o7, hyp⟩ := hyp
  obtain ⟨r8, f9, hyp⟩ := hyp
  refine ex_aald 23 12 dX3_choose_11 rfl (by decide) o7 f9 ?_
  refine ex_iconst 13 dX3_choose_12 rfl ?_
  obtain ⟨o10, hyp⟩ := hyp
  refine ex_iald 14 dX3_choose_13 rfl o10 ?_
  refine q_putI 3 2 17 dX3_choose_14 rfl fiX3_85 ff3_2 rfl f4 (fun h11 e12 => ?_)
  have hyp := hyp h11 e12
  refine ex_iconst 18 dX3_choose_17 rfl ?_
  refine q_istore_n [some (vr a0), some (vr a1), some (vi 0), none, none] 19 dX3_choose_18 rfl (Nat.le_of_ble_eq_true rfl) rfl rfl ?_
  refine ex_iconst 20 dX3_choose_19 rfl ?_
  refine q_istore_n [some (vr a0), some (vr a1), some (vi 0), some (vi 0), none] 21 dX3_choose_20 rfl (Nat.le_of_ble_eq_true rfl) rfl rfl ?_
  exact hyp
set_option maxRecDepth 4000 in
theorem tX3_choose_21 {P : PH → Prop} (h0 : PH) (a0 : Nat) (a1 : Nat) (x2 : Int) (x3 : Int) (hyp : OB h0 3 a0 ∧ rng x3 ∧ rng (h0.2.1 a0 5) ∧ (h0.2.1 a0 5 ≤ x3 → (P h0)) ∧ (x3 < h0.2.1 a0 5 → (EXv mX3_choose 32 [some (vr a0), some (vr a1), some (vi x2), some (vi x3), some (vi 0)] [] h0 (0, 0) P))) : EXv mX3_choose 21 [some (vr a0), some (vr a1), some (vi x2), some (vi x3), none] [] h0 (0, 0) P := by
  refine ex_iload_n 22 dX3_choose_21 rfl rfl ?_
  refine ex_aload_n 23 dX3_choose_22 rfl rfl ?_
  obtain ⟨o1, hyp⟩ := hyp
  refine q_getI 3 5 26 dX3_choose_23 rfl fiX3_30 (Or.inl rfl) o1 ?_
  obtain ⟨o2, hyp⟩ := hyp
  obtain ⟨o3, hyp⟩ := hyp
  obtain ⟨ht, hf⟩ := hyp
  refine ex_icmp_ge 141 29 dX3_choose_26 (by decide) rfl o2 o3 (fun c4 => ?_) (fun c4 => ?_)
  · have hyp := ht c4
    clear ht hf
    exact ex_vret dX3_choose_141 rfl ⟨rfl, hyp⟩
  · have hyp := hf c4
    clear ht hf
    refine ex_iconst 30 dX3_choose_29 rfl ?_
    refine q_istore [some (vr a0), some (vr a1), some (vi x2), some (vi x3), some (vi 0)] 32 dX3_choose_30 rfl (Nat.le_of_ble_eq_true rfl) rfl rfl ?_
    exact hyp
set_option maxRecDepth 4000 in
theorem tX3_choose_32 {P : PH → Prop} (h0 : PH) (a0 : Nat) (a1 : Nat) (x2 : Int) (x3 : Int) (x4 : Int) (hyp : OB h0 3 a0 ∧ rng x4 ∧ rng (h0.2.1 a0 6) ∧ (h0.2.1 a0 6 ≤ x4 → (EXv mX3_choose 21 [some (vr a0), some (vr a1), some (vi x2), some (vi (x3 + 1)), none] [] h0 (0, 0) P)) ∧ (x4 < h0.2.1 a0 6 → (METi mX3_isFree [vr a0, vi x3, vi x4, vi x2, vr a1] h0 (fun y6 h4 => h4.1 = h0.1 → (rng y6 ∧ (y6 = 0 → (EXv mX3_choose 32 [some (vr a0), some (vr a1), some (vi x2), some (vi x3), some (vi (x4 + 1))] [] h4 (0, 0) P)) ∧ (¬ y6 = 0 → (METi mX3_worthWith [vr a0, vi x3, vi x4, vi x2, vr a1] h4 (fun y11 h9 => h9.1 = h4.1 → (∃ r13 : Nat, h9.2.2 a0 7 = some r13 ∧ AI h9 23 r13 x3 ∧ ∃ r16 : Nat, h9.2.2 r13 (x3).toNat = some r16 ∧ AI h9 20 r16 x2 ∧ rng y11 ∧ rng (h9.2.1 r16 (x2).toNat) ∧ (¬ y11 = h9.2.1 r16 (x2).toNat → (EXv mX3_choose 32 [some (vr a0), some (vr a1), some (vi x2), some (vi x3), some (vi (x4 + 1))] [] h9 (0, 0) P)) ∧ (y11 = h9.2.1 r16 (x2).toNat → (∃ r21 : Nat, h9.2.2 a0 0 = some r21 ∧ ∃ r23 : Nat, h9.2.2 a0 3 = some r23 ∧ AI h9 20 r23 x3 ∧ ∃ r26 : Nat, h9.2.2 a0 4 = some r26 ∧ AI h9 20 r26 x4 ∧ AI h9 20 r21 (h9.2.1 r23 (x3).toNat) ∧ ∀ h30 : PH, h30 = px_upI h9 r21 (h9.2.1 r23 (x3).toNat).toNat (h9.2.1 r26 (x4).toNat) → (AI h30 20 r21 (h30.2.1 r26 (x4).toNat) ∧ ∀ h39 : PH, h39 = px_upI h30 r21 (h30.2.1 r26 (x4).toNat).toNat (h30.2.1 r23 (x3).toNat) → (∀ h42 : PH, h42 = px_upI h39 a0 1 ((h39.2.1 a0 1) + 1) → (EXv mX3_choose 21 [some (vr a0), some (vr a1), some (vi (b_or x2 (b_shl 1 x4))), some (vi (x3 + 1)), none] [] h42 (0, 0) P)))))))))))))) : EXv mX3_choose 32 [some (vr a0), some (vr a1), some (vi x2), some (vi x3), some (vi x4)] [] h0 (0, 0) P := by
  refine ex_iload 34 dX3_choose_32 rfl rfl ?_
  refine ex_aload_n 35 dX3_choose_34 rfl rfl ?_
  obtain ⟨o1, hyp⟩ := hyp
  refine q_getI 3 6 38 dX3_choose_35 rfl fiX3_34 (Or.inl rfl) o1 ?_
  obtain ⟨o2, hyp⟩ := hyp
  obtain ⟨o3, hyp⟩ := hyp
  obtain ⟨ht, hf⟩ := hyp
  refine ex_icmp_ge 135 41 dX3_choose_38 (by decide) rfl o2 o3 (fun c46 => ?_) (fun c46 => ?_)
  · have hyp := ht c46
    clear ht hf
    refine q_iinc [some (vr a0), some (vr a1), some (vi x2), some (vi (x3 + 1)), some (vi x4)] 138 dX3_choose_135 rfl rfl (Nat.le_of_ble_eq_true rfl) rfl rfl ?_
    refine ex_goto 21 dX3_choose_138 (by decide) ?_
    refine ex_dropL (ls' := [some (vr a0), some (vr a1), some (vi x2), some (vi (x3 + 1)), none]) 4 rfl ?_
    exact hyp
  · have hyp := hf c46
    clear ht hf
    refine ex_aload_n 42 dX3_choose_41 rfl rfl ?_
    refine ex_iload_n 43 dX3_choose_42 rfl rfl ?_
    refine ex_iload 45 dX3_choose_43 rfl rfl ?_
    refine ex_iload_n 46 dX3_choose_45 rfl rfl ?_
    refine ex_aload_n 47 dX3_choose_46 rfl rfl ?_
    refine q_callVi [vi x3, vi x4, vi x2, vr a1] 50 dX3_choose_47 rfl cvX3_59 rfl rfl ⟨Nat.le_of_ble_eq_true rfl, Nat.le_of_ble_eq_true rfl⟩ (Nat.le_of_ble_eq_true rfl) o1 hyp (fun y6 h4 k5 hyp => ?_)
    obtain ⟨o7, hyp⟩ := hyp
    obtain ⟨ht, hf⟩ := hyp
    refine ex_if_eq 129 53 dX3_choose_50 (by decide) rfl o7 (fun c45 => ?_) (fun c45 => ?_)
    · have hyp := ht c45
      clear ht hf
      refine q_iinc [some (vr a0), some (vr a1), some (vi x2), some (vi x3), some (vi (x4 + 1))] 132 dX3_choose_129 rfl rfl (Nat.le_of_ble_eq_true rfl) rfl rfl ?_
      refine ex_goto 32 dX3_choose_132 (by decide) ?_
      exact hyp
    · have hyp := hf c45
      clear ht hf
      refine ex_aload_n 54 dX3_choose_53 rfl rfl ?_
      refine ex_iload_n 55 dX3_choose_54 rfl rfl ?_
      refine ex_iload 57 dX3_choose_55 rfl rfl ?_
      refine ex_iload_n 58 dX3_choose_57 rfl rfl ?_
      refine ex_aload_n 59 dX3_choose_58 rfl rfl ?_
      have f8 := OB.of k5 o1
      refine q_callVi [vi x3, vi x4, vi x2, vr a1] 62 dX3_choose_59 rfl cvX3_63 rfl rfl ⟨Nat.le_of_ble_eq_true rfl, Nat.le_of_ble_eq_true rfl⟩ (Nat.le_of_ble_eq_true rfl) f8 hyp (fun y11 h9 k10 hyp => ?_)
      refine ex_aload_n 63 dX3_choose_62 rfl rfl ?_
      have f12 := OB.of k10 f8
      obtain ⟨r13, f14, hyp⟩ := hyp
      refine q_getR 3 7 66 dX3_choose_63 rfl fiX3_23 rfl f12 f14 ?_
      refine ex_iload_n 67 dX3_choose_66 rfl rfl ?_
      obtain ⟨o15, hyp⟩ := hyp
      obtain ⟨r16, f17, hyp⟩ := hyp
      refine ex_aald 23 68 dX3_choose_67 rfl (by decide) o15 f17 ?_
      refine ex_iload_n 69 dX3_choose_68 rfl rfl ?_
      obtain ⟨o18, hyp⟩ := hyp
      refine ex_iald 70 dX3_choose_69 rfl o18 ?_
      obtain ⟨o19, hyp⟩ := hyp
      obtain ⟨o20, hyp⟩ := hyp
      obtain ⟨ht, hf⟩ := hyp
      refine ex_icmp_ne 129 73 dX3_choose_70 (by decide) rfl o19 o20 (fun c44 => ?_) (fun c44 => ?_)
      · have hyp := ht c44
        clear ht hf
        refine q_iinc [some (vr a0), some (vr a1), some (vi x2), some (vi x3), some (vi (x4 + 1))] 132 dX3_choose_129 rfl rfl (Nat.le_of_ble_eq_true rfl) rfl rfl ?_
        refine ex_goto 32 dX3_choose_132 (by decide) ?_
        exact hyp
      · have hyp := hf c44
        clear ht hf
        refine ex_aload_n 74 dX3_choose_73 rfl rfl ?_
        obtain ⟨r21, f22, hyp⟩ := hyp
        refine q_getR 3 0 77 dX3_choose_74 rfl fiX3_9 rfl f12 f22 ?_
        refine ex_aload_n 78 dX3_choose_77 rfl rfl ?_
        obtain ⟨r23, f24, hyp⟩ := hyp
        refine q_getR 3 3 81 dX3_choose_78 rfl fiX3_15 rfl f12 f24 ?_
        refine ex_iload_n 82 dX3_choose_81 rfl rfl ?_
        obtain ⟨o25, hyp⟩ := hyp
        refine ex_iald 83 dX3_choose_82 rfl o25 ?_
        refine ex_aload_n 84 dX3_choose_83 rfl rfl ?_
        obtain ⟨r26, f27, hyp⟩ := hyp
        refine q_getR 3 4 87 dX3_choose_84 rfl fiX3_18 rfl f12 f27 ?_
        refine ex_iload 89 dX3_choose_87 rfl rfl ?_
        obtain ⟨o28, hyp⟩ := hyp
        refine ex_iald 90 dX3_choose_89 rfl o28 ?_
        obtain ⟨o29, hyp⟩ := hyp
        refine ex_iast 91 dX3_choose_90 rfl o29 (fun h30 e31 => ?_)
        have hyp := hyp h30 e31
        refine ex_aload_n 92 dX3_choose_91 rfl rfl ?_
        have f32 := OB.of (KI e31) f12
        have f33 := RI e31 f22
        refine q_getR 3 0 95 dX3_choose_92 rfl fiX3_9 rfl f32 f33 ?_
        refine ex_aload_n 96 dX3_choose_95 rfl rfl ?_
        have f34 := RI e31 f27
        refine q_getR 3 4 99 dX3_choose_96 rfl fiX3_18 rfl f32 f34 ?_
        refine ex_iload 101 dX3_choose_99 rfl rfl ?_
        have f35 := AI.of (KI e31) o28
        refine ex_iald 102 dX3_choose_101 rfl f35 ?_
        refine ex_aload_n 103 dX3_choose_102 rfl rfl ?_
        have f36 := RI e31 f24
        refine q_getR 3 3 106 dX3_choose_103 rfl fiX3_15 rfl f32 f36 ?_
        refine ex_iload_n 107 dX3_choose_106 rfl rfl ?_
        have f37 := AI.of (KI e31) o25
        refine ex_iald 108 dX3_choose_107 rfl f37 ?_
        obtain ⟨o38, hyp⟩ := hyp
        refine ex_iast 109 dX3_choose_108 rfl o38 (fun h39 e40 => ?_)
        have hyp := hyp h39 e40
        refine ex_iload_n 110 dX3_choose_109 rfl rfl ?_
        refine ex_iconst 111 dX3_choose_110 rfl ?_
        refine ex_iload 113 dX3_choose_111 rfl rfl ?_
        refine ex_ishl 114 dX3_choose_113 rfl ?_
        refine ex_ior 115 dX3_choose_114 rfl ?_
        refine q_istore_n [some (vr a0), some (vr a1), some (vi (b_or x2 (b_shl 1 x4))), some (vi x3), some (vi x4)] 116 dX3_choose_115 rfl (Nat.le_of_ble_eq_true rfl) rfl rfl ?_
        refine ex_aload_n 117 dX3_choose_116 rfl rfl ?_
        refine ex_dup 118 dX3_choose_117 rfl rfl ?_
        have f41 := OB.of (KI e40) f32
        refine q_getI 3 1 121 dX3_choose_118 rfl fiX3_82 (Or.inl rfl) f41 ?_
        refine ex_iconst 122 dX3_choose_121 rfl ?_
        refine ex_iadd 123 dX3_choose_122 rfl ?_
        refine q_putI 3 1 126 dX3_choose_123 rfl fiX3_82 ff3_1 rfl f41 (fun h42 e43 => ?_)
        have hyp := hyp h42 e43
        refine ex_goto 135 dX3_choose_126 (by decide) ?_
        refine q_iinc [some (vr a0), some (vr a1), some (vi (b_or x2 (b_shl 1 x4))), some (vi (x3 + 1)), some (vi x4)] 138 dX3_choose_135 rfl rfl (Nat.le_of_ble_eq_true rfl) rfl rfl ?_
        refine ex_goto 21 dX3_choose_138 (by decide) ?_
        refine ex_dropL (ls' := [some (vr a0), some (vr a1), some (vi (b_or x2 (b_shl 1 x4))), some (vi (x3 + 1)), none]) 4 rfl ?_
        exact hyp
set_option maxRecDepth 4000 in
theorem tX4_distance {P : Int → PH → Prop} (h0 : PH) (a0 : Nat) (a1 : Nat) (a2 : Nat) (hyp : EXi mX4_distance 2 [some (vr a0), some (vr a1), some (vr a2), some (vi 0), none, none, none] [] h0 P) : METi mX4_distance [vr a0, vr a1, vr a2] h0 P := by
  refine met_of_ex (by decide +kernel) (Nat.le_of_ble_eq_true rfl) ?_
  show EX mX4_distance 0 [some (vr a0), some (vr a1), some (vr a2), none, none, none, none] [] h0 (0, 0) _
  refine ex_iconst 1 dX4_distance_0 rfl ?_
  refine q_istore_n [some (vr a0), some (vr a1), some (vr a2), some (vi 0), none, none, none] 2 dX4_distance_1 rfl (Nat.le_of_ble_eq_true rfl) rfl rfl ?_
  exact hyp
set_option maxRecDepth 4000 in
theorem tX4_distance_2 {P : Int → PH → Prop} (h0 : PH) (a0 : Nat) (a1 : Nat) (a2 : Nat) (x3 : Int) (hyp : OB h0 0 a2 ∧ rng x3 ∧ rng (h0.2.1 a2 3) ∧ (h0.2.1 a2 3 < x3 → (EXi mX4_distance 27 [some (vr a0), some (vr a1), some (vr a2), some (vi 1), none, none, none] [] h0 P)) ∧ (x3 ≤ h0.2.1 a2 3 → (OB h0 4 a0 ∧ ∃ r5 : Nat, h0.2.2 a0 1 = some r5 ∧ AI h0 20 r5 x3 ∧ ∀ h8 : PH, h8 = px_upI h0 r5 (x3).toNat (2 * x3) → (EXi mX4_distance 2 [some (vr a0), some (vr a1), some (vr a2), some (vi (x3 + 1)), none, none, none] [] h8 P)))) : EXi mX4_distance 2 [some (vr a0), some (vr a1), some (vr a2), some (vi x3), none, none, none] [] h0 P := by
  refine ex_iload_n 3 dX4_distance_2 rfl rfl ?_
  refine ex_aload_n 4 dX4_distance_3 rfl rfl ?_
  obtain ⟨o1, hyp⟩ := hyp
  refine q_getI 0 3 7 dX4_distance_4 rfl fiX4_18 (Or.inl rfl) o1 ?_
  obtain ⟨o2, hyp⟩ := hyp
  obtain ⟨o3, hyp⟩ := hyp
  obtain ⟨ht, hf⟩ := hyp
  refine ex_icmp_gt 25 10 dX4_distance_7 (by decide) rfl o2 o3 (fun c10 => ?_) (fun c10 => ?_)
  · have hyp := ht c10
    clear ht hf
    refine ex_iconst 26 dX4_distance_25 rfl ?_
    refine q_istore_n [some (vr a0), some (vr a1), some (vr a2), some (vi 1), none, none, none] 27 dX4_distance_26 rfl (Nat.le_of_ble_eq_true rfl) rfl rfl ?_
    exact hyp
  · have hyp := hf c10
    clear ht hf
    refine ex_aload_n 11 dX4_distance_10 rfl rfl ?_
    obtain ⟨o4, hyp⟩ := hyp
    obtain ⟨r5, f6, hyp⟩ := hyp
    refine q_getR 4 1 14 dX4_distance_11 rfl fiX4_15 rfl o4 f6 ?_
    refine ex_iload_n 15 dX4_distance_14 rfl rfl ?_
    refine ex_iconst 16 dX4_distance_15 rfl ?_
    refine ex_iload_n 17 dX4_distance_16 rfl rfl ?_
    refine ex_imul 18 dX4_distance_17 rfl ?_
    obtain ⟨o7, hyp⟩ := hyp
    refine ex_iast 19 dX4_distance_18 rfl o7 (fun h8 e9 => ?_)
    have hyp := hyp h8 e9
    refine q_iinc [some (vr a0), some (vr a1), some (vr a2), some (vi (x3 + 1)), none, none, none] 22 dX4_distance_19 rfl rfl (Nat.le_of_ble_eq_true rfl) rfl rfl ?_
    refine ex_goto 2 dX4_distance_22 (by decide) ?_
    exact hyp
set_option maxRecDepth 4000 in
theorem tX4_distance_27 {P : Int → PH → Prop} (h0 : PH) (a0 : Nat) (a1 : Nat) (a2 : Nat) (x3 : Int) (hyp : OB h0 0 a1 ∧ rng x3 ∧ rng (h0.2.1 a1 3) ∧ (h0.2.1 a1 3 < x3 → (OB h0 4 a0 ∧ ∃ r5 : Nat, h0.2.2 a0 1 = some r5 ∧ OB h0 0 a2 ∧ AI h0 20 r5 (h0.2.1 a2 3) ∧ P (h0.2.1 r5 (h0.2.1 a2 3).toNat) h0)) ∧ (x3 ≤ h0.2.1 a1 3 → (OB h0 4 a0 ∧ ∃ r10 : Nat, h0.2.2 a0 0 = some r10 ∧ ∃ r12 : Nat, h0.2.2 a0 1 = some r12 ∧ ∀ h14 : PH, h14 = px_upR h0 a0 0 (some r12) → (∀ h17 : PH, h17 = px_upR h14 a0 1 (some r10) → (∃ r21 : Nat, h17.2.2 a0 1 = some r21 ∧ AI h17 20 r21 0 ∧ ∀ h24 : PH, h24 = px_upI h17 r21 (0 : Int).toNat (2 * x3) → (EXi mX4_distance 67 [some (vr a0), some (vr a1), some (vr a2), some (vi x3), none, some (vi 1), none] [] h24 P)))))) : EXi mX4_distance 27 [some (vr a0), some (vr a1), some (vr a2), some (vi x3), none, none, none] [] h0 P := by
  refine ex_iload_n 28 dX4_distance_27 rfl rfl ?_
  refine ex_aload_n 29 dX4_distance_28 rfl rfl ?_
  obtain ⟨o1, hyp⟩ := hyp
  refine q_getI 0 3 32 dX4_distance_29 rfl fiX4_18 (Or.inl rfl) o1 ?_
  obtain ⟨o2, hyp⟩ := hyp
  obtain ⟨o3, hyp⟩ := hyp
  obtain ⟨ht, hf⟩ := hyp
  refine ex_icmp_gt 153 35 dX4_distance_32 (by decide) rfl o2 o3 (fun c26 => ?_) (fun c26 => ?_)
  · have hyp := ht c26
    clear ht hf
    refine ex_aload_n 154 dX4_distance_153 rfl rfl ?_
    obtain ⟨o4, hyp⟩ := hyp
    obtain ⟨r5, f6, hyp⟩ := hyp
    refine q_getR 4 1 157 dX4_distance_154 rfl fiX4_15 rfl o4 f6 ?_
    refine ex_aload_n 158 dX4_distance_157 rfl rfl ?_
    obtain ⟨o7, hyp⟩ := hyp
    refine q_getI 0 3 161 dX4_distance_158 rfl fiX4_18 (Or.inl rfl) o7 ?_
    obtain ⟨o8, hyp⟩ := hyp
    refine ex_iald 162 dX4_distance_161 rfl o8 ?_
    exact ex_iret dX4_distance_162 (Or.inl rfl) ⟨_, rfl, hyp⟩
  · have hyp := hf c26
    clear ht hf
    refine ex_aload_n 36 dX4_distance_35 rfl rfl ?_
    obtain ⟨o9, hyp⟩ := hyp
    obtain ⟨r10, f11, hyp⟩ := hyp
    refine q_getR 4 0 39 dX4_distance_36 rfl fiX4_9 rfl o9 f11 ?_
    refine q_astore [some (vr a0), some (vr a1), some (vr a2), some (vi x3), some (vr r10), none, none] 41 dX4_distance_39 rfl (Nat.le_of_ble_eq_true rfl) rfl rfl ?_
    refine ex_aload_n 42 dX4_distance_41 rfl rfl ?_
    refine ex_aload_n 43 dX4_distance_42 rfl rfl ?_
    obtain ⟨r12, f13, hyp⟩ := hyp
    refine q_getR 4 1 46 dX4_distance_43 rfl fiX4_15 rfl o9 f13 ?_
    refine q_putR 4 0 49 dX4_distance_46 rfl fiX4_9 ff4_0 rfl o9 (fun h14 e15 => ?_)
    have hyp := hyp h14 e15
    refine ex_aload_n 50 dX4_distance_49 rfl rfl ?_
    refine ex_aload 52 dX4_distance_50 rfl rfl ?_
    have f16 := OB.of (KR e15) o9
    refine q_putR 4 1 55 dX4_distance_52 rfl fiX4_15 ff4_1 rfl f16 (fun h17 e18 => ?_)
    have hyp := hyp h17 e18
    refine ex_aload_n 56 dX4_distance_55 rfl rfl ?_
    have f19 := OB.of (KR e18) f16
    obtain ⟨r21, f22, hyp⟩ := hyp
    refine q_getR 4 1 59 dX4_distance_56 rfl fiX4_15 rfl f19 f22 ?_
    refine ex_iconst 60 dX4_distance_59 rfl ?_
    refine ex_iconst 61 dX4_distance_60 rfl ?_
    refine ex_iload_n 62 dX4_distance_61 rfl rfl ?_
    refine ex_imul 63 dX4_distance_62 rfl ?_
    obtain ⟨o23, hyp⟩ := hyp
    refine ex_iast 64 dX4_distance_63 rfl o23 (fun h24 e25 => ?_)
    have hyp := hyp h24 e25
    refine ex_iconst 65 dX4_distance_64 rfl ?_
    refine q_istore [some (vr a0), some (vr a1), some (vr a2), some (vi x3), some (vr r10), some (vi 1), none] 67 dX4_distance_65 rfl (Nat.le_of_ble_eq_true rfl) rfl rfl ?_
    refine ex_dropL (ls' := [some (vr a0), some (vr a1), some (vr a2), some (vi x3), none, some (vi 1), none]) 4 rfl ?_
    exact hyp
set_option maxRecDepth 4000 in
theorem tX4_distance_67 {P : Int → PH → Prop} (h0 : PH) (a0 : Nat) (a1 : Nat) (a2 : Nat) (x3 : Int) (x5 : Int) (hyp : OB h0 0 a2 ∧ rng x5 ∧ rng (h0.2.1 a2 3) ∧ (h0.2.1 a2 3 < x5 → (EXi mX4_distance 27 [some (vr a0), some (vr a1), some (vr a2), some (vi (x3 + 1)), none, none, none] [] h0 P)) ∧ (x5 ≤ h0.2.1 a2 3 → (OB h0 4 a0 ∧ ∃ r5 : Nat, h0.2.2 a0 0 = some r5 ∧ AI h0 20 r5 (x5 - 1) ∧ OB h0 0 a1 ∧ ∃ r9 : Nat, h0.2.2 a1 1 = some r9 ∧ AI h0 20 r9 (x3 - 1) ∧ ∃ r12 : Nat, h0.2.2 a2 1 = some r12 ∧ AI h0 20 r12 (x5 - 1) ∧ METi mX4_costOfMaking [vi (h0.2.1 r9 (x3 - 1).toNat), vi (h0.2.1 r12 (x5 - 1).toNat)] h0 (fun y17 h15 => h15.1 = h0.1 → (∃ r19 : Nat, h15.2.2 a0 1 = some r19 ∧ ∃ r21 : Nat, h15.2.2 a0 0 = some r21 ∧ AI h15 20 r21 x5 ∧ AI h15 20 r19 (x5 - 1) ∧ rng (h15.2.1 r21 (x5).toNat) ∧ rng (h15.2.1 r19 (x5 - 1).toNat) ∧ rng ((h0.2.1 r5 (x5 - 1).toNat) + y17) ∧ rng (2 + (min (h15.2.1 r21 (x5).toNat) (h15.2.1 r19 (x5 - 1).toNat))) ∧ AI h15 20 r19 x5 ∧ ∀ h30 : PH, h30 = px_upI h15 r19 (x5).toNat (min ((h0.2.1 r5 (x5 - 1).toNat) + y17) (2 + (min (h15.2.1 r21 (x5).toNat) (h15.2.1 r19 (x5 - 1).toNat)))) → (EXi mX4_distance 67 [some (vr a0), some (vr a1), some (vr a2), some (vi x3), none, some (vi (x5 + 1)), none] [] h30 P)))))) : EXi mX4_distance 67 [some (vr a0), some (vr a1), some (vr a2), some (vi x3), none, some (vi x5), none] [] h0 P := by
  refine ex_iload 69 dX4_distance_67 rfl rfl ?_
  refine ex_aload_n 70 dX4_distance_69 rfl rfl ?_
  obtain ⟨o1, hyp⟩ := hyp
  refine q_getI 0 3 73 dX4_distance_70 rfl fiX4_18 (Or.inl rfl) o1 ?_
  obtain ⟨o2, hyp⟩ := hyp
  obtain ⟨o3, hyp⟩ := hyp
  obtain ⟨ht, hf⟩ := hyp
  refine ex_icmp_gt 147 76 dX4_distance_73 (by decide) rfl o2 o3 (fun c32 => ?_) (fun c32 => ?_)
  · have hyp := ht c32
    clear ht hf
    refine q_iinc [some (vr a0), some (vr a1), some (vr a2), some (vi (x3 + 1)), none, some (vi x5), none] 150 dX4_distance_147 rfl rfl (Nat.le_of_ble_eq_true rfl) rfl rfl ?_
    refine ex_goto 27 dX4_distance_150 (by decide) ?_
    refine ex_dropL (ls' := [some (vr a0), some (vr a1), some (vr a2), some (vi (x3 + 1)), none, none, none]) 5 rfl ?_
    exact hyp
  · have hyp := hf c32
    clear ht hf
    refine ex_aload_n 77 dX4_distance_76 rfl rfl ?_
    obtain ⟨o4, hyp⟩ := hyp
    obtain ⟨r5, f6, hyp⟩ := hyp
    refine q_getR 4 0 80 dX4_distance_77 rfl fiX4_9 rfl o4 f6 ?_
    refine ex_iload 82 dX4_distance_80 rfl rfl ?_
    refine ex_iconst 83 dX4_distance_82 rfl ?_
    refine ex_isub 84 dX4_distance_83 rfl ?_
    obtain ⟨o7, hyp⟩ := hyp
    refine ex_iald 85 dX4_distance_84 rfl o7 ?_
    refine ex_aload_n 86 dX4_distance_85 rfl rfl ?_
    obtain ⟨o8, hyp⟩ := hyp
    obtain ⟨r9, f10, hyp⟩ := hyp
    refine q_getR 0 1 89 dX4_distance_86 rfl fiX4_24 rfl o8 f10 ?_
    refine ex_iload_n 90 dX4_distance_89 rfl rfl ?_
    refine ex_iconst 91 dX4_distance_90 rfl ?_
    refine ex_isub 92 dX4_distance_91 rfl ?_
    obtain ⟨o11, hyp⟩ := hyp
    refine ex_iald 93 dX4_distance_92 rfl o11 ?_
    refine ex_aload_n 94 dX4_distance_93 rfl rfl ?_
    obtain ⟨r12, f13, hyp⟩ := hyp
    refine q_getR 0 1 97 dX4_distance_94 rfl fiX4_24 rfl o1 f13 ?_
    refine ex_iload 99 dX4_distance_97 rfl rfl ?_
    refine ex_iconst 100 dX4_distance_99 rfl ?_
    refine ex_isub 101 dX4_distance_100 rfl ?_
    obtain ⟨o14, hyp⟩ := hyp
    refine ex_iald 102 dX4_distance_101 rfl o14 ?_
    refine q_callSi [vi (h0.2.1 r9 (x3 - 1).toNat), vi (h0.2.1 r12 (x5 - 1).toNat)] 105 dX4_distance_102 rfl cvX4_27 rfl rfl ⟨Nat.le_of_ble_eq_true rfl, Nat.le_of_ble_eq_true rfl⟩ (Nat.le_of_ble_eq_true rfl) hyp (fun y17 h15 k16 hyp => ?_)
    refine ex_iadd 106 dX4_distance_105 rfl ?_
    refine q_istore [some (vr a0), some (vr a1), some (vr a2), some (vi x3), none, some (vi x5), some (vi ((h0.2.1 r5 (x5 - 1).toNat) + y17))] 108 dX4_distance_106 rfl (Nat.le_of_ble_eq_true rfl) rfl rfl ?_
    refine ex_aload_n 109 dX4_distance_108 rfl rfl ?_
    have f18 := OB.of k16 o4
    obtain ⟨r19, f20, hyp⟩ := hyp
    refine q_getR 4 1 112 dX4_distance_109 rfl fiX4_15 rfl f18 f20 ?_
    refine ex_iload 114 dX4_distance_112 rfl rfl ?_
    refine ex_iload 116 dX4_distance_114 rfl rfl ?_
    refine ex_iconst 117 dX4_distance_116 rfl ?_
    refine ex_aload_n 118 dX4_distance_117 rfl rfl ?_
    obtain ⟨r21, f22, hyp⟩ := hyp
    refine q_getR 4 0 121 dX4_distance_118 rfl fiX4_9 rfl f18 f22 ?_
    refine ex_iload 123 dX4_distance_121 rfl rfl ?_
    obtain ⟨o23, hyp⟩ := hyp
    refine ex_iald 124 dX4_distance_123 rfl o23 ?_
    refine ex_aload_n 125 dX4_distance_124 rfl rfl ?_
    refine q_getR 4 1 128 dX4_distance_125 rfl fiX4_15 rfl f18 f20 ?_
    refine ex_iload 130 dX4_distance_128 rfl rfl ?_
    refine ex_iconst 131 dX4_distance_130 rfl ?_
    refine ex_isub 132 dX4_distance_131 rfl ?_
    obtain ⟨o24, hyp⟩ := hyp
    refine ex_iald 133 dX4_distance_132 rfl o24 ?_
    obtain ⟨o25, hyp⟩ := hyp
    obtain ⟨o26, hyp⟩ := hyp
    refine q_min 136 dX4_distance_133 rfl mlX4_31 ⟨Nat.le_of_ble_eq_true rfl, Nat.le_of_ble_eq_true rfl⟩ o25 o26 ?_
    refine ex_iadd 137 dX4_distance_136 rfl ?_
    obtain ⟨o27, hyp⟩ := hyp
    obtain ⟨o28, hyp⟩ := hyp
    refine q_min 140 dX4_distance_137 rfl mlX4_31 ⟨Nat.le_of_ble_eq_true rfl, Nat.le_of_ble_eq_true rfl⟩ o27 o28 ?_
    obtain ⟨o29, hyp⟩ := hyp
    refine ex_iast 141 dX4_distance_140 rfl o29 (fun h30 e31 => ?_)
    have hyp := hyp h30 e31
    refine q_iinc [some (vr a0), some (vr a1), some (vr a2), some (vi x3), none, some (vi (x5 + 1)), some (vi ((h0.2.1 r5 (x5 - 1).toNat) + y17))] 144 dX4_distance_141 rfl rfl (Nat.le_of_ble_eq_true rfl) rfl rfl ?_
    refine ex_goto 67 dX4_distance_144 (by decide) ?_
    refine ex_dropL (ls' := [some (vr a0), some (vr a1), some (vr a2), some (vi x3), none, some (vi (x5 + 1)), none]) 6 rfl ?_
    exact hyp
set_option maxRecDepth 4000 in
theorem tX4_costOfMaking {P : Int → PH → Prop} (h0 : PH) (x0 : Int) (x1 : Int) (hyp : rng x0 ∧ rng x1 ∧ (¬ x0 = x1 → (METi mX4_soundOf [vi x0] h0 (fun y5 h3 => h3.1 = h0.1 → (METi mX4_soundOf [vi x1] h3 (fun y8 h6 => h6.1 = h3.1 → (rng y5 ∧ rng y8 ∧ (¬ y5 = y8 → (P 2 h6)) ∧ (y5 = y8 → (P 1 h6)))))))) ∧ (x0 = x1 → (P 0 h0))) : METi mX4_costOfMaking [vi x0, vi x1] h0 P := by
  refine met_of_ex (by decide +kernel) (Nat.le_of_ble_eq_true rfl) ?_
  show EX mX4_costOfMaking 0 [some (vi x0), some (vi x1)] [] h0 (0, 0) _
  refine ex_iload_n 1 dX4_costOfMaking_0 rfl rfl ?_
  refine ex_iload_n 2 dX4_costOfMaking_1 rfl rfl ?_
  obtain ⟨o1, hyp⟩ := hyp
  obtain ⟨o2, hyp⟩ := hyp
  obtain ⟨ht, hf⟩ := hyp
  refine ex_icmp_ne 7 5 dX4_costOfMaking_2 (by decide) rfl o1 o2 (fun c12 => ?_) (fun c12 => ?_)
  · have hyp := ht c12
    clear ht hf
    refine ex_iload_n 8 dX4_costOfMaking_7 rfl rfl ?_
    refine q_callSi [vi x0] 11 dX4_costOfMaking_8 rfl cvX4_36 rfl rfl ⟨Nat.le_of_ble_eq_true rfl, Nat.le_of_ble_eq_true rfl⟩ (Nat.le_of_ble_eq_true rfl) hyp (fun y5 h3 k4 hyp => ?_)
    refine ex_iload_n 12 dX4_costOfMaking_11 rfl rfl ?_
    refine q_callSi [vi x1] 15 dX4_costOfMaking_12 rfl cvX4_36 rfl rfl ⟨Nat.le_of_ble_eq_true rfl, Nat.le_of_ble_eq_true rfl⟩ (Nat.le_of_ble_eq_true rfl) hyp (fun y8 h6 k7 hyp => ?_)
    obtain ⟨o9, hyp⟩ := hyp
    obtain ⟨o10, hyp⟩ := hyp
    obtain ⟨ht, hf⟩ := hyp
    refine ex_icmp_ne 22 18 dX4_costOfMaking_15 (by decide) rfl o9 o10 (fun c11 => ?_) (fun c11 => ?_)
    · have hyp := ht c11
      clear ht hf
      refine ex_iconst 23 dX4_costOfMaking_22 rfl ?_
      exact ex_iret dX4_costOfMaking_23 (Or.inl rfl) ⟨_, rfl, hyp⟩
    · have hyp := hf c11
      clear ht hf
      refine ex_iconst 19 dX4_costOfMaking_18 rfl ?_
      refine ex_goto 23 dX4_costOfMaking_19 (by decide) ?_
      exact ex_iret dX4_costOfMaking_23 (Or.inl rfl) ⟨_, rfl, hyp⟩
  · have hyp := hf c12
    clear ht hf
    refine ex_iconst 6 dX4_costOfMaking_5 rfl ?_
    exact ex_iret dX4_costOfMaking_6 (Or.inl rfl) ⟨_, rfl, hyp⟩
set_option maxRecDepth 4000 in
theorem tX5_put {P : PH → Prop} (h0 : PH) (a0 : Nat) (x1 : Int) (hyp : OB h0 5 a0 ∧ rng (h0.2.1 a0 1) ∧ (60 ≤ h0.2.1 a0 1 → (P h0)) ∧ (h0.2.1 a0 1 < 60 → (∃ r3 : Nat, h0.2.2 a0 0 = some r3 ∧ AI h0 20 r3 (h0.2.1 a0 1) ∧ ∀ h6 : PH, h6 = px_upI h0 r3 (h0.2.1 a0 1).toNat x1 → (∀ h9 : PH, h9 = px_upI h6 a0 1 ((h6.2.1 a0 1) + 1) → (P h9))))) : METv mX5_put [vr a0, vi x1] h0 (0, 0) P := by
  refine met_of_ex (by decide +kernel) (Nat.le_of_ble_eq_true rfl) ?_
  show EX mX5_put 0 [some (vr a0), some (vi x1)] [] h0 (0, 0) _
  refine ex_aload_n 1 dX5_put_0 rfl rfl ?_
  obtain ⟨o1, hyp⟩ := hyp
  refine q_getI 5 1 4 dX5_put_1 rfl fiX5_15 (Or.inl rfl) o1 ?_
  refine ex_bipush 6 dX5_put_4 rfl ⟨by decide, by decide⟩ ?_
  obtain ⟨o2, hyp⟩ := hyp
  obtain ⟨ht, hf⟩ := hyp
  refine ex_icmp_ge 29 9 dX5_put_6 (by decide) rfl o2 ⟨by decide, by decide⟩ (fun c11 => ?_) (fun c11 => ?_)
  · have hyp := ht c11
    clear ht hf
    exact ex_vret dX5_put_29 rfl ⟨rfl, hyp⟩
  · have hyp := hf c11
    clear ht hf
    refine ex_aload_n 10 dX5_put_9 rfl rfl ?_
    obtain ⟨r3, f4, hyp⟩ := hyp
    refine q_getR 5 0 13 dX5_put_10 rfl fiX5_9 rfl o1 f4 ?_
    refine ex_aload_n 14 dX5_put_13 rfl rfl ?_
    refine q_getI 5 1 17 dX5_put_14 rfl fiX5_15 (Or.inl rfl) o1 ?_
    refine ex_iload_n 18 dX5_put_17 rfl rfl ?_
    obtain ⟨o5, hyp⟩ := hyp
    refine ex_iast 19 dX5_put_18 rfl o5 (fun h6 e7 => ?_)
    have hyp := hyp h6 e7
    refine ex_aload_n 20 dX5_put_19 rfl rfl ?_
    refine ex_dup 21 dX5_put_20 rfl rfl ?_
    have f8 := OB.of (KI e7) o1
    refine q_getI 5 1 24 dX5_put_21 rfl fiX5_15 (Or.inl rfl) f8 ?_
    refine ex_iconst 25 dX5_put_24 rfl ?_
    refine ex_iadd 26 dX5_put_25 rfl ?_
    refine q_putI 5 1 29 dX5_put_26 rfl fiX5_15 ff5_1 rfl f8 (fun h9 e10 => ?_)
    have hyp := hyp h9 e10
    exact ex_vret dX5_put_29 rfl ⟨rfl, hyp⟩
set_option maxRecDepth 4000 in
theorem tX6_settle {P : PH → Prop} (h0 : PH) (a0 : Nat) (a1 : Nat) (x2 : Int) (hyp : OB h0 8 a1 ∧ OB h0 6 a0 ∧ ∀ h3 : PH, h3 = px_upI h0 a0 2 (h0.2.1 a1 2) → (EXv mX6_settle 10 [some (vr a0), some (vr a1), some (vi x2), some (vi 0), none] [] h3 (0, 0) P)) : METv mX6_settle [vr a0, vr a1, vi x2] h0 (0, 0) P := by
  refine met_of_ex (by decide +kernel) (Nat.le_of_ble_eq_true rfl) ?_
  show EX mX6_settle 0 [some (vr a0), some (vr a1), some (vi x2), none, none] [] h0 (0, 0) _
  refine ex_aload_n 1 dX6_settle_0 rfl rfl ?_
  refine ex_aload_n 2 dX6_settle_1 rfl rfl ?_
  obtain ⟨o1, hyp⟩ := hyp
  refine q_getI 8 2 5 dX6_settle_2 rfl fiX6_19 (Or.inl rfl) o1 ?_
  obtain ⟨o2, hyp⟩ := hyp
  refine q_putI 6 2 8 dX6_settle_5 rfl fiX6_25 ff6_2 rfl o2 (fun h3 e4 => ?_)
  have hyp := hyp h3 e4
  refine ex_iconst 9 dX6_settle_8 rfl ?_
  refine q_istore_n [some (vr a0), some (vr a1), some (vi x2), some (vi 0), none] 10 dX6_settle_9 rfl (Nat.le_of_ble_eq_true rfl) rfl rfl ?_
  exact hyp
set_option maxRecDepth 4000 in
theorem tX6_settle_10 {P : PH → Prop} (h0 : PH) (a0 : Nat) (a1 : Nat) (x2 : Int) (x3 : Int) (hyp : OB h0 6 a0 ∧ rng x3 ∧ rng (h0.2.1 a0 2) ∧ (h0.2.1 a0 2 ≤ x3 → (P h0)) ∧ (x3 < h0.2.1 a0 2 → (∃ r4 : Nat, h0.2.2 a0 1 = some r4 ∧ AI h0 23 r4 x3 ∧ ∃ r7 : Nat, h0.2.2 r4 (x3).toNat = some r7 ∧ AI h0 20 r7 x3 ∧ ∀ h10 : PH, h10 = px_upI h0 r7 (x3).toNat (-1) → (EXv mX6_settle 30 [some (vr a0), some (vr a1), some (vi x2), some (vi x3), some (vi 0)] [] h10 (0, 0) P)))) : EXv mX6_settle 10 [some (vr a0), some (vr a1), some (vi x2), some (vi x3), none] [] h0 (0, 0) P := by
  refine ex_iload_n 11 dX6_settle_10 rfl rfl ?_
  refine ex_aload_n 12 dX6_settle_11 rfl rfl ?_
  obtain ⟨o1, hyp⟩ := hyp
  refine q_getI 6 2 15 dX6_settle_12 rfl fiX6_25 (Or.inl rfl) o1 ?_
  obtain ⟨o2, hyp⟩ := hyp
  obtain ⟨o3, hyp⟩ := hyp
  obtain ⟨ht, hf⟩ := hyp
  refine ex_icmp_ge 57 18 dX6_settle_15 (by decide) rfl o2 o3 (fun c12 => ?_) (fun c12 => ?_)
  · have hyp := ht c12
    clear ht hf
    exact ex_vret dX6_settle_57 rfl ⟨rfl, hyp⟩
  · have hyp := hf c12
    clear ht hf
    refine ex_aload_n 19 dX6_settle_18 rfl rfl ?_
    obtain ⟨r4, f5, hyp⟩ := hyp
    refine q_getR 6 1 22 dX6_settle_19 rfl fiX6_16 rfl o1 f5 ?_
    refine ex_iload_n 23 dX6_settle_22 rfl rfl ?_
    obtain ⟨o6, hyp⟩ := hyp
    obtain ⟨r7, f8, hyp⟩ := hyp
    refine ex_aald 23 24 dX6_settle_23 rfl (by decide) o6 f8 ?_
    refine ex_iload_n 25 dX6_settle_24 rfl rfl ?_
    refine ex_iconst 26 dX6_settle_25 rfl ?_
    obtain ⟨o9, hyp⟩ := hyp
    refine ex_iast 27 dX6_settle_26 rfl o9 (fun h10 e11 => ?_)
    have hyp := hyp h10 e11
    refine ex_iconst 28 dX6_settle_27 rfl ?_
    refine q_istore [some (vr a0), some (vr a1), some (vi x2), some (vi x3), some (vi 0)] 30 dX6_settle_28 rfl (Nat.le_of_ble_eq_true rfl) rfl rfl ?_
    exact hyp
set_option maxRecDepth 4000 in
theorem tX6_settle_30 {P : PH → Prop} (h0 : PH) (a0 : Nat) (a1 : Nat) (x2 : Int) (x3 : Int) (x4 : Int) (hyp : rng x4 ∧ rng x3 ∧ (x3 ≤ x4 → (EXv mX6_settle 10 [some (vr a0), some (vr a1), some (vi x2), some (vi (x3 + 1)), none] [] h0 (0, 0) P)) ∧ (x4 < x3 → (OB h0 6 a0 ∧ METv mX6_settleTwo [vr a0, vr a1, vi x3, vi x4, vi x2] h0 (0, 0) (fun h4 => h4.1 = h0.1 → (EXv mX6_settle 30 [some (vr a0), some (vr a1), some (vi x2), some (vi x3), some (vi (x4 + 1))] [] h4 (0, 0) P))))) : EXv mX6_settle 30 [some (vr a0), some (vr a1), some (vi x2), some (vi x3), some (vi x4)] [] h0 (0, 0) P := by
  refine ex_iload 32 dX6_settle_30 rfl rfl ?_
  refine ex_iload_n 33 dX6_settle_32 rfl rfl ?_
  obtain ⟨o1, hyp⟩ := hyp
  obtain ⟨o2, hyp⟩ := hyp
  obtain ⟨ht, hf⟩ := hyp
  refine ex_icmp_ge 51 36 dX6_settle_33 (by decide) rfl o1 o2 (fun c6 => ?_) (fun c6 => ?_)
  · have hyp := ht c6
    clear ht hf
    refine q_iinc [some (vr a0), some (vr a1), some (vi x2), some (vi (x3 + 1)), some (vi x4)] 54 dX6_settle_51 rfl rfl (Nat.le_of_ble_eq_true rfl) rfl rfl ?_
    refine ex_goto 10 dX6_settle_54 (by decide) ?_
    refine ex_dropL (ls' := [some (vr a0), some (vr a1), some (vi x2), some (vi (x3 + 1)), none]) 4 rfl ?_
    exact hyp
  · have hyp := hf c6
    clear ht hf
    refine ex_aload_n 37 dX6_settle_36 rfl rfl ?_
    refine ex_aload_n 38 dX6_settle_37 rfl rfl ?_
    refine ex_iload_n 39 dX6_settle_38 rfl rfl ?_
    refine ex_iload 41 dX6_settle_39 rfl rfl ?_
    refine ex_iload_n 42 dX6_settle_41 rfl rfl ?_
    obtain ⟨o3, hyp⟩ := hyp
    refine q_callVv [vr a1, vi x3, vi x4, vi x2] 45 dX6_settle_42 rfl cvX6_26 rfl rfl ⟨Nat.le_of_ble_eq_true rfl, Nat.le_of_ble_eq_true rfl⟩ (Nat.le_of_ble_eq_true rfl) o3 hyp (fun h4 k5 hyp => ?_)
    refine q_iinc [some (vr a0), some (vr a1), some (vi x2), some (vi x3), some (vi (x4 + 1))] 48 dX6_settle_45 rfl rfl (Nat.le_of_ble_eq_true rfl) rfl rfl ?_
    refine ex_goto 30 dX6_settle_48 (by decide) ?_
    exact hyp
set_option maxRecDepth 4000 in
theorem tX6_fit {P : Int → PH → Prop} (h0 : PH) (a0 : Nat) (x1 : Int) (x2 : Int) (hyp : OB h0 6 a0 ∧ ∃ r2 : Nat, h0.2.2 a0 1 = some r2 ∧ AI h0 23 r2 x1 ∧ ∃ r5 : Nat, h0.2.2 r2 (x1).toNat = some r5 ∧ AI h0 20 r5 x2 ∧ rng (h0.2.1 r5 (x2).toNat) ∧ (h0.2.1 r5 (x2).toNat = (-1) → (P 0 h0)) ∧ (¬ h0.2.1 r5 (x2).toNat = (-1) → (P 1 h0))) : METi mX6_fit [vr a0, vi x1, vi x2] h0 P := by
  refine met_of_ex (by decide +kernel) (Nat.le_of_ble_eq_true rfl) ?_
  show EX mX6_fit 0 [some (vr a0), some (vi x1), some (vi x2)] [] h0 (0, 0) _
  refine ex_aload_n 1 dX6_fit_0 rfl rfl ?_
  obtain ⟨o1, hyp⟩ := hyp
  obtain ⟨r2, f3, hyp⟩ := hyp
  refine q_getR 6 1 4 dX6_fit_1 rfl fiX6_16 rfl o1 f3 ?_
  refine ex_iload_n 5 dX6_fit_4 rfl rfl ?_
  obtain ⟨o4, hyp⟩ := hyp
  obtain ⟨r5, f6, hyp⟩ := hyp
  refine ex_aald 23 6 dX6_fit_5 rfl (by decide) o4 f6 ?_
  refine ex_iload_n 7 dX6_fit_6 rfl rfl ?_
  obtain ⟨o7, hyp⟩ := hyp
  refine ex_iald 8 dX6_fit_7 rfl o7 ?_
  refine ex_iconst 9 dX6_fit_8 rfl ?_
  obtain ⟨o8, hyp⟩ := hyp
  obtain ⟨ht, hf⟩ := hyp
  refine ex_icmp_eq 16 12 dX6_fit_9 (by decide) rfl o8 ⟨by decide, by decide⟩ (fun c9 => ?_) (fun c9 => ?_)
  · have hyp := ht c9
    clear ht hf
    refine ex_iconst 17 dX6_fit_16 rfl ?_
    exact ex_iret dX6_fit_17 (Or.inr ⟨rfl, Or.inl rfl⟩) ⟨_, rfl, hyp⟩
  · have hyp := hf c9
    clear ht hf
    refine ex_iconst 13 dX6_fit_12 rfl ?_
    refine ex_goto 17 dX6_fit_13 (by decide) ?_
    exact ex_iret dX6_fit_17 (Or.inr ⟨rfl, Or.inr rfl⟩) ⟨_, rfl, hyp⟩
set_option maxRecDepth 4000 in
theorem tX6_countFitting {P : Int → PH → Prop} (h0 : PH) (a0 : Nat) (x1 : Int) (hyp : EXi mX6_countFitting 4 [some (vr a0), some (vi x1), some (vi 0), some (vi 0)] [] h0 P) : METi mX6_countFitting [vr a0, vi x1] h0 P := by
  refine met_of_ex (by decide +kernel) (Nat.le_of_ble_eq_true rfl) ?_
  show EX mX6_countFitting 0 [some (vr a0), some (vi x1), none, none] [] h0 (0, 0) _
  refine ex_iconst 1 dX6_countFitting_0 rfl ?_
  refine q_istore_n [some (vr a0), some (vi x1), some (vi 0), none] 2 dX6_countFitting_1 rfl (Nat.le_of_ble_eq_true rfl) rfl rfl ?_
  refine ex_iconst 3 dX6_countFitting_2 rfl ?_
  refine q_istore_n [some (vr a0), some (vi x1), some (vi 0), some (vi 0)] 4 dX6_countFitting_3 rfl (Nat.le_of_ble_eq_true rfl) rfl rfl ?_
  exact hyp
set_option maxRecDepth 4000 in
theorem tX6_countFitting_4 {P : Int → PH → Prop} (h0 : PH) (a0 : Nat) (x1 : Int) (x2 : Int) (x3 : Int) (hyp : OB h0 6 a0 ∧ rng x3 ∧ rng (h0.2.1 a0 2) ∧ (h0.2.1 a0 2 ≤ x3 → (P x2 h0)) ∧ (x3 < h0.2.1 a0 2 → (METi mX6_fit [vr a0, vi x1, vi x3] h0 (fun y6 h4 => h4.1 = h0.1 → (rng y6 ∧ (y6 = 0 → (EXi mX6_countFitting 4 [some (vr a0), some (vi x1), some (vi (x2 + 0)), some (vi (x3 + 1))] [] h4 P)) ∧ (¬ y6 = 0 → (EXi mX6_countFitting 4 [some (vr a0), some (vi x1), some (vi (x2 + 1)), some (vi (x3 + 1))] [] h4 P))))))) : EXi mX6_countFitting 4 [some (vr a0), some (vi x1), some (vi x2), some (vi x3)] [] h0 P := by
  refine ex_iload_n 5 dX6_countFitting_4 rfl rfl ?_
  refine ex_aload_n 6 dX6_countFitting_5 rfl rfl ?_
  obtain ⟨o1, hyp⟩ := hyp
  refine q_getI 6 2 9 dX6_countFitting_6 rfl fiX6_25 (Or.inl rfl) o1 ?_
  obtain ⟨o2, hyp⟩ := hyp
  obtain ⟨o3, hyp⟩ := hyp
  obtain ⟨ht, hf⟩ := hyp
  refine ex_icmp_ge 35 12 dX6_countFitting_9 (by decide) rfl o2 o3 (fun c9 => ?_) (fun c9 => ?_)
  · have hyp := ht c9
    clear ht hf
    refine ex_iload_n 36 dX6_countFitting_35 rfl rfl ?_
    exact ex_iret dX6_countFitting_36 (Or.inl rfl) ⟨_, rfl, hyp⟩
  · have hyp := hf c9
    clear ht hf
    refine ex_iload_n 13 dX6_countFitting_12 rfl rfl ?_
    refine ex_aload_n 14 dX6_countFitting_13 rfl rfl ?_
    refine ex_iload_n 15 dX6_countFitting_14 rfl rfl ?_
    refine ex_iload_n 16 dX6_countFitting_15 rfl rfl ?_
    refine q_callVi [vi x1, vi x3] 19 dX6_countFitting_16 rfl cvX6_30 rfl rfl ⟨Nat.le_of_ble_eq_true rfl, Nat.le_of_ble_eq_true rfl⟩ (Nat.le_of_ble_eq_true rfl) o1 hyp (fun y6 h4 k5 hyp => ?_)
    obtain ⟨o7, hyp⟩ := hyp
    obtain ⟨ht, hf⟩ := hyp
    refine ex_if_eq 26 22 dX6_countFitting_19 (by decide) rfl o7 (fun c8 => ?_) (fun c8 => ?_)
    · have hyp := ht c8
      clear ht hf
      refine ex_iconst 27 dX6_countFitting_26 rfl ?_
      refine ex_iadd 28 dX6_countFitting_27 rfl ?_
      refine q_istore_n [some (vr a0), some (vi x1), some (vi (x2 + 0)), some (vi x3)] 29 dX6_countFitting_28 rfl (Nat.le_of_ble_eq_true rfl) rfl rfl ?_
      refine q_iinc [some (vr a0), some (vi x1), some (vi (x2 + 0)), some (vi (x3 + 1))] 32 dX6_countFitting_29 rfl rfl (Nat.le_of_ble_eq_true rfl) rfl rfl ?_
      refine ex_goto 4 dX6_countFitting_32 (by decide) ?_
      exact hyp
    · have hyp := hf c8
      clear ht hf
      refine ex_iconst 23 dX6_countFitting_22 rfl ?_
      refine ex_goto 27 dX6_countFitting_23 (by decide) ?_
      refine ex_iadd 28 dX6_countFitting_27 rfl ?_
      refine q_istore_n [some (vr a0), some (vi x1), some (vi (x2 + 1)), some (vi x3)] 29 dX6_countFitting_28 rfl (Nat.le_of_ble_eq_true rfl) rfl rfl ?_
      refine q_iinc [some (vr a0), some (vi x1), some (vi (x2 + 1)), some (vi (x3 + 1))] 32 dX6_countFitting_29 rfl rfl (Nat.le_of_ble_eq_true rfl) rfl rfl ?_
      refine ex_goto 4 dX6_countFitting_32 (by decide) ?_
      exact hyp
set_option maxRecDepth 4000 in
theorem tX6_bestFor {P : Int → PH → Prop} (h0 : PH) (a0 : Nat) (x1 : Int) (hyp : EXi mX6_bestFor 4 [some (vr a0), some (vi x1), some (vi (-1)), some (vi 0)] [] h0 P) : METi mX6_bestFor [vr a0, vi x1] h0 P := by
  refine met_of_ex (by decide +kernel) (Nat.le_of_ble_eq_true rfl) ?_
  show EX mX6_bestFor 0 [some (vr a0), some (vi x1), none, none] [] h0 (0, 0) _
  refine ex_iconst 1 dX6_bestFor_0 rfl ?_
  refine q_istore_n [some (vr a0), some (vi x1), some (vi (-1)), none] 2 dX6_bestFor_1 rfl (Nat.le_of_ble_eq_true rfl) rfl rfl ?_
  refine ex_iconst 3 dX6_bestFor_2 rfl ?_
  refine q_istore_n [some (vr a0), some (vi x1), some (vi (-1)), some (vi 0)] 4 dX6_bestFor_3 rfl (Nat.le_of_ble_eq_true rfl) rfl rfl ?_
  exact hyp
set_option maxRecDepth 4000 in
theorem tX6_bestFor_4 {P : Int → PH → Prop} (h0 : PH) (a0 : Nat) (x1 : Int) (x2 : Int) (x3 : Int) (hyp : OB h0 6 a0 ∧ rng x3 ∧ rng (h0.2.1 a0 2) ∧ (h0.2.1 a0 2 ≤ x3 → (P x2 h0)) ∧ (x3 < h0.2.1 a0 2 → (METi mX6_fit [vr a0, vi x1, vi x3] h0 (fun y6 h4 => h4.1 = h0.1 → (rng y6 ∧ (y6 = 0 → (EXi mX6_bestFor 4 [some (vr a0), some (vi x1), some (vi x2), some (vi (x3 + 1))] [] h4 P)) ∧ (¬ y6 = 0 → (rng x2 ∧ (x2 = (-1) → (EXi mX6_bestFor 4 [some (vr a0), some (vi x1), some (vi x3), some (vi (x3 + 1))] [] h4 P)) ∧ (¬ x2 = (-1) → (∃ r10 : Nat, h4.2.2 a0 1 = some r10 ∧ AI h4 23 r10 x1 ∧ ∃ r13 : Nat, h4.2.2 r10 (x1).toNat = some r13 ∧ AI h4 20 r13 x3 ∧ AI h4 20 r13 x2 ∧ rng (h4.2.1 r13 (x3).toNat) ∧ rng (h4.2.1 r13 (x2).toNat) ∧ (h4.2.1 r13 (x3).toNat ≤ h4.2.1 r13 (x2).toNat → (EXi mX6_bestFor 4 [some (vr a0), some (vi x1), some (vi x2), some (vi (x3 + 1))] [] h4 P)) ∧ (h4.2.1 r13 (x2).toNat < h4.2.1 r13 (x3).toNat → (EXi mX6_bestFor 4 [some (vr a0), some (vi x1), some (vi x3), some (vi (x3 + 1))] [] h4 P))))))))))) : EXi mX6_bestFor 4 [some (vr a0), some (vi x1), some (vi x2), some (vi x3)] [] h0 P := by
  refine ex_iload_n 5 dX6_bestFor_4 rfl rfl ?_
  refine ex_aload_n 6 dX6_bestFor_5 rfl rfl ?_
  obtain ⟨o1, hyp⟩ := hyp
  refine q_getI 6 2 9 dX6_bestFor_6 rfl fiX6_25 (Or.inl rfl) o1 ?_
  obtain ⟨o2, hyp⟩ := hyp
  obtain ⟨o3, hyp⟩ := hyp
  obtain ⟨ht, hf⟩ := hyp
  refine ex_icmp_ge 53 12 dX6_bestFor_9 (by decide) rfl o2 o3 (fun c22 => ?_) (fun c22 => ?_)
  · have hyp := ht c22
    clear ht hf
    refine ex_iload_n 54 dX6_bestFor_53 rfl rfl ?_
    exact ex_iret dX6_bestFor_54 (Or.inl rfl) ⟨_, rfl, hyp⟩
  · have hyp := hf c22
    clear ht hf
    refine ex_aload_n 13 dX6_bestFor_12 rfl rfl ?_
    refine ex_iload_n 14 dX6_bestFor_13 rfl rfl ?_
    refine ex_iload_n 15 dX6_bestFor_14 rfl rfl ?_
    refine q_callVi [vi x1, vi x3] 18 dX6_bestFor_15 rfl cvX6_30 rfl rfl ⟨Nat.le_of_ble_eq_true rfl, Nat.le_of_ble_eq_true rfl⟩ (Nat.le_of_ble_eq_true rfl) o1 hyp (fun y6 h4 k5 hyp => ?_)
    obtain ⟨o7, hyp⟩ := hyp
    obtain ⟨ht, hf⟩ := hyp
    refine ex_if_eq 47 21 dX6_bestFor_18 (by decide) rfl o7 (fun c21 => ?_) (fun c21 => ?_)
    · have hyp := ht c21
      clear ht hf
      refine q_iinc [some (vr a0), some (vi x1), some (vi x2), some (vi (x3 + 1))] 50 dX6_bestFor_47 rfl rfl (Nat.le_of_ble_eq_true rfl) rfl rfl ?_
      refine ex_goto 4 dX6_bestFor_50 (by decide) ?_
      exact hyp
    · have hyp := hf c21
      clear ht hf
      refine ex_iload_n 22 dX6_bestFor_21 rfl rfl ?_
      refine ex_iconst 23 dX6_bestFor_22 rfl ?_
      obtain ⟨o8, hyp⟩ := hyp
      obtain ⟨ht, hf⟩ := hyp
      refine ex_icmp_eq 45 26 dX6_bestFor_23 (by decide) rfl o8 ⟨by decide, by decide⟩ (fun c20 => ?_) (fun c20 => ?_)
      · have hyp := ht c20
        clear ht hf
        refine ex_iload_n 46 dX6_bestFor_45 rfl rfl ?_
        refine q_istore_n [some (vr a0), some (vi x1), some (vi x3), some (vi x3)] 47 dX6_bestFor_46 rfl (Nat.le_of_ble_eq_true rfl) rfl rfl ?_
        refine q_iinc [some (vr a0), some (vi x1), some (vi x3), some (vi (x3 + 1))] 50 dX6_bestFor_47 rfl rfl (Nat.le_of_ble_eq_true rfl) rfl rfl ?_
        refine ex_goto 4 dX6_bestFor_50 (by decide) ?_
        exact hyp
      · have hyp := hf c20
        clear ht hf
        refine ex_aload_n 27 dX6_bestFor_26 rfl rfl ?_
        have f9 := OB.of k5 o1
        obtain ⟨r10, f11, hyp⟩ := hyp
        refine q_getR 6 1 30 dX6_bestFor_27 rfl fiX6_16 rfl f9 f11 ?_
        refine ex_iload_n 31 dX6_bestFor_30 rfl rfl ?_
        obtain ⟨o12, hyp⟩ := hyp
        obtain ⟨r13, f14, hyp⟩ := hyp
        refine ex_aald 23 32 dX6_bestFor_31 rfl (by decide) o12 f14 ?_
        refine ex_iload_n 33 dX6_bestFor_32 rfl rfl ?_
        obtain ⟨o15, hyp⟩ := hyp
        refine ex_iald 34 dX6_bestFor_33 rfl o15 ?_
        refine ex_aload_n 35 dX6_bestFor_34 rfl rfl ?_
        refine q_getR 6 1 38 dX6_bestFor_35 rfl fiX6_16 rfl f9 f11 ?_
        refine ex_iload_n 39 dX6_bestFor_38 rfl rfl ?_
        refine ex_aald 23 40 dX6_bestFor_39 rfl (by decide) o12 f14 ?_
        refine ex_iload_n 41 dX6_bestFor_40 rfl rfl ?_
        obtain ⟨o16, hyp⟩ := hyp
        refine ex_iald 42 dX6_bestFor_41 rfl o16 ?_
        obtain ⟨o17, hyp⟩ := hyp
        obtain ⟨o18, hyp⟩ := hyp
        obtain ⟨ht, hf⟩ := hyp
        refine ex_icmp_le 47 45 dX6_bestFor_42 (by decide) rfl o17 o18 (fun c19 => ?_) (fun c19 => ?_)
        · have hyp := ht c19
          clear ht hf
          refine q_iinc [some (vr a0), some (vi x1), some (vi x2), some (vi (x3 + 1))] 50 dX6_bestFor_47 rfl rfl (Nat.le_of_ble_eq_true rfl) rfl rfl ?_
          refine ex_goto 4 dX6_bestFor_50 (by decide) ?_
          exact hyp
        · have hyp := hf c19
          clear ht hf
          refine ex_iload_n 46 dX6_bestFor_45 rfl rfl ?_
          refine q_istore_n [some (vr a0), some (vi x1), some (vi x3), some (vi x3)] 47 dX6_bestFor_46 rfl (Nat.le_of_ble_eq_true rfl) rfl rfl ?_
          refine q_iinc [some (vr a0), some (vi x1), some (vi x3), some (vi (x3 + 1))] 50 dX6_bestFor_47 rfl rfl (Nat.le_of_ble_eq_true rfl) rfl rfl ?_
          refine ex_goto 4 dX6_bestFor_50 (by decide) ?_
          exact hyp
set_option maxRecDepth 4000 in
theorem tX6_fitFirst {P : Int → PH → Prop} (h0 : PH) (a0 : Nat) (x1 : Int) (a2 : Nat) (x3 : Int) (hyp : EXi mX6_fitFirst 3 [some (vr a0), some (vi x1), some (vr a2), some (vi x3), some (vi 0)] [] h0 P) : METi mX6_fitFirst [vr a0, vi x1, vr a2, vi x3] h0 P := by
  refine met_of_ex (by decide +kernel) (Nat.le_of_ble_eq_true rfl) ?_
  show EX mX6_fitFirst 0 [some (vr a0), some (vi x1), some (vr a2), some (vi x3), none] [] h0 (0, 0) _
  refine ex_iconst 1 dX6_fitFirst_0 rfl ?_
  refine q_istore [some (vr a0), some (vi x1), some (vr a2), some (vi x3), some (vi 0)] 3 dX6_fitFirst_1 rfl (Nat.le_of_ble_eq_true rfl) rfl rfl ?_
  exact hyp
set_option maxRecDepth 4000 in
theorem tX6_fitFirst_3 {P : Int → PH → Prop} (h0 : PH) (a0 : Nat) (x1 : Int) (a2 : Nat) (x3 : Int) (x4 : Int) (hyp : rng x4 ∧ rng x3 ∧ (x3 ≤ x4 → (P 1 h0)) ∧ (x4 < x3 → (AI h0 20 a2 x4 ∧ OB h0 6 a0 ∧ METi mX6_fit [vr a0, vi x1, vi (h0.2.1 a2 (x4).toNat)] h0 (fun y7 h5 => h5.1 = h0.1 → (rng y7 ∧ (¬ y7 = 0 → (EXi mX6_fitFirst 3 [some (vr a0), some (vi x1), some (vr a2), some (vi x3), some (vi (x4 + 1))] [] h5 P)) ∧ (y7 = 0 → (P 0 h5))))))) : EXi mX6_fitFirst 3 [some (vr a0), some (vi x1), some (vr a2), some (vi x3), some (vi x4)] [] h0 P := by
  refine ex_iload 5 dX6_fitFirst_3 rfl rfl ?_
  refine ex_iload_n 6 dX6_fitFirst_5 rfl rfl ?_
  obtain ⟨o1, hyp⟩ := hyp
  obtain ⟨o2, hyp⟩ := hyp
  obtain ⟨ht, hf⟩ := hyp
  refine ex_icmp_ge 29 9 dX6_fitFirst_6 (by decide) rfl o1 o2 (fun c10 => ?_) (fun c10 => ?_)
  · have hyp := ht c10
    clear ht hf
    refine ex_iconst 30 dX6_fitFirst_29 rfl ?_
    exact ex_iret dX6_fitFirst_30 (Or.inr ⟨rfl, Or.inr rfl⟩) ⟨_, rfl, hyp⟩
  · have hyp := hf c10
    clear ht hf
    refine ex_aload_n 10 dX6_fitFirst_9 rfl rfl ?_
    refine ex_iload_n 11 dX6_fitFirst_10 rfl rfl ?_
    refine ex_aload_n 12 dX6_fitFirst_11 rfl rfl ?_
    refine ex_iload 14 dX6_fitFirst_12 rfl rfl ?_
    obtain ⟨o3, hyp⟩ := hyp
    refine ex_iald 15 dX6_fitFirst_14 rfl o3 ?_
    obtain ⟨o4, hyp⟩ := hyp
    refine q_callVi [vi x1, vi (h0.2.1 a2 (x4).toNat)] 18 dX6_fitFirst_15 rfl cvX6_30 rfl rfl ⟨Nat.le_of_ble_eq_true rfl, Nat.le_of_ble_eq_true rfl⟩ (Nat.le_of_ble_eq_true rfl) o4 hyp (fun y7 h5 k6 hyp => ?_)
    obtain ⟨o8, hyp⟩ := hyp
    obtain ⟨ht, hf⟩ := hyp
    refine ex_if_ne 23 21 dX6_fitFirst_18 (by decide) rfl o8 (fun c9 => ?_) (fun c9 => ?_)
    · have hyp := ht c9
      clear ht hf
      refine q_iinc [some (vr a0), some (vi x1), some (vr a2), some (vi x3), some (vi (x4 + 1))] 26 dX6_fitFirst_23 rfl rfl (Nat.le_of_ble_eq_true rfl) rfl rfl ?_
      refine ex_goto 3 dX6_fitFirst_26 (by decide) ?_
      exact hyp
    · have hyp := hf c9
      clear ht hf
      refine ex_iconst 22 dX6_fitFirst_21 rfl ?_
      exact ex_iret dX6_fitFirst_22 (Or.inr ⟨rfl, Or.inl rfl⟩) ⟨_, rfl, hyp⟩
set_option maxRecDepth 4000 in
theorem tX6_meanWorth {P : Int → PH → Prop} (h0 : PH) (a0 : Nat) (x1 : Int) (a2 : Nat) (x3 : Int) (hyp : rng x3 ∧ (0 < x3 → (EXi mX6_meanWorth 12 [some (vr a0), some (vi x1), some (vr a2), some (vi x3), some (vi 0), some (vi 0)] [] h0 P)) ∧ (x3 ≤ 0 → (P (-1) h0))) : METi mX6_meanWorth [vr a0, vi x1, vr a2, vi x3] h0 P := by
  refine met_of_ex (by decide +kernel) (Nat.le_of_ble_eq_true rfl) ?_
  show EX mX6_meanWorth 0 [some (vr a0), some (vi x1), some (vr a2), some (vi x3), none, none] [] h0 (0, 0) _
  refine ex_iload_n 1 dX6_meanWorth_0 rfl rfl ?_
  obtain ⟨o1, hyp⟩ := hyp
  obtain ⟨ht, hf⟩ := hyp
  refine ex_if_gt 6 4 dX6_meanWorth_1 (by decide) rfl o1 (fun c2 => ?_) (fun c2 => ?_)
  · have hyp := ht c2
    clear ht hf
    refine ex_iconst 7 dX6_meanWorth_6 rfl ?_
    refine q_istore [some (vr a0), some (vi x1), some (vr a2), some (vi x3), some (vi 0), none] 9 dX6_meanWorth_7 rfl (Nat.le_of_ble_eq_true rfl) rfl rfl ?_
    refine ex_iconst 10 dX6_meanWorth_9 rfl ?_
    refine q_istore [some (vr a0), some (vi x1), some (vr a2), some (vi x3), some (vi 0), some (vi 0)] 12 dX6_meanWorth_10 rfl (Nat.le_of_ble_eq_true rfl) rfl rfl ?_
    exact hyp
  · have hyp := hf c2
    clear ht hf
    refine ex_iconst 5 dX6_meanWorth_4 rfl ?_
    exact ex_iret dX6_meanWorth_5 (Or.inl rfl) ⟨_, rfl, hyp⟩
set_option maxRecDepth 4000 in
theorem tX6_meanWorth_12 {P : Int → PH → Prop} (h0 : PH) (a0 : Nat) (x1 : Int) (a2 : Nat) (x3 : Int) (x4 : Int) (x5 : Int) (hyp : rng x5 ∧ rng x3 ∧ (x3 ≤ x5 → (rng x4 ∧ ¬ x3 = 0 ∧ P (Int.tdiv x4 x3) h0)) ∧ (x5 < x3 → (OB h0 6 a0 ∧ ∃ r6 : Nat, h0.2.2 a0 1 = some r6 ∧ AI h0 23 r6 x1 ∧ ∃ r9 : Nat, h0.2.2 r6 (x1).toNat = some r9 ∧ AI h0 20 a2 x5 ∧ AI h0 20 r9 (h0.2.1 a2 (x5).toNat) ∧ EXi mX6_meanWorth 12 [some (vr a0), some (vi x1), some (vr a2), some (vi x3), some (vi (x4 + (h0.2.1 r9 (h0.2.1 a2 (x5).toNat).toNat))), some (vi (x5 + 1))] [] h0 P))) : EXi mX6_meanWorth 12 [some (vr a0), some (vi x1), some (vr a2), some (vi x3), some (vi x4), some (vi x5)] [] h0 P := by
  refine ex_iload 14 dX6_meanWorth_12 rfl rfl ?_
  refine ex_iload_n 15 dX6_meanWorth_14 rfl rfl ?_
  obtain ⟨o1, hyp⟩ := hyp
  obtain ⟨o2, hyp⟩ := hyp
  obtain ⟨ht, hf⟩ := hyp
  refine ex_icmp_ge 40 18 dX6_meanWorth_15 (by decide) rfl o1 o2 (fun c13 => ?_) (fun c13 => ?_)
  · have hyp := ht c13
    clear ht hf
    refine ex_iload 42 dX6_meanWorth_40 rfl rfl ?_
    refine ex_iload_n 43 dX6_meanWorth_42 rfl rfl ?_
    obtain ⟨o3, hyp⟩ := hyp
    obtain ⟨o4, hyp⟩ := hyp
    refine ex_idiv 44 dX6_meanWorth_43 rfl o3 o2 o4 ?_
    exact ex_iret dX6_meanWorth_44 (Or.inl rfl) ⟨_, rfl, hyp⟩
  · have hyp := hf c13
    clear ht hf
    refine ex_iload 20 dX6_meanWorth_18 rfl rfl ?_
    refine ex_aload_n 21 dX6_meanWorth_20 rfl rfl ?_
    obtain ⟨o5, hyp⟩ := hyp
    obtain ⟨r6, f7, hyp⟩ := hyp
    refine q_getR 6 1 24 dX6_meanWorth_21 rfl fiX6_16 rfl o5 f7 ?_
    refine ex_iload_n 25 dX6_meanWorth_24 rfl rfl ?_
    obtain ⟨o8, hyp⟩ := hyp
    obtain ⟨r9, f10, hyp⟩ := hyp
    refine ex_aald 23 26 dX6_meanWorth_25 rfl (by decide) o8 f10 ?_
    refine ex_aload_n 27 dX6_meanWorth_26 rfl rfl ?_
    refine ex_iload 29 dX6_meanWorth_27 rfl rfl ?_
    obtain ⟨o11, hyp⟩ := hyp
    refine ex_iald 30 dX6_meanWorth_29 rfl o11 ?_
    obtain ⟨o12, hyp⟩ := hyp
    refine ex_iald 31 dX6_meanWorth_30 rfl o12 ?_
    refine ex_iadd 32 dX6_meanWorth_31 rfl ?_
    refine q_istore [some (vr a0), some (vi x1), some (vr a2), some (vi x3), some (vi (x4 + (h0.2.1 r9 (h0.2.1 a2 (x5).toNat).toNat))), some (vi x5)] 34 dX6_meanWorth_32 rfl (Nat.le_of_ble_eq_true rfl) rfl rfl ?_
    refine q_iinc [some (vr a0), some (vi x1), some (vr a2), some (vi x3), some (vi (x4 + (h0.2.1 r9 (h0.2.1 a2 (x5).toNat).toNat))), some (vi (x5 + 1))] 37 dX6_meanWorth_34 rfl rfl (Nat.le_of_ble_eq_true rfl) rfl rfl ?_
    refine ex_goto 12 dX6_meanWorth_37 (by decide) ?_
    exact hyp
set_option maxRecDepth 4000 in
theorem tX6_settleTwo {P : PH → Prop} (h0 : PH) (a0 : Nat) (a1 : Nat) (x2 : Int) (x3 : Int) (x4 : Int) (hyp : OB h0 8 a1 ∧ ∃ r2 : Nat, h0.2.2 a1 0 = some r2 ∧ AI h0 21 r2 x2 ∧ ∃ r5 : Nat, h0.2.2 r2 (x2).toNat = some r5 ∧ AI h0 21 r2 x3 ∧ ∃ r8 : Nat, h0.2.2 r2 (x3).toNat = some r8 ∧ METi mX6_whyNot [vr r5, vr r8, vi x4] h0 (fun y12 h10 => h10.1 = h0.1 → (OB h10 0 r5 ∧ METi mX0_yearsWith [vr r5, vr r8] h10 (fun y16 h14 => h14.1 = h10.1 → (rng y12 ∧ (¬ y12 = 0 → (OB h14 6 a0 ∧ ∃ r19 : Nat, h14.2.2 a0 0 = some r19 ∧ AI h14 23 r19 x2 ∧ ∃ r22 : Nat, h14.2.2 r19 (x2).toNat = some r22 ∧ AI h14 20 r22 x3 ∧ ∀ h25 : PH, h25 = px_upI h14 r22 (x3).toNat y12 → (AI h25 23 r19 x3 ∧ ∃ r30 : Nat, h25.2.2 r19 (x3).toNat = some r30 ∧ AI h25 20 r30 x2 ∧ ∀ h33 : PH, h33 = px_upI h25 r30 (x2).toNat y12 → (∃ r36 : Nat, h33.2.2 a0 1 = some r36 ∧ AI h33 23 r36 x2 ∧ ∃ r39 : Nat, h33.2.2 r36 (x2).toNat = some r39 ∧ AI h33 20 r39 x3 ∧ ∀ h42 : PH, h42 = px_upI h33 r39 (x3).toNat (-1) → (AI h42 23 r36 x3 ∧ ∃ r47 : Nat, h42.2.2 r36 (x3).toNat = some r47 ∧ AI h42 20 r47 x2 ∧ ∀ h50 : PH, h50 = px_upI h42 r47 (x2).toNat (-1) → (P h50)))))) ∧ (y12 = 0 → (rng y16 ∧ (y16 ≤ 0 → (OB h14 6 a0 ∧ ∃ r54 : Nat, h14.2.2 a0 0 = some r54 ∧ AI h14 23 r54 x2 ∧ ∃ r57 : Nat, h14.2.2 r54 (x2).toNat = some r57 ∧ AI h14 20 r57 x3 ∧ ∀ h60 : PH, h60 = px_upI h14 r57 (x3).toNat y12 → (AI h60 23 r54 x3 ∧ ∃ r65 : Nat, h60.2.2 r54 (x3).toNat = some r65 ∧ AI h60 20 r65 x2 ∧ ∀ h68 : PH, h68 = px_upI h60 r65 (x2).toNat y12 → (∃ r71 : Nat, h68.2.2 a0 1 = some r71 ∧ AI h68 23 r71 x2 ∧ ∃ r74 : Nat, h68.2.2 r71 (x2).toNat = some r74 ∧ AI h68 20 r74 x3 ∧ ∀ h77 : PH, h77 = px_upI h68 r74 (x3).toNat (-1) → (AI h77 23 r71 x3 ∧ ∃ r82 : Nat, h77.2.2 r71 (x3).toNat = some r82 ∧ AI h77 20 r82 x2 ∧ ∀ h85 : PH, h85 = px_upI h77 r82 (x2).toNat (-1) → (P h85)))))) ∧ (0 < y16 → (METi mX0_likenessTo [vr r5, vr r8] h14 (fun y90 h88 => h88.1 = h14.1 → (¬ y16 = 0 ∧ OB h88 6 a0 ∧ ∃ r93 : Nat, h88.2.2 a0 0 = some r93 ∧ AI h88 23 r93 x2 ∧ ∃ r96 : Nat, h88.2.2 r93 (x2).toNat = some r96 ∧ AI h88 20 r96 x3 ∧ ∀ h99 : PH, h99 = px_upI h88 r96 (x3).toNat y12 → (AI h99 23 r93 x3 ∧ ∃ r104 : Nat, h99.2.2 r93 (x3).toNat = some r104 ∧ AI h99 20 r104 x2 ∧ ∀ h107 : PH, h107 = px_upI h99 r104 (x2).toNat y12 → (∃ r110 : Nat, h107.2.2 a0 1 = some r110 ∧ AI h107 23 r110 x2 ∧ ∃ r113 : Nat, h107.2.2 r110 (x2).toNat = some r113 ∧ AI h107 20 r113 x3 ∧ ∀ h116 : PH, h116 = px_upI h107 r113 (x3).toNat (y90 + (Int.tdiv 200 y16)) → (AI h116 23 r110 x3 ∧ ∃ r121 : Nat, h116.2.2 r110 (x3).toNat = some r121 ∧ AI h116 20 r121 x2 ∧ ∀ h124 : PH, h124 = px_upI h116 r121 (x2).toNat (y90 + (Int.tdiv 200 y16)) → (P h124))))))))))))))) : METv mX6_settleTwo [vr a0, vr a1, vi x2, vi x3, vi x4] h0 (0, 0) P := by
  refine met_of_ex (by decide +kernel) (Nat.le_of_ble_eq_true rfl) ?_
  show EX mX6_settleTwo 0 [some (vr a0), some (vr a1), some (vi x2), some (vi x3), some (vi x4), none, none, none, none, none] [] h0 (0, 0) _
  refine ex_aload_n 1 dX6_settleTwo_0 rfl rfl ?_
  obtain ⟨o1, hyp⟩ := hyp
  obtain ⟨r2, f3, hyp⟩ := hyp
  refine q_getR 8 0 4 dX6_settleTwo_1 rfl fiX6_34 rfl o1 f3 ?_
  refine ex_iload_n 5 dX6_settleTwo_4 rfl rfl ?_
  obtain ⟨o4, hyp⟩ := hyp
  obtain ⟨r5, f6, hyp⟩ := hyp
  refine ex_aald 21 6 dX6_settleTwo_5 rfl (by decide) o4 f6 ?_
  refine q_astore [some (vr a0), some (vr a1), some (vi x2), some (vi x3), some (vi x4), some (vr r5), none, none, none, none] 8 dX6_settleTwo_6 rfl (Nat.le_of_ble_eq_true rfl) rfl rfl ?_
  refine ex_aload_n 9 dX6_settleTwo_8 rfl rfl ?_
  refine q_getR 8 0 12 dX6_settleTwo_9 rfl fiX6_34 rfl o1 f3 ?_
  refine ex_iload_n 13 dX6_settleTwo_12 rfl rfl ?_
  obtain ⟨o7, hyp⟩ := hyp
  obtain ⟨r8, f9, hyp⟩ := hyp
  refine ex_aald 21 14 dX6_settleTwo_13 rfl (by decide) o7 f9 ?_
  refine q_astore [some (vr a0), some (vr a1), some (vi x2), some (vi x3), some (vi x4), some (vr r5), some (vr r8), none, none, none] 16 dX6_settleTwo_14 rfl (Nat.le_of_ble_eq_true rfl) rfl rfl ?_
  refine ex_aload 18 dX6_settleTwo_16 rfl rfl ?_
  refine ex_aload 20 dX6_settleTwo_18 rfl rfl ?_
  refine ex_iload 22 dX6_settleTwo_20 rfl rfl ?_
  refine q_callSi [vr r5, vr r8, vi x4] 25 dX6_settleTwo_22 rfl cvX6_38 rfl rfl ⟨Nat.le_of_ble_eq_true rfl, Nat.le_of_ble_eq_true rfl⟩ (Nat.le_of_ble_eq_true rfl) hyp (fun y12 h10 k11 hyp => ?_)
  refine q_istore [some (vr a0), some (vr a1), some (vi x2), some (vi x3), some (vi x4), some (vr r5), some (vr r8), some (vi y12), none, none] 27 dX6_settleTwo_25 rfl (Nat.le_of_ble_eq_true rfl) rfl rfl ?_
  refine ex_aload 29 dX6_settleTwo_27 rfl rfl ?_
  refine ex_aload 31 dX6_settleTwo_29 rfl rfl ?_
  obtain ⟨o13, hyp⟩ := hyp
  refine q_callVi [vr r8] 34 dX6_settleTwo_31 rfl cvX6_42 rfl rfl ⟨Nat.le_of_ble_eq_true rfl, Nat.le_of_ble_eq_true rfl⟩ (Nat.le_of_ble_eq_true rfl) o13 hyp (fun y16 h14 k15 hyp => ?_)
  refine q_istore [some (vr a0), some (vr a1), some (vi x2), some (vi x3), some (vi x4), some (vr r5), some (vr r8), some (vi y12), some (vi y16), none] 36 dX6_settleTwo_34 rfl (Nat.le_of_ble_eq_true rfl) rfl rfl ?_
  refine ex_iload 38 dX6_settleTwo_36 rfl rfl ?_
  obtain ⟨o17, hyp⟩ := hyp
  obtain ⟨ht, hf⟩ := hyp
  refine ex_if_ne 63 41 dX6_settleTwo_38 (by decide) rfl o17 (fun c127 => ?_) (fun c127 => ?_)
  · have hyp := ht c127
    clear ht hf
    refine ex_iconst 64 dX6_settleTwo_63 rfl ?_
    refine q_istore [some (vr a0), some (vr a1), some (vi x2), some (vi x3), some (vi x4), some (vr r5), some (vr r8), some (vi y12), some (vi y16), some (vi (-1))] 66 dX6_settleTwo_64 rfl (Nat.le_of_ble_eq_true rfl) rfl rfl ?_
    refine ex_aload_n 67 dX6_settleTwo_66 rfl rfl ?_
    obtain ⟨o18, hyp⟩ := hyp
    obtain ⟨r19, f20, hyp⟩ := hyp
    refine q_getR 6 0 70 dX6_settleTwo_67 rfl fiX6_11 rfl o18 f20 ?_
    refine ex_iload_n 71 dX6_settleTwo_70 rfl rfl ?_
    obtain ⟨o21, hyp⟩ := hyp
    obtain ⟨r22, f23, hyp⟩ := hyp
    refine ex_aald 23 72 dX6_settleTwo_71 rfl (by decide) o21 f23 ?_
    refine ex_iload_n 73 dX6_settleTwo_72 rfl rfl ?_
    refine ex_iload 75 dX6_settleTwo_73 rfl rfl ?_
    obtain ⟨o24, hyp⟩ := hyp
    refine ex_iast 76 dX6_settleTwo_75 rfl o24 (fun h25 e26 => ?_)
    have hyp := hyp h25 e26
    refine ex_aload_n 77 dX6_settleTwo_76 rfl rfl ?_
    have f27 := OB.of (KI e26) o18
    have f28 := RI e26 f20
    refine q_getR 6 0 80 dX6_settleTwo_77 rfl fiX6_11 rfl f27 f28 ?_
    refine ex_iload_n 81 dX6_settleTwo_80 rfl rfl ?_
    obtain ⟨o29, hyp⟩ := hyp
    obtain ⟨r30, f31, hyp⟩ := hyp
    refine ex_aald 23 82 dX6_settleTwo_81 rfl (by decide) o29 f31 ?_
    refine ex_iload_n 83 dX6_settleTwo_82 rfl rfl ?_
    refine ex_iload 85 dX6_settleTwo_83 rfl rfl ?_
    obtain ⟨o32, hyp⟩ := hyp
    refine ex_iast 86 dX6_settleTwo_85 rfl o32 (fun h33 e34 => ?_)
    have hyp := hyp h33 e34
    refine ex_aload_n 87 dX6_settleTwo_86 rfl rfl ?_
    have f35 := OB.of (KI e34) f27
    obtain ⟨r36, f37, hyp⟩ := hyp
    refine q_getR 6 1 90 dX6_settleTwo_87 rfl fiX6_16 rfl f35 f37 ?_
    refine ex_iload_n 91 dX6_settleTwo_90 rfl rfl ?_
    obtain ⟨o38, hyp⟩ := hyp
    obtain ⟨r39, f40, hyp⟩ := hyp
    refine ex_aald 23 92 dX6_settleTwo_91 rfl (by decide) o38 f40 ?_
    refine ex_iload_n 93 dX6_settleTwo_92 rfl rfl ?_
    refine ex_iload 95 dX6_settleTwo_93 rfl rfl ?_
    obtain ⟨o41, hyp⟩ := hyp
    refine ex_iast 96 dX6_settleTwo_95 rfl o41 (fun h42 e43 => ?_)
    have hyp := hyp h42 e43
    refine ex_aload_n 97 dX6_settleTwo_96 rfl rfl ?_
    have f44 := OB.of (KI e43) f35
    have f45 := RI e43 f37
    refine q_getR 6 1 100 dX6_settleTwo_97 rfl fiX6_16 rfl f44 f45 ?_
    refine ex_iload_n 101 dX6_settleTwo_100 rfl rfl ?_
    obtain ⟨o46, hyp⟩ := hyp
    obtain ⟨r47, f48, hyp⟩ := hyp
    refine ex_aald 23 102 dX6_settleTwo_101 rfl (by decide) o46 f48 ?_
    refine ex_iload_n 103 dX6_settleTwo_102 rfl rfl ?_
    refine ex_iload 105 dX6_settleTwo_103 rfl rfl ?_
    obtain ⟨o49, hyp⟩ := hyp
    refine ex_iast 106 dX6_settleTwo_105 rfl o49 (fun h50 e51 => ?_)
    have hyp := hyp h50 e51
    exact ex_vret dX6_settleTwo_106 rfl ⟨rfl, hyp⟩
  · have hyp := hf c127
    clear ht hf
    refine ex_iload 43 dX6_settleTwo_41 rfl rfl ?_
    obtain ⟨o52, hyp⟩ := hyp
    obtain ⟨ht, hf⟩ := hyp
    refine ex_if_le 63 46 dX6_settleTwo_43 (by decide) rfl o52 (fun c126 => ?_) (fun c126 => ?_)
    · have hyp := ht c126
      clear ht hf
      refine ex_iconst 64 dX6_settleTwo_63 rfl ?_
      refine q_istore [some (vr a0), some (vr a1), some (vi x2), some (vi x3), some (vi x4), some (vr r5), some (vr r8), some (vi y12), some (vi y16), some (vi (-1))] 66 dX6_settleTwo_64 rfl (Nat.le_of_ble_eq_true rfl) rfl rfl ?_
      refine ex_aload_n 67 dX6_settleTwo_66 rfl rfl ?_
      obtain ⟨o53, hyp⟩ := hyp
      obtain ⟨r54, f55, hyp⟩ := hyp
      refine q_getR 6 0 70 dX6_settleTwo_67 rfl fiX6_11 rfl o53 f55 ?_
      refine ex_iload_n 71 dX6_settleTwo_70 rfl rfl ?_
      obtain ⟨o56, hyp⟩ := hyp
      obtain ⟨r57, f58, hyp⟩ := hyp
      refine ex_aald 23 72 dX6_settleTwo_71 rfl (by decide) o56 f58 ?_
      refine ex_iload_n 73 dX6_settleTwo_72 rfl rfl ?_
      refine ex_iload 75 dX6_settleTwo_73 rfl rfl ?_
      obtain ⟨o59, hyp⟩ := hyp
      refine ex_iast 76 dX6_settleTwo_75 rfl o59 (fun h60 e61 => ?_)
      have hyp := hyp h60 e61
      refine ex_aload_n 77 dX6_settleTwo_76 rfl rfl ?_
      have f62 := OB.of (KI e61) o53
      have f63 := RI e61 f55
      refine q_getR 6 0 80 dX6_settleTwo_77 rfl fiX6_11 rfl f62 f63 ?_
      refine ex_iload_n 81 dX6_settleTwo_80 rfl rfl ?_
      obtain ⟨o64, hyp⟩ := hyp
      obtain ⟨r65, f66, hyp⟩ := hyp
      refine ex_aald 23 82 dX6_settleTwo_81 rfl (by decide) o64 f66 ?_
      refine ex_iload_n 83 dX6_settleTwo_82 rfl rfl ?_
      refine ex_iload 85 dX6_settleTwo_83 rfl rfl ?_
      obtain ⟨o67, hyp⟩ := hyp
      refine ex_iast 86 dX6_settleTwo_85 rfl o67 (fun h68 e69 => ?_)
      have hyp := hyp h68 e69
      refine ex_aload_n 87 dX6_settleTwo_86 rfl rfl ?_
      have f70 := OB.of (KI e69) f62
      obtain ⟨r71, f72, hyp⟩ := hyp
      refine q_getR 6 1 90 dX6_settleTwo_87 rfl fiX6_16 rfl f70 f72 ?_
      refine ex_iload_n 91 dX6_settleTwo_90 rfl rfl ?_
      obtain ⟨o73, hyp⟩ := hyp
      obtain ⟨r74, f75, hyp⟩ := hyp
      refine ex_aald 23 92 dX6_settleTwo_91 rfl (by decide) o73 f75 ?_
      refine ex_iload_n 93 dX6_settleTwo_92 rfl rfl ?_
      refine ex_iload 95 dX6_settleTwo_93 rfl rfl ?_
      obtain ⟨o76, hyp⟩ := hyp
      refine ex_iast 96 dX6_settleTwo_95 rfl o76 (fun h77 e78 => ?_)
      have hyp := hyp h77 e78
      refine ex_aload_n 97 dX6_settleTwo_96 rfl rfl ?_
      have f79 := OB.of (KI e78) f70
      have f80 := RI e78 f72
      refine q_getR 6 1 100 dX6_settleTwo_97 rfl fiX6_16 rfl f79 f80 ?_
      refine ex_iload_n 101 dX6_settleTwo_100 rfl rfl ?_
      obtain ⟨o81, hyp⟩ := hyp
      obtain ⟨r82, f83, hyp⟩ := hyp
      refine ex_aald 23 102 dX6_settleTwo_101 rfl (by decide) o81 f83 ?_
      refine ex_iload_n 103 dX6_settleTwo_102 rfl rfl ?_
      refine ex_iload 105 dX6_settleTwo_103 rfl rfl ?_
      obtain ⟨o84, hyp⟩ := hyp
      refine ex_iast 106 dX6_settleTwo_105 rfl o84 (fun h85 e86 => ?_)
      have hyp := hyp h85 e86
      exact ex_vret dX6_settleTwo_106 rfl ⟨rfl, hyp⟩
    · have hyp := hf c126
      clear ht hf
      refine ex_aload 48 dX6_settleTwo_46 rfl rfl ?_
      refine ex_aload 50 dX6_settleTwo_48 rfl rfl ?_
      have f87 := OB.of k15 o13
      refine q_callVi [vr r8] 53 dX6_settleTwo_50 rfl cvX6_48 rfl rfl ⟨Nat.le_of_ble_eq_true rfl, Nat.le_of_ble_eq_true rfl⟩ (Nat.le_of_ble_eq_true rfl) f87 hyp (fun y90 h88 k89 hyp => ?_)
      refine ex_sipush 56 dX6_settleTwo_53 rfl ⟨by decide, by decide⟩ ?_
      refine ex_iload 58 dX6_settleTwo_56 rfl rfl ?_
      obtain ⟨o91, hyp⟩ := hyp
      refine ex_idiv 59 dX6_settleTwo_58 rfl ⟨by decide, by decide⟩ o52 o91 ?_
      refine ex_iadd 60 dX6_settleTwo_59 rfl ?_
      refine ex_goto 64 dX6_settleTwo_60 (by decide) ?_
      refine q_istore [some (vr a0), some (vr a1), some (vi x2), some (vi x3), some (vi x4), some (vr r5), some (vr r8), some (vi y12), some (vi y16), some (vi (y90 + (Int.tdiv 200 y16)))] 66 dX6_settleTwo_64 rfl (Nat.le_of_ble_eq_true rfl) rfl rfl ?_
      refine ex_aload_n 67 dX6_settleTwo_66 rfl rfl ?_
      obtain ⟨o92, hyp⟩ := hyp
      obtain ⟨r93, f94, hyp⟩ := hyp
      refine q_getR 6 0 70 dX6_settleTwo_67 rfl fiX6_11 rfl o92 f94 ?_
      refine ex_iload_n 71 dX6_settleTwo_70 rfl rfl ?_
      obtain ⟨o95, hyp⟩ := hyp
      obtain ⟨r96, f97, hyp⟩ := hyp
      refine ex_aald 23 72 dX6_settleTwo_71 rfl (by decide) o95 f97 ?_
      refine ex_iload_n 73 dX6_settleTwo_72 rfl rfl ?_
      refine ex_iload 75 dX6_settleTwo_73 rfl rfl ?_
      obtain ⟨o98, hyp⟩ := hyp
      refine ex_iast 76 dX6_settleTwo_75 rfl o98 (fun h99 e100 => ?_)
      have hyp := hyp h99 e100
      refine ex_aload_n 77 dX6_settleTwo_76 rfl rfl ?_
      have f101 := OB.of (KI e100) o92
      have f102 := RI e100 f94
      refine q_getR 6 0 80 dX6_settleTwo_77 rfl fiX6_11 rfl f101 f102 ?_
      refine ex_iload_n 81 dX6_settleTwo_80 rfl rfl ?_
      obtain ⟨o103, hyp⟩ := hyp
      obtain ⟨r104, f105, hyp⟩ := hyp
      refine ex_aald 23 82 dX6_settleTwo_81 rfl (by decide) o103 f105 ?_
      refine ex_iload_n 83 dX6_settleTwo_82 rfl rfl ?_
      refine ex_iload 85 dX6_settleTwo_83 rfl rfl ?_
      obtain ⟨o106, hyp⟩ := hyp
      refine ex_iast 86 dX6_settleTwo_85 rfl o106 (fun h107 e108 => ?_)
      have hyp := hyp h107 e108
      refine ex_aload_n 87 dX6_settleTwo_86 rfl rfl ?_
      have f109 := OB.of (KI e108) f101
      obtain ⟨r110, f111, hyp⟩ := hyp
      refine q_getR 6 1 90 dX6_settleTwo_87 rfl fiX6_16 rfl f109 f111 ?_
      refine ex_iload_n 91 dX6_settleTwo_90 rfl rfl ?_
      obtain ⟨o112, hyp⟩ := hyp
      obtain ⟨r113, f114, hyp⟩ := hyp
      refine ex_aald 23 92 dX6_settleTwo_91 rfl (by decide) o112 f114 ?_
      refine ex_iload_n 93 dX6_settleTwo_92 rfl rfl ?_
      refine ex_iload 95 dX6_settleTwo_93 rfl rfl ?_
      obtain ⟨o115, hyp⟩ := hyp
      refine ex_iast 96 dX6_settleTwo_95 rfl o115 (fun h116 e117 => ?_)
      have hyp := hyp h116 e117
      refine ex_aload_n 97 dX6_settleTwo_96 rfl rfl ?_
      have f118 := OB.of (KI e117) f109
      have f119 := RI e117 f111
      refine q_getR 6 1 100 dX6_settleTwo_97 rfl fiX6_16 rfl f118 f119 ?_
      refine ex_iload_n 101 dX6_settleTwo_100 rfl rfl ?_
      obtain ⟨o120, hyp⟩ := hyp
      obtain ⟨r121, f122, hyp⟩ := hyp
      refine ex_aald 23 102 dX6_settleTwo_101 rfl (by decide) o120 f122 ?_
      refine ex_iload_n 103 dX6_settleTwo_102 rfl rfl ?_
      refine ex_iload 105 dX6_settleTwo_103 rfl rfl ?_
      obtain ⟨o123, hyp⟩ := hyp
      refine ex_iast 106 dX6_settleTwo_105 rfl o123 (fun h124 e125 => ?_)
      have hyp := hyp h124 e125
      exact ex_vret dX6_settleTwo_106 rfl ⟨rfl, hyp⟩
set_option maxRecDepth 4000 in
theorem tX6_whyNot {P : Int → PH → Prop} (h0 : PH) (a0 : Nat) (a1 : Nat) (x2 : Int) (hyp : OB h0 0 a0 ∧ rng (h0.2.1 a0 4) ∧ (¬ h0.2.1 a0 4 = 0 → (EXi mX6_whyNot 16 [some (vr a0), some (vr a1), some (vi x2)] [] h0 P)) ∧ (h0.2.1 a0 4 = 0 → (OB h0 0 a1 ∧ rng (h0.2.1 a1 4) ∧ (¬ h0.2.1 a1 4 = 0 → (EXi mX6_whyNot 16 [some (vr a0), some (vr a1), some (vi x2)] [] h0 P)) ∧ (h0.2.1 a1 4 = 0 → (P 1 h0))))) : METi mX6_whyNot [vr a0, vr a1, vi x2] h0 P := by
  refine met_of_ex (by decide +kernel) (Nat.le_of_ble_eq_true rfl) ?_
  show EX mX6_whyNot 0 [some (vr a0), some (vr a1), some (vi x2)] [] h0 (0, 0) _
  refine ex_aload_n 1 dX6_whyNot_0 rfl rfl ?_
  obtain ⟨o1, hyp⟩ := hyp
  refine q_getI 0 4 4 dX6_whyNot_1 rfl fiX6_51 (Or.inl rfl) o1 ?_
  obtain ⟨o2, hyp⟩ := hyp
  obtain ⟨ht, hf⟩ := hyp
  refine ex_if_ne 16 7 dX6_whyNot_4 (by decide) rfl o2 (fun c6 => ?_) (fun c6 => ?_)
  · have hyp := ht c6
    clear ht hf
    exact hyp
  · have hyp := hf c6
    clear ht hf
    refine ex_aload_n 8 dX6_whyNot_7 rfl rfl ?_
    obtain ⟨o3, hyp⟩ := hyp
    refine q_getI 0 4 11 dX6_whyNot_8 rfl fiX6_51 (Or.inl rfl) o3 ?_
    obtain ⟨o4, hyp⟩ := hyp
    obtain ⟨ht, hf⟩ := hyp
    refine ex_if_ne 16 14 dX6_whyNot_11 (by decide) rfl o4 (fun c5 => ?_) (fun c5 => ?_)
    · have hyp := ht c5
      clear ht hf
      exact hyp
    · have hyp := hf c5
      clear ht hf
      refine ex_iconst 15 dX6_whyNot_14 rfl ?_
      exact ex_iret dX6_whyNot_15 (Or.inl rfl) ⟨_, rfl, hyp⟩
set_option maxRecDepth 4000 in
theorem tX6_whyNot_16 {P : Int → PH → Prop} (h0 : PH) (a0 : Nat) (a1 : Nat) (x2 : Int) (hyp : OB h0 0 a0 ∧ rng (h0.2.1 a0 4) ∧ (¬ h0.2.1 a0 4 = 2 → (METi mX0_isPartedFrom [vr a0, vr a1] h0 (fun y5 h3 => h3.1 = h0.1 → (rng y5 ∧ (y5 = 0 → (METi mX0_isInWrongOrderWith [vr a0, vr a1] h3 (fun y10 h8 => h8.1 = h3.1 → (rng y10 ∧ (¬ y10 = 0 → (P 4 h8)) ∧ (y10 = 0 → (OB h8 0 a1 ∧ METi mX0_isInWrongOrderWith [vr a1, vr a0] h8 (fun y15 h13 => h13.1 = h8.1 → (rng y15 ∧ (y15 = 0 → (METi mX0_yearsWith [vr a0, vr a1] h13 (fun y21 h19 => h19.1 = h13.1 → (rng y21 ∧ (¬ y21 = 0 → (METi mX0_likenessTo [vr a0, vr a1] h19 (fun y26 h24 => h24.1 = h19.1 → (rng y26 ∧ rng x2 ∧ (x2 ≤ y26 → (P 0 h24)) ∧ (y26 < x2 → (P 6 h24)))))) ∧ (y21 = 0 → (P 5 h19)))))) ∧ (¬ y15 = 0 → (P 4 h13)))))))))) ∧ (¬ y5 = 0 → (P 3 h3)))))) ∧ (h0.2.1 a0 4 = 2 → (OB h0 0 a1 ∧ rng (h0.2.1 a1 4) ∧ (¬ h0.2.1 a1 4 = 2 → (METi mX0_isPartedFrom [vr a0, vr a1] h0 (fun y38 h36 => h36.1 = h0.1 → (rng y38 ∧ (y38 = 0 → (METi mX0_isInWrongOrderWith [vr a0, vr a1] h36 (fun y43 h41 => h41.1 = h36.1 → (rng y43 ∧ (¬ y43 = 0 → (P 4 h41)) ∧ (y43 = 0 → (METi mX0_isInWrongOrderWith [vr a1, vr a0] h41 (fun y49 h47 => h47.1 = h41.1 → (rng y49 ∧ (y49 = 0 → (METi mX0_yearsWith [vr a0, vr a1] h47 (fun y55 h53 => h53.1 = h47.1 → (rng y55 ∧ (¬ y55 = 0 → (METi mX0_likenessTo [vr a0, vr a1] h53 (fun y60 h58 => h58.1 = h53.1 → (rng y60 ∧ rng x2 ∧ (x2 ≤ y60 → (P 0 h58)) ∧ (y60 < x2 → (P 6 h58)))))) ∧ (y55 = 0 → (P 5 h53)))))) ∧ (¬ y49 = 0 → (P 4 h47)))))))))) ∧ (¬ y38 = 0 → (P 3 h36)))))) ∧ (h0.2.1 a1 4 = 2 → (P 2 h0))))) : EXi mX6_whyNot 16 [some (vr a0), some (vr a1), some (vi x2)] [] h0 P := by
  refine ex_aload_n 17 dX6_whyNot_16 rfl rfl ?_
  obtain ⟨o1, hyp⟩ := hyp
  refine q_getI 0 4 20 dX6_whyNot_17 rfl fiX6_51 (Or.inl rfl) o1 ?_
  refine ex_iconst 21 dX6_whyNot_20 rfl ?_
  obtain ⟨o2, hyp⟩ := hyp
  obtain ⟨ht, hf⟩ := hyp
  refine ex_icmp_ne 34 24 dX6_whyNot_21 (by decide) rfl o2 ⟨by decide, by decide⟩ (fun c69 => ?_) (fun c69 => ?_)
  · have hyp := ht c69
    clear ht hf
    refine ex_aload_n 35 dX6_whyNot_34 rfl rfl ?_
    refine ex_aload_n 36 dX6_whyNot_35 rfl rfl ?_
    refine q_callVi [vr a1] 39 dX6_whyNot_36 rfl cvX6_54 rfl rfl ⟨Nat.le_of_ble_eq_true rfl, Nat.le_of_ble_eq_true rfl⟩ (Nat.le_of_ble_eq_true rfl) o1 hyp (fun y5 h3 k4 hyp => ?_)
    obtain ⟨o6, hyp⟩ := hyp
    obtain ⟨ht, hf⟩ := hyp
    refine ex_if_eq 44 42 dX6_whyNot_39 (by decide) rfl o6 (fun c33 => ?_) (fun c33 => ?_)
    · have hyp := ht c33
      clear ht hf
      refine ex_aload_n 45 dX6_whyNot_44 rfl rfl ?_
      refine ex_aload_n 46 dX6_whyNot_45 rfl rfl ?_
      have f7 := OB.of k4 o1
      refine q_callVi [vr a1] 49 dX6_whyNot_46 rfl cvX6_58 rfl rfl ⟨Nat.le_of_ble_eq_true rfl, Nat.le_of_ble_eq_true rfl⟩ (Nat.le_of_ble_eq_true rfl) f7 hyp (fun y10 h8 k9 hyp => ?_)
      obtain ⟨o11, hyp⟩ := hyp
      obtain ⟨ht, hf⟩ := hyp
      refine ex_if_ne 60 52 dX6_whyNot_49 (by decide) rfl o11 (fun c32 => ?_) (fun c32 => ?_)
      · have hyp := ht c32
        clear ht hf
        refine ex_iconst 61 dX6_whyNot_60 rfl ?_
        exact ex_iret dX6_whyNot_61 (Or.inl rfl) ⟨_, rfl, hyp⟩
      · have hyp := hf c32
        clear ht hf
        refine ex_aload_n 53 dX6_whyNot_52 rfl rfl ?_
        refine ex_aload_n 54 dX6_whyNot_53 rfl rfl ?_
        obtain ⟨o12, hyp⟩ := hyp
        refine q_callVi [vr a0] 57 dX6_whyNot_54 rfl cvX6_58 rfl rfl ⟨Nat.le_of_ble_eq_true rfl, Nat.le_of_ble_eq_true rfl⟩ (Nat.le_of_ble_eq_true rfl) o12 hyp (fun y15 h13 k14 hyp => ?_)
        obtain ⟨o16, hyp⟩ := hyp
        obtain ⟨ht, hf⟩ := hyp
        refine ex_if_eq 62 60 dX6_whyNot_57 (by decide) rfl o16 (fun c31 => ?_) (fun c31 => ?_)
        · have hyp := ht c31
          clear ht hf
          refine ex_aload_n 63 dX6_whyNot_62 rfl rfl ?_
          refine ex_aload_n 64 dX6_whyNot_63 rfl rfl ?_
          have f17 := OB.of k9 f7
          have f18 := OB.of k14 f17
          refine q_callVi [vr a1] 67 dX6_whyNot_64 rfl cvX6_42 rfl rfl ⟨Nat.le_of_ble_eq_true rfl, Nat.le_of_ble_eq_true rfl⟩ (Nat.le_of_ble_eq_true rfl) f18 hyp (fun y21 h19 k20 hyp => ?_)
          obtain ⟨o22, hyp⟩ := hyp
          obtain ⟨ht, hf⟩ := hyp
          refine ex_if_ne 72 70 dX6_whyNot_67 (by decide) rfl o22 (fun c30 => ?_) (fun c30 => ?_)
          · have hyp := ht c30
            clear ht hf
            refine ex_aload_n 73 dX6_whyNot_72 rfl rfl ?_
            refine ex_aload_n 74 dX6_whyNot_73 rfl rfl ?_
            have f23 := OB.of k20 f18
            refine q_callVi [vr a1] 77 dX6_whyNot_74 rfl cvX6_48 rfl rfl ⟨Nat.le_of_ble_eq_true rfl, Nat.le_of_ble_eq_true rfl⟩ (Nat.le_of_ble_eq_true rfl) f23 hyp (fun y26 h24 k25 hyp => ?_)
            refine ex_iload_n 78 dX6_whyNot_77 rfl rfl ?_
            obtain ⟨o27, hyp⟩ := hyp
            obtain ⟨o28, hyp⟩ := hyp
            obtain ⟨ht, hf⟩ := hyp
            refine ex_icmp_ge 86 81 dX6_whyNot_78 (by decide) rfl o27 o28 (fun c29 => ?_) (fun c29 => ?_)
            · have hyp := ht c29
              clear ht hf
              refine ex_iconst 87 dX6_whyNot_86 rfl ?_
              exact ex_iret dX6_whyNot_87 (Or.inl rfl) ⟨_, rfl, hyp⟩
            · have hyp := hf c29
              clear ht hf
              refine ex_bipush 83 dX6_whyNot_81 rfl ⟨by decide, by decide⟩ ?_
              refine ex_goto 87 dX6_whyNot_83 (by decide) ?_
              exact ex_iret dX6_whyNot_87 (Or.inl rfl) ⟨_, rfl, hyp⟩
          · have hyp := hf c30
            clear ht hf
            refine ex_iconst 71 dX6_whyNot_70 rfl ?_
            exact ex_iret dX6_whyNot_71 (Or.inl rfl) ⟨_, rfl, hyp⟩
        · have hyp := hf c31
          clear ht hf
          refine ex_iconst 61 dX6_whyNot_60 rfl ?_
          exact ex_iret dX6_whyNot_61 (Or.inl rfl) ⟨_, rfl, hyp⟩
    · have hyp := hf c33
      clear ht hf
      refine ex_iconst 43 dX6_whyNot_42 rfl ?_
      exact ex_iret dX6_whyNot_43 (Or.inl rfl) ⟨_, rfl, hyp⟩
  · have hyp := hf c69
    clear ht hf
    refine ex_aload_n 25 dX6_whyNot_24 rfl rfl ?_
    obtain ⟨o34, hyp⟩ := hyp
    refine q_getI 0 4 28 dX6_whyNot_25 rfl fiX6_51 (Or.inl rfl) o34 ?_
    refine ex_iconst 29 dX6_whyNot_28 rfl ?_
    obtain ⟨o35, hyp⟩ := hyp
    obtain ⟨ht, hf⟩ := hyp
    refine ex_icmp_ne 34 32 dX6_whyNot_29 (by decide) rfl o35 ⟨by decide, by decide⟩ (fun c68 => ?_) (fun c68 => ?_)
    · have hyp := ht c68
      clear ht hf
      refine ex_aload_n 35 dX6_whyNot_34 rfl rfl ?_
      refine ex_aload_n 36 dX6_whyNot_35 rfl rfl ?_
      refine q_callVi [vr a1] 39 dX6_whyNot_36 rfl cvX6_54 rfl rfl ⟨Nat.le_of_ble_eq_true rfl, Nat.le_of_ble_eq_true rfl⟩ (Nat.le_of_ble_eq_true rfl) o1 hyp (fun y38 h36 k37 hyp => ?_)
      obtain ⟨o39, hyp⟩ := hyp
      obtain ⟨ht, hf⟩ := hyp
      refine ex_if_eq 44 42 dX6_whyNot_39 (by decide) rfl o39 (fun c67 => ?_) (fun c67 => ?_)
      · have hyp := ht c67
        clear ht hf
        refine ex_aload_n 45 dX6_whyNot_44 rfl rfl ?_
        refine ex_aload_n 46 dX6_whyNot_45 rfl rfl ?_
        have f40 := OB.of k37 o1
        refine q_callVi [vr a1] 49 dX6_whyNot_46 rfl cvX6_58 rfl rfl ⟨Nat.le_of_ble_eq_true rfl, Nat.le_of_ble_eq_true rfl⟩ (Nat.le_of_ble_eq_true rfl) f40 hyp (fun y43 h41 k42 hyp => ?_)
        obtain ⟨o44, hyp⟩ := hyp
        obtain ⟨ht, hf⟩ := hyp
        refine ex_if_ne 60 52 dX6_whyNot_49 (by decide) rfl o44 (fun c66 => ?_) (fun c66 => ?_)
        · have hyp := ht c66
          clear ht hf
          refine ex_iconst 61 dX6_whyNot_60 rfl ?_
          exact ex_iret dX6_whyNot_61 (Or.inl rfl) ⟨_, rfl, hyp⟩
        · have hyp := hf c66
          clear ht hf
          refine ex_aload_n 53 dX6_whyNot_52 rfl rfl ?_
          refine ex_aload_n 54 dX6_whyNot_53 rfl rfl ?_
          have f45 := OB.of k37 o34
          have f46 := OB.of k42 f45
          refine q_callVi [vr a0] 57 dX6_whyNot_54 rfl cvX6_58 rfl rfl ⟨Nat.le_of_ble_eq_true rfl, Nat.le_of_ble_eq_true rfl⟩ (Nat.le_of_ble_eq_true rfl) f46 hyp (fun y49 h47 k48 hyp => ?_)
          obtain ⟨o50, hyp⟩ := hyp
          obtain ⟨ht, hf⟩ := hyp
          refine ex_if_eq 62 60 dX6_whyNot_57 (by decide) rfl o50 (fun c65 => ?_) (fun c65 => ?_)
          · have hyp := ht c65
            clear ht hf
            refine ex_aload_n 63 dX6_whyNot_62 rfl rfl ?_
            refine ex_aload_n 64 dX6_whyNot_63 rfl rfl ?_
            have f51 := OB.of k42 f40
            have f52 := OB.of k48 f51
            refine q_callVi [vr a1] 67 dX6_whyNot_64 rfl cvX6_42 rfl rfl ⟨Nat.le_of_ble_eq_true rfl, Nat.le_of_ble_eq_true rfl⟩ (Nat.le_of_ble_eq_true rfl) f52 hyp (fun y55 h53 k54 hyp => ?_)
            obtain ⟨o56, hyp⟩ := hyp
            obtain ⟨ht, hf⟩ := hyp
            refine ex_if_ne 72 70 dX6_whyNot_67 (by decide) rfl o56 (fun c64 => ?_) (fun c64 => ?_)
            · have hyp := ht c64
              clear ht hf
              refine ex_aload_n 73 dX6_whyNot_72 rfl rfl ?_
              refine ex_aload_n 74 dX6_whyNot_73 rfl rfl ?_
              have f57 := OB.of k54 f52
              refine q_callVi [vr a1] 77 dX6_whyNot_74 rfl cvX6_48 rfl rfl ⟨Nat.le_of_ble_eq_true rfl, Nat.le_of_ble_eq_true rfl⟩ (Nat.le_of_ble_eq_true rfl) f57 hyp (fun y60 h58 k59 hyp => ?_)
              refine ex_iload_n 78 dX6_whyNot_77 rfl rfl ?_
              obtain ⟨o61, hyp⟩ := hyp
              obtain ⟨o62, hyp⟩ := hyp
              obtain ⟨ht, hf⟩ := hyp
              refine ex_icmp_ge 86 81 dX6_whyNot_78 (by decide) rfl o61 o62 (fun c63 => ?_) (fun c63 => ?_)
              · have hyp := ht c63
                clear ht hf
                refine ex_iconst 87 dX6_whyNot_86 rfl ?_
                exact ex_iret dX6_whyNot_87 (Or.inl rfl) ⟨_, rfl, hyp⟩
              · have hyp := hf c63
                clear ht hf
                refine ex_bipush 83 dX6_whyNot_81 rfl ⟨by decide, by decide⟩ ?_
                refine ex_goto 87 dX6_whyNot_83 (by decide) ?_
                exact ex_iret dX6_whyNot_87 (Or.inl rfl) ⟨_, rfl, hyp⟩
            · have hyp := hf c64
              clear ht hf
              refine ex_iconst 71 dX6_whyNot_70 rfl ?_
              exact ex_iret dX6_whyNot_71 (Or.inl rfl) ⟨_, rfl, hyp⟩
          · have hyp := hf c65
            clear ht hf
            refine ex_iconst 61 dX6_whyNot_60 rfl ?_
            exact ex_iret dX6_whyNot_61 (Or.inl rfl) ⟨_, rfl, hyp⟩
      · have hyp := hf c67
        clear ht hf
        refine ex_iconst 43 dX6_whyNot_42 rfl ?_
        exact ex_iret dX6_whyNot_43 (Or.inl rfl) ⟨_, rfl, hyp⟩
    · have hyp := hf c68
      clear ht hf
      refine ex_iconst 33 dX6_whyNot_32 rfl ?_
      exact ex_iret dX6_whyNot_33 (Or.inl rfl) ⟨_, rfl, hyp⟩
set_option maxRecDepth 4000 in
theorem tX7_start {P : PH → Prop} (h0 : PH) (a0 : Nat) (hyp : EXv mX7_start 2 [some (vr a0), some (vi 0)] [] h0 (0, 0) P) : METv mX7_start [vr a0] h0 (0, 0) P := by
  refine met_of_ex (by decide +kernel) (Nat.le_of_ble_eq_true rfl) ?_
  show EX mX7_start 0 [some (vr a0), none] [] h0 (0, 0) _
  refine ex_iconst 1 dX7_start_0 rfl ?_
  refine q_istore_n [some (vr a0), some (vi 0)] 2 dX7_start_1 rfl (Nat.le_of_ble_eq_true rfl) rfl rfl ?_
  exact hyp
set_option maxRecDepth 4000 in
theorem tX7_start_2 {P : PH → Prop} (h0 : PH) (a0 : Nat) (x1 : Int) (hyp : rng x1 ∧ (3 ≤ x1 → (OB h0 7 a0 ∧ ∀ h3 : PH, h3 = px_upI h0 a0 1 0 → (∀ h6 : PH, h6 = px_upI h3 a0 8 0 → (METv mX7_startEntry [vr a0] h6 (0, 0) (fun h9 => h9.1 = h6.1 → (P h9)))))) ∧ (x1 < 3 → (OB h0 7 a0 ∧ ∃ r12 : Nat, h0.2.2 a0 0 = some r12 ∧ AI h0 20 r12 x1 ∧ ∀ h15 : PH, h15 = px_upI h0 r12 (x1).toNat 0 → (EXv mX7_start 2 [some (vr a0), some (vi (x1 + 1))] [] h15 (0, 0) P)))) : EXv mX7_start 2 [some (vr a0), some (vi x1)] [] h0 (0, 0) P := by
  refine ex_iload_n 3 dX7_start_2 rfl rfl ?_
  refine ex_iconst 4 dX7_start_3 rfl ?_
  obtain ⟨o1, hyp⟩ := hyp
  obtain ⟨ht, hf⟩ := hyp
  refine ex_icmp_ge 20 7 dX7_start_4 (by decide) rfl o1 ⟨by decide, by decide⟩ (fun c17 => ?_) (fun c17 => ?_)
  · have hyp := ht c17
    clear ht hf
    refine ex_aload_n 21 dX7_start_20 rfl rfl ?_
    refine ex_iconst 22 dX7_start_21 rfl ?_
    obtain ⟨o2, hyp⟩ := hyp
    refine q_putI 7 1 25 dX7_start_22 rfl fiX7_15 ff7_1 rfl o2 (fun h3 e4 => ?_)
    have hyp := hyp h3 e4
    refine ex_aload_n 26 dX7_start_25 rfl rfl ?_
    refine ex_iconst 27 dX7_start_26 rfl ?_
    have f5 := OB.of (KI e4) o2
    refine q_putI 7 8 30 dX7_start_27 rfl fiX7_19 ff7_8 rfl f5 (fun h6 e7 => ?_)
    have hyp := hyp h6 e7
    refine ex_aload_n 31 dX7_start_30 rfl rfl ?_
    have f8 := OB.of (KI e7) f5
    refine q_callVv [] 34 dX7_start_31 rfl cvX7_22 rfl rfl ⟨Nat.le_of_ble_eq_true rfl, Nat.le_of_ble_eq_true rfl⟩ (Nat.le_of_ble_eq_true rfl) f8 hyp (fun h9 k10 hyp => ?_)
    exact ex_vret dX7_start_34 rfl ⟨rfl, hyp⟩
  · have hyp := hf c17
    clear ht hf
    refine ex_aload_n 8 dX7_start_7 rfl rfl ?_
    obtain ⟨o11, hyp⟩ := hyp
    obtain ⟨r12, f13, hyp⟩ := hyp
    refine q_getR 7 0 11 dX7_start_8 rfl fiX7_9 rfl o11 f13 ?_
    refine ex_iload_n 12 dX7_start_11 rfl rfl ?_
    refine ex_iconst 13 dX7_start_12 rfl ?_
    obtain ⟨o14, hyp⟩ := hyp
    refine ex_iast 14 dX7_start_13 rfl o14 (fun h15 e16 => ?_)
    have hyp := hyp h15 e16
    refine q_iinc [some (vr a0), some (vi (x1 + 1))] 17 dX7_start_14 rfl rfl (Nat.le_of_ble_eq_true rfl) rfl rfl ?_
    refine ex_goto 2 dX7_start_17 (by decide) ?_
    exact hyp
set_option maxRecDepth 4000 in
theorem tX7_takes {P : Int → PH → Prop} (h0 : PH) (a0 : Nat) (x1 : Int) (hyp : OB h0 7 a0 ∧ rng (h0.2.1 a0 7) ∧ (h0.2.1 a0 7 < 0 ∨ 3 < h0.2.1 a0 7 → (METi mX7_takesInAge [vr a0, vi x1] h0 (fun y5 h3 => h3.1 = h0.1 → (rng y5 ∧ (y5 = 0 → ((y5 = 0 ∨ y5 = 1) ∧ P y5 h3)) ∧ (¬ y5 = 0 → (∀ h8 : PH, h8 = px_upI h3 a0 8 ((h3.2.1 a0 8) + 1) → ((y5 = 0 ∨ y5 = 1) ∧ P y5 h8))))))) ∧ (h0.2.1 a0 7 = 0 → (METi mX7_takesKind [vr a0, vi x1] h0 (fun y13 h11 => h11.1 = h0.1 → (rng y13 ∧ (y13 = 0 → ((y13 = 0 ∨ y13 = 1) ∧ P y13 h11)) ∧ (¬ y13 = 0 → (∀ h16 : PH, h16 = px_upI h11 a0 8 ((h11.2.1 a0 8) + 1) → ((y13 = 0 ∨ y13 = 1) ∧ P y13 h16))))))) ∧ (h0.2.1 a0 7 = 1 → (METi mX7_takesInName [vr a0, vi x1] h0 (fun y21 h19 => h19.1 = h0.1 → (rng y21 ∧ (y21 = 0 → ((y21 = 0 ∨ y21 = 1) ∧ P y21 h19)) ∧ (¬ y21 = 0 → (∀ h24 : PH, h24 = px_upI h19 a0 8 ((h19.2.1 a0 8) + 1) → ((y21 = 0 ∨ y21 = 1) ∧ P y21 h24))))))) ∧ (h0.2.1 a0 7 = 2 → (METi mX7_takesFigureOfYear [vr a0, vi x1] h0 (fun y29 h27 => h27.1 = h0.1 → (rng y29 ∧ (y29 = 0 → ((y29 = 0 ∨ y29 = 1) ∧ P y29 h27)) ∧ (¬ y29 = 0 → (∀ h32 : PH, h32 = px_upI h27 a0 8 ((h27.2.1 a0 8) + 1) → ((y29 = 0 ∨ y29 = 1) ∧ P y29 h32))))))) ∧ (h0.2.1 a0 7 = 3 → (METi mX7_takesBehindYear [vr a0, vi x1] h0 (fun y37 h35 => h35.1 = h0.1 → (rng y37 ∧ (y37 = 0 → ((y37 = 0 ∨ y37 = 1) ∧ P y37 h35)) ∧ (¬ y37 = 0 → (∀ h40 : PH, h40 = px_upI h35 a0 8 ((h35.2.1 a0 8) + 1) → ((y37 = 0 ∨ y37 = 1) ∧ P y37 h40)))))))) : METi mX7_takes [vr a0, vi x1] h0 P := by
  refine met_of_ex (by decide +kernel) (Nat.le_of_ble_eq_true rfl) ?_
  show EX mX7_takes 0 [some (vr a0), some (vi x1), none] [] h0 (0, 0) _
  refine ex_aload_n 1 dX7_takes_0 rfl rfl ?_
  obtain ⟨o1, hyp⟩ := hyp
  refine q_getI 7 7 4 dX7_takes_1 rfl fiX7_25 (Or.inl rfl) o1 ?_
  obtain ⟨o2, hyp⟩ := hyp
  obtain ⟨hd, hv0, hv1, hv2, hv3⟩ := hyp
  rcases (show (h0.2.1 a0 7 < 0 ∨ 3 < h0.2.1 a0 7) ∨ h0.2.1 a0 7 = 0 ∨ h0.2.1 a0 7 = 1 ∨ h0.2.1 a0 7 = 2 ∨ h0.2.1 a0 7 = 3 by omega) with c | c | c | c | c
  · refine ex_tswOut 72 dX7_takes_4 o2 c (by decide) ?_
    have hyp := hd c
    refine ex_aload_n 73 dX7_takes_72 rfl rfl ?_
    refine ex_iload_n 74 dX7_takes_73 rfl rfl ?_
    refine q_callVi [vi x1] 77 dX7_takes_74 rfl cvX7_41 rfl rfl ⟨Nat.le_of_ble_eq_true rfl, Nat.le_of_ble_eq_true rfl⟩ (Nat.le_of_ble_eq_true rfl) o1 hyp (fun y5 h3 k4 hyp => ?_)
    refine q_istore_n [some (vr a0), some (vi x1), some (vi y5)] 78 dX7_takes_77 rfl (Nat.le_of_ble_eq_true rfl) rfl rfl ?_
    refine ex_iload_n 79 dX7_takes_78 rfl rfl ?_
    obtain ⟨o6, hyp⟩ := hyp
    obtain ⟨ht, hf⟩ := hyp
    refine ex_if_eq 92 82 dX7_takes_79 (by decide) rfl o6 (fun c10 => ?_) (fun c10 => ?_)
    · have hyp := ht c10
      clear ht hf
      refine ex_iload_n 93 dX7_takes_92 rfl rfl ?_
      exact ex_iret dX7_takes_93 (Or.inr ⟨rfl, hyp.1⟩) ⟨_, rfl, hyp.2⟩
    · have hyp := hf c10
      clear ht hf
      refine ex_aload_n 83 dX7_takes_82 rfl rfl ?_
      refine ex_dup 84 dX7_takes_83 rfl rfl ?_
      have f7 := OB.of k4 o1
      refine q_getI 7 8 87 dX7_takes_84 rfl fiX7_19 (Or.inl rfl) f7 ?_
      refine ex_iconst 88 dX7_takes_87 rfl ?_
      refine ex_iadd 89 dX7_takes_88 rfl ?_
      refine q_putI 7 8 92 dX7_takes_89 rfl fiX7_19 ff7_8 rfl f7 (fun h8 e9 => ?_)
      have hyp := hyp h8 e9
      refine ex_iload_n 93 dX7_takes_92 rfl rfl ?_
      exact ex_iret dX7_takes_93 (Or.inr ⟨rfl, hyp.1⟩) ⟨_, rfl, hyp.2⟩
  · refine ex_tswIn 0 36 dX7_takes_4 c ⟨by decide, by decide⟩ (by decide) (by decide) rfl (by decide) ?_
    have hyp := hv0 c
    refine ex_aload_n 37 dX7_takes_36 rfl rfl ?_
    refine ex_iload_n 38 dX7_takes_37 rfl rfl ?_
    refine q_callVi [vi x1] 41 dX7_takes_38 rfl cvX7_28 rfl rfl ⟨Nat.le_of_ble_eq_true rfl, Nat.le_of_ble_eq_true rfl⟩ (Nat.le_of_ble_eq_true rfl) o1 hyp (fun y13 h11 k12 hyp => ?_)
    refine q_istore_n [some (vr a0), some (vi x1), some (vi y13)] 42 dX7_takes_41 rfl (Nat.le_of_ble_eq_true rfl) rfl rfl ?_
    refine ex_goto 78 dX7_takes_42 (by decide) ?_
    refine ex_iload_n 79 dX7_takes_78 rfl rfl ?_
    obtain ⟨o14, hyp⟩ := hyp
    obtain ⟨ht, hf⟩ := hyp
    refine ex_if_eq 92 82 dX7_takes_79 (by decide) rfl o14 (fun c18 => ?_) (fun c18 => ?_)
    · have hyp := ht c18
      clear ht hf
      refine ex_iload_n 93 dX7_takes_92 rfl rfl ?_
      exact ex_iret dX7_takes_93 (Or.inr ⟨rfl, hyp.1⟩) ⟨_, rfl, hyp.2⟩
    · have hyp := hf c18
      clear ht hf
      refine ex_aload_n 83 dX7_takes_82 rfl rfl ?_
      refine ex_dup 84 dX7_takes_83 rfl rfl ?_
      have f15 := OB.of k12 o1
      refine q_getI 7 8 87 dX7_takes_84 rfl fiX7_19 (Or.inl rfl) f15 ?_
      refine ex_iconst 88 dX7_takes_87 rfl ?_
      refine ex_iadd 89 dX7_takes_88 rfl ?_
      refine q_putI 7 8 92 dX7_takes_89 rfl fiX7_19 ff7_8 rfl f15 (fun h16 e17 => ?_)
      have hyp := hyp h16 e17
      refine ex_iload_n 93 dX7_takes_92 rfl rfl ?_
      exact ex_iret dX7_takes_93 (Or.inr ⟨rfl, hyp.1⟩) ⟨_, rfl, hyp.2⟩
  · refine ex_tswIn 1 45 dX7_takes_4 c ⟨by decide, by decide⟩ (by decide) (by decide) rfl (by decide) ?_
    have hyp := hv1 c
    refine ex_aload_n 46 dX7_takes_45 rfl rfl ?_
    refine ex_iload_n 47 dX7_takes_46 rfl rfl ?_
    refine q_callVi [vi x1] 50 dX7_takes_47 rfl cvX7_32 rfl rfl ⟨Nat.le_of_ble_eq_true rfl, Nat.le_of_ble_eq_true rfl⟩ (Nat.le_of_ble_eq_true rfl) o1 hyp (fun y21 h19 k20 hyp => ?_)
    refine q_istore_n [some (vr a0), some (vi x1), some (vi y21)] 51 dX7_takes_50 rfl (Nat.le_of_ble_eq_true rfl) rfl rfl ?_
    refine ex_goto 78 dX7_takes_51 (by decide) ?_
    refine ex_iload_n 79 dX7_takes_78 rfl rfl ?_
    obtain ⟨o22, hyp⟩ := hyp
    obtain ⟨ht, hf⟩ := hyp
    refine ex_if_eq 92 82 dX7_takes_79 (by decide) rfl o22 (fun c26 => ?_) (fun c26 => ?_)
    · have hyp := ht c26
      clear ht hf
      refine ex_iload_n 93 dX7_takes_92 rfl rfl ?_
      exact ex_iret dX7_takes_93 (Or.inr ⟨rfl, hyp.1⟩) ⟨_, rfl, hyp.2⟩
    · have hyp := hf c26
      clear ht hf
      refine ex_aload_n 83 dX7_takes_82 rfl rfl ?_
      refine ex_dup 84 dX7_takes_83 rfl rfl ?_
      have f23 := OB.of k20 o1
      refine q_getI 7 8 87 dX7_takes_84 rfl fiX7_19 (Or.inl rfl) f23 ?_
      refine ex_iconst 88 dX7_takes_87 rfl ?_
      refine ex_iadd 89 dX7_takes_88 rfl ?_
      refine q_putI 7 8 92 dX7_takes_89 rfl fiX7_19 ff7_8 rfl f23 (fun h24 e25 => ?_)
      have hyp := hyp h24 e25
      refine ex_iload_n 93 dX7_takes_92 rfl rfl ?_
      exact ex_iret dX7_takes_93 (Or.inr ⟨rfl, hyp.1⟩) ⟨_, rfl, hyp.2⟩
  · refine ex_tswIn 2 54 dX7_takes_4 c ⟨by decide, by decide⟩ (by decide) (by decide) rfl (by decide) ?_
    have hyp := hv2 c
    refine ex_aload_n 55 dX7_takes_54 rfl rfl ?_
    refine ex_iload_n 56 dX7_takes_55 rfl rfl ?_
    refine q_callVi [vi x1] 59 dX7_takes_56 rfl cvX7_35 rfl rfl ⟨Nat.le_of_ble_eq_true rfl, Nat.le_of_ble_eq_true rfl⟩ (Nat.le_of_ble_eq_true rfl) o1 hyp (fun y29 h27 k28 hyp => ?_)
    refine q_istore_n [some (vr a0), some (vi x1), some (vi y29)] 60 dX7_takes_59 rfl (Nat.le_of_ble_eq_true rfl) rfl rfl ?_
    refine ex_goto 78 dX7_takes_60 (by decide) ?_
    refine ex_iload_n 79 dX7_takes_78 rfl rfl ?_
    obtain ⟨o30, hyp⟩ := hyp
    obtain ⟨ht, hf⟩ := hyp
    refine ex_if_eq 92 82 dX7_takes_79 (by decide) rfl o30 (fun c34 => ?_) (fun c34 => ?_)
    · have hyp := ht c34
      clear ht hf
      refine ex_iload_n 93 dX7_takes_92 rfl rfl ?_
      exact ex_iret dX7_takes_93 (Or.inr ⟨rfl, hyp.1⟩) ⟨_, rfl, hyp.2⟩
    · have hyp := hf c34
      clear ht hf
      refine ex_aload_n 83 dX7_takes_82 rfl rfl ?_
      refine ex_dup 84 dX7_takes_83 rfl rfl ?_
      have f31 := OB.of k28 o1
      refine q_getI 7 8 87 dX7_takes_84 rfl fiX7_19 (Or.inl rfl) f31 ?_
      refine ex_iconst 88 dX7_takes_87 rfl ?_
      refine ex_iadd 89 dX7_takes_88 rfl ?_
      refine q_putI 7 8 92 dX7_takes_89 rfl fiX7_19 ff7_8 rfl f31 (fun h32 e33 => ?_)
      have hyp := hyp h32 e33
      refine ex_iload_n 93 dX7_takes_92 rfl rfl ?_
      exact ex_iret dX7_takes_93 (Or.inr ⟨rfl, hyp.1⟩) ⟨_, rfl, hyp.2⟩
  · refine ex_tswIn 3 63 dX7_takes_4 c ⟨by decide, by decide⟩ (by decide) (by decide) rfl (by decide) ?_
    have hyp := hv3 c
    refine ex_aload_n 64 dX7_takes_63 rfl rfl ?_
    refine ex_iload_n 65 dX7_takes_64 rfl rfl ?_
    refine q_callVi [vi x1] 68 dX7_takes_65 rfl cvX7_38 rfl rfl ⟨Nat.le_of_ble_eq_true rfl, Nat.le_of_ble_eq_true rfl⟩ (Nat.le_of_ble_eq_true rfl) o1 hyp (fun y37 h35 k36 hyp => ?_)
    refine q_istore_n [some (vr a0), some (vi x1), some (vi y37)] 69 dX7_takes_68 rfl (Nat.le_of_ble_eq_true rfl) rfl rfl ?_
    refine ex_goto 78 dX7_takes_69 (by decide) ?_
    refine ex_iload_n 79 dX7_takes_78 rfl rfl ?_
    obtain ⟨o38, hyp⟩ := hyp
    obtain ⟨ht, hf⟩ := hyp
    refine ex_if_eq 92 82 dX7_takes_79 (by decide) rfl o38 (fun c42 => ?_) (fun c42 => ?_)
    · have hyp := ht c42
      clear ht hf
      refine ex_iload_n 93 dX7_takes_92 rfl rfl ?_
      exact ex_iret dX7_takes_93 (Or.inr ⟨rfl, hyp.1⟩) ⟨_, rfl, hyp.2⟩
    · have hyp := hf c42
      clear ht hf
      refine ex_aload_n 83 dX7_takes_82 rfl rfl ?_
      refine ex_dup 84 dX7_takes_83 rfl rfl ?_
      have f39 := OB.of k36 o1
      refine q_getI 7 8 87 dX7_takes_84 rfl fiX7_19 (Or.inl rfl) f39 ?_
      refine ex_iconst 88 dX7_takes_87 rfl ?_
      refine ex_iadd 89 dX7_takes_88 rfl ?_
      refine q_putI 7 8 92 dX7_takes_89 rfl fiX7_19 ff7_8 rfl f39 (fun h40 e41 => ?_)
      have hyp := hyp h40 e41
      refine ex_iload_n 93 dX7_takes_92 rfl rfl ?_
      exact ex_iret dX7_takes_93 (Or.inr ⟨rfl, hyp.1⟩) ⟨_, rfl, hyp.2⟩
set_option maxRecDepth 4000 in
theorem tX7_isWhole {P : Int → PH → Prop} (h0 : PH) (a0 : Nat) (hyp : OB h0 7 a0 ∧ rng (h0.2.1 a0 7) ∧ (h0.2.1 a0 7 = 3 → (P 1 h0)) ∧ (¬ h0.2.1 a0 7 = 3 → ((¬ h0.2.1 a0 7 = 4 → (P 0 h0)) ∧ (h0.2.1 a0 7 = 4 → (METi mX7_ageIsWhole [vr a0] h0 (fun y5 h3 => h3.1 = h0.1 → (rng y5 ∧ (y5 = 0 → (P 0 h3)) ∧ (¬ y5 = 0 → (P 1 h3))))))))) : METi mX7_isWhole [vr a0] h0 P := by
  refine met_of_ex (by decide +kernel) (Nat.le_of_ble_eq_true rfl) ?_
  show EX mX7_isWhole 0 [some (vr a0)] [] h0 (0, 0) _
  refine ex_aload_n 1 dX7_isWhole_0 rfl rfl ?_
  obtain ⟨o1, hyp⟩ := hyp
  refine q_getI 7 7 4 dX7_isWhole_1 rfl fiX7_25 (Or.inl rfl) o1 ?_
  refine ex_iconst 5 dX7_isWhole_4 rfl ?_
  obtain ⟨o2, hyp⟩ := hyp
  obtain ⟨ht, hf⟩ := hyp
  refine ex_icmp_eq 23 8 dX7_isWhole_5 (by decide) rfl o2 ⟨by decide, by decide⟩ (fun c9 => ?_) (fun c9 => ?_)
  · have hyp := ht c9
    clear ht hf
    refine ex_iconst 24 dX7_isWhole_23 rfl ?_
    refine ex_goto 28 dX7_isWhole_24 (by decide) ?_
    exact ex_iret dX7_isWhole_28 (Or.inr ⟨rfl, Or.inr rfl⟩) ⟨_, rfl, hyp⟩
  · have hyp := hf c9
    clear ht hf
    refine ex_aload_n 9 dX7_isWhole_8 rfl rfl ?_
    refine q_getI 7 7 12 dX7_isWhole_9 rfl fiX7_25 (Or.inl rfl) o1 ?_
    refine ex_iconst 13 dX7_isWhole_12 rfl ?_
    obtain ⟨ht, hf⟩ := hyp
    refine ex_icmp_ne 27 16 dX7_isWhole_13 (by decide) rfl o2 ⟨by decide, by decide⟩ (fun c8 => ?_) (fun c8 => ?_)
    · have hyp := ht c8
      clear ht hf
      refine ex_iconst 28 dX7_isWhole_27 rfl ?_
      exact ex_iret dX7_isWhole_28 (Or.inr ⟨rfl, Or.inl rfl⟩) ⟨_, rfl, hyp⟩
    · have hyp := hf c8
      clear ht hf
      refine ex_aload_n 17 dX7_isWhole_16 rfl rfl ?_
      refine q_callVi [] 20 dX7_isWhole_17 rfl cvX7_44 rfl rfl ⟨Nat.le_of_ble_eq_true rfl, Nat.le_of_ble_eq_true rfl⟩ (Nat.le_of_ble_eq_true rfl) o1 hyp (fun y5 h3 k4 hyp => ?_)
      obtain ⟨o6, hyp⟩ := hyp
      obtain ⟨ht, hf⟩ := hyp
      refine ex_if_eq 27 23 dX7_isWhole_20 (by decide) rfl o6 (fun c7 => ?_) (fun c7 => ?_)
      · have hyp := ht c7
        clear ht hf
        refine ex_iconst 28 dX7_isWhole_27 rfl ?_
        exact ex_iret dX7_isWhole_28 (Or.inr ⟨rfl, Or.inl rfl⟩) ⟨_, rfl, hyp⟩
      · have hyp := hf c7
        clear ht hf
        refine ex_iconst 24 dX7_isWhole_23 rfl ?_
        refine ex_goto 28 dX7_isWhole_24 (by decide) ?_
        exact ex_iret dX7_isWhole_28 (Or.inr ⟨rfl, Or.inr rfl⟩) ⟨_, rfl, hyp⟩
set_option maxRecDepth 4000 in
theorem tX7_startEntry {P : PH → Prop} (h0 : PH) (a0 : Nat) (hyp : OB h0 7 a0 ∧ ∀ h2 : PH, h2 = px_upI h0 a0 7 0 → (∀ h5 : PH, h5 = px_upI h2 a0 4 0 → (∀ h8 : PH, h8 = px_upI h5 a0 5 0 → (∀ h11 : PH, h11 = px_upI h8 a0 6 (-1) → (∀ h14 : PH, h14 = px_upI h11 a0 9 0 → (P h14)))))) : METv mX7_startEntry [vr a0] h0 (0, 0) P := by
  refine met_of_ex (by decide +kernel) (Nat.le_of_ble_eq_true rfl) ?_
  show EX mX7_startEntry 0 [some (vr a0)] [] h0 (0, 0) _
  refine ex_aload_n 1 dX7_startEntry_0 rfl rfl ?_
  refine ex_iconst 2 dX7_startEntry_1 rfl ?_
  obtain ⟨o1, hyp⟩ := hyp
  refine q_putI 7 7 5 dX7_startEntry_2 rfl fiX7_25 ff7_7 rfl o1 (fun h2 e3 => ?_)
  have hyp := hyp h2 e3
  refine ex_aload_n 6 dX7_startEntry_5 rfl rfl ?_
  refine ex_iconst 7 dX7_startEntry_6 rfl ?_
  have f4 := OB.of (KI e3) o1
  refine q_putI 7 4 10 dX7_startEntry_7 rfl fiX7_48 ff7_4 rfl f4 (fun h5 e6 => ?_)
  have hyp := hyp h5 e6
  refine ex_aload_n 11 dX7_startEntry_10 rfl rfl ?_
  refine ex_iconst 12 dX7_startEntry_11 rfl ?_
  have f7 := OB.of (KI e6) f4
  refine q_putI 7 5 15 dX7_startEntry_12 rfl fiX7_51 ff7_5 rfl f7 (fun h8 e9 => ?_)
  have hyp := hyp h8 e9
  refine ex_aload_n 16 dX7_startEntry_15 rfl rfl ?_
  refine ex_iconst 17 dX7_startEntry_16 rfl ?_
  have f10 := OB.of (KI e9) f7
  refine q_putI 7 6 20 dX7_startEntry_17 rfl fiX7_54 ff7_6 rfl f10 (fun h11 e12 => ?_)
  have hyp := hyp h11 e12
  refine ex_aload_n 21 dX7_startEntry_20 rfl rfl ?_
  refine ex_iconst 22 dX7_startEntry_21 rfl ?_
  have f13 := OB.of (KI e12) f10
  refine q_putI 7 9 25 dX7_startEntry_22 rfl fiX7_57 ff7_9 rfl f13 (fun h14 e15 => ?_)
  have hyp := hyp h14 e15
  exact ex_vret dX7_startEntry_25 rfl ⟨rfl, hyp⟩
set_option maxRecDepth 4000 in
theorem tX7_takesKind {P : Int → PH → Prop} (h0 : PH) (a0 : Nat) (x1 : Int) (hyp : rng x1 ∧ (x1 = 98 → (EXi mX7_takesKind 20 [some (vr a0), some (vi x1)] [] h0 P)) ∧ (¬ x1 = 98 → ((x1 = 119 → (EXi mX7_takesKind 20 [some (vr a0), some (vi x1)] [] h0 P)) ∧ (¬ x1 = 119 → ((x1 = 100 → (EXi mX7_takesKind 20 [some (vr a0), some (vi x1)] [] h0 P)) ∧ (¬ x1 = 100 → (P 0 h0))))))) : METi mX7_takesKind [vr a0, vi x1] h0 P := by
  refine met_of_ex (by decide +kernel) (Nat.le_of_ble_eq_true rfl) ?_
  show EX mX7_takesKind 0 [some (vr a0), some (vi x1)] [] h0 (0, 0) _
  refine ex_iload_n 1 dX7_takesKind_0 rfl rfl ?_
  refine ex_bipush 3 dX7_takesKind_1 rfl ⟨by decide, by decide⟩ ?_
  obtain ⟨o1, hyp⟩ := hyp
  obtain ⟨ht, hf⟩ := hyp
  refine ex_icmp_eq 20 6 dX7_takesKind_3 (by decide) rfl o1 ⟨by decide, by decide⟩ (fun c4 => ?_) (fun c4 => ?_)
  · have hyp := ht c4
    clear ht hf
    exact hyp
  · have hyp := hf c4
    clear ht hf
    refine ex_iload_n 7 dX7_takesKind_6 rfl rfl ?_
    refine ex_bipush 9 dX7_takesKind_7 rfl ⟨by decide, by decide⟩ ?_
    obtain ⟨ht, hf⟩ := hyp
    refine ex_icmp_eq 20 12 dX7_takesKind_9 (by decide) rfl o1 ⟨by decide, by decide⟩ (fun c3 => ?_) (fun c3 => ?_)
    · have hyp := ht c3
      clear ht hf
      exact hyp
    · have hyp := hf c3
      clear ht hf
      refine ex_iload_n 13 dX7_takesKind_12 rfl rfl ?_
      refine ex_bipush 15 dX7_takesKind_13 rfl ⟨by decide, by decide⟩ ?_
      obtain ⟨ht, hf⟩ := hyp
      refine ex_icmp_eq 20 18 dX7_takesKind_15 (by decide) rfl o1 ⟨by decide, by decide⟩ (fun c2 => ?_) (fun c2 => ?_)
      · have hyp := ht c2
        clear ht hf
        exact hyp
      · have hyp := hf c2
        clear ht hf
        refine ex_iconst 19 dX7_takesKind_18 rfl ?_
        exact ex_iret dX7_takesKind_19 (Or.inr ⟨rfl, Or.inl rfl⟩) ⟨_, rfl, hyp⟩
set_option maxRecDepth 4000 in
theorem tX7_takesKind_20 {P : Int → PH → Prop} (h0 : PH) (a0 : Nat) (x1 : Int) (hyp : rng x1 ∧ (¬ x1 = 98 → ((¬ x1 = 119 → (OB h0 7 a0 ∧ ∀ h3 : PH, h3 = px_upI h0 a0 2 2 → (∃ r6 : Nat, h3.2.2 a0 0 = some r6 ∧ AI h3 20 r6 (h3.2.1 a0 2) ∧ ∀ h9 : PH, h9 = px_upI h3 r6 (h3.2.1 a0 2).toNat ((h3.2.1 r6 (h3.2.1 a0 2).toNat) + 1) → (∀ h12 : PH, h12 = px_upI h9 a0 1 ((h9.2.1 a0 1) + 1) → (∀ h15 : PH, h15 = px_upI h12 a0 3 ((h12.2.1 a0 8) + 1) → (∀ h18 : PH, h18 = px_upI h15 a0 7 1 → (P 1 h18))))))) ∧ (x1 = 119 → (OB h0 7 a0 ∧ ∀ h21 : PH, h21 = px_upI h0 a0 2 1 → (∃ r24 : Nat, h21.2.2 a0 0 = some r24 ∧ AI h21 20 r24 (h21.2.1 a0 2) ∧ ∀ h27 : PH, h27 = px_upI h21 r24 (h21.2.1 a0 2).toNat ((h21.2.1 r24 (h21.2.1 a0 2).toNat) + 1) → (∀ h30 : PH, h30 = px_upI h27 a0 1 ((h27.2.1 a0 1) + 1) → (∀ h33 : PH, h33 = px_upI h30 a0 3 ((h30.2.1 a0 8) + 1) → (∀ h36 : PH, h36 = px_upI h33 a0 7 1 → (P 1 h36))))))))) ∧ (x1 = 98 → (OB h0 7 a0 ∧ ∀ h40 : PH, h40 = px_upI h0 a0 2 0 → (∃ r43 : Nat, h40.2.2 a0 0 = some r43 ∧ AI h40 20 r43 (h40.2.1 a0 2) ∧ ∀ h46 : PH, h46 = px_upI h40 r43 (h40.2.1 a0 2).toNat ((h40.2.1 r43 (h40.2.1 a0 2).toNat) + 1) → (∀ h49 : PH, h49 = px_upI h46 a0 1 ((h46.2.1 a0 1) + 1) → (∀ h52 : PH, h52 = px_upI h49 a0 3 ((h49.2.1 a0 8) + 1) → (∀ h55 : PH, h55 = px_upI h52 a0 7 1 → (P 1 h55)))))))) : EXi mX7_takesKind 20 [some (vr a0), some (vi x1)] [] h0 P := by
  refine ex_aload_n 21 dX7_takesKind_20 rfl rfl ?_
  refine ex_iload_n 22 dX7_takesKind_21 rfl rfl ?_
  refine ex_bipush 24 dX7_takesKind_22 rfl ⟨by decide, by decide⟩ ?_
  obtain ⟨o1, hyp⟩ := hyp
  obtain ⟨ht, hf⟩ := hyp
  refine ex_icmp_ne 31 27 dX7_takesKind_24 (by decide) rfl o1 ⟨by decide, by decide⟩ (fun c57 => ?_) (fun c57 => ?_)
  · have hyp := ht c57
    clear ht hf
    refine ex_iload_n 32 dX7_takesKind_31 rfl rfl ?_
    refine ex_bipush 34 dX7_takesKind_32 rfl ⟨by decide, by decide⟩ ?_
    obtain ⟨ht, hf⟩ := hyp
    refine ex_icmp_ne 41 37 dX7_takesKind_34 (by decide) rfl o1 ⟨by decide, by decide⟩ (fun c38 => ?_) (fun c38 => ?_)
    · have hyp := ht c38
      clear ht hf
      refine ex_iconst 42 dX7_takesKind_41 rfl ?_
      obtain ⟨o2, hyp⟩ := hyp
      refine q_putI 7 2 45 dX7_takesKind_42 rfl fiX7_60 ff7_2 rfl o2 (fun h3 e4 => ?_)
      have hyp := hyp h3 e4
      refine ex_aload_n 46 dX7_takesKind_45 rfl rfl ?_
      have f5 := OB.of (KI e4) o2
      obtain ⟨r6, f7, hyp⟩ := hyp
      refine q_getR 7 0 49 dX7_takesKind_46 rfl fiX7_9 rfl f5 f7 ?_
      refine ex_aload_n 50 dX7_takesKind_49 rfl rfl ?_
      refine q_getI 7 2 53 dX7_takesKind_50 rfl fiX7_60 (Or.inl rfl) f5 ?_
      refine ex_dup2 54 dX7_takesKind_53 rfl rfl rfl ?_
      obtain ⟨o8, hyp⟩ := hyp
      refine ex_iald 55 dX7_takesKind_54 rfl o8 ?_
      refine ex_iconst 56 dX7_takesKind_55 rfl ?_
      refine ex_iadd 57 dX7_takesKind_56 rfl ?_
      refine ex_iast 58 dX7_takesKind_57 rfl o8 (fun h9 e10 => ?_)
      have hyp := hyp h9 e10
      refine ex_aload_n 59 dX7_takesKind_58 rfl rfl ?_
      refine ex_dup 60 dX7_takesKind_59 rfl rfl ?_
      have f11 := OB.of (KI e10) f5
      refine q_getI 7 1 63 dX7_takesKind_60 rfl fiX7_15 (Or.inl rfl) f11 ?_
      refine ex_iconst 64 dX7_takesKind_63 rfl ?_
      refine ex_iadd 65 dX7_takesKind_64 rfl ?_
      refine q_putI 7 1 68 dX7_takesKind_65 rfl fiX7_15 ff7_1 rfl f11 (fun h12 e13 => ?_)
      have hyp := hyp h12 e13
      refine ex_aload_n 69 dX7_takesKind_68 rfl rfl ?_
      refine ex_aload_n 70 dX7_takesKind_69 rfl rfl ?_
      have f14 := OB.of (KI e13) f11
      refine q_getI 7 8 73 dX7_takesKind_70 rfl fiX7_19 (Or.inl rfl) f14 ?_
      refine ex_iconst 74 dX7_takesKind_73 rfl ?_
      refine ex_iadd 75 dX7_takesKind_74 rfl ?_
      refine q_putI 7 3 78 dX7_takesKind_75 rfl fiX7_63 ff7_3 rfl f14 (fun h15 e16 => ?_)
      have hyp := hyp h15 e16
      refine ex_aload_n 79 dX7_takesKind_78 rfl rfl ?_
      refine ex_iconst 80 dX7_takesKind_79 rfl ?_
      have f17 := OB.of (KI e16) f14
      refine q_putI 7 7 83 dX7_takesKind_80 rfl fiX7_25 ff7_7 rfl f17 (fun h18 e19 => ?_)
      have hyp := hyp h18 e19
      refine ex_iconst 84 dX7_takesKind_83 rfl ?_
      exact ex_iret dX7_takesKind_84 (Or.inr ⟨rfl, Or.inr rfl⟩) ⟨_, rfl, hyp⟩
    · have hyp := hf c38
      clear ht hf
      refine ex_iconst 38 dX7_takesKind_37 rfl ?_
      refine ex_goto 42 dX7_takesKind_38 (by decide) ?_
      obtain ⟨o20, hyp⟩ := hyp
      refine q_putI 7 2 45 dX7_takesKind_42 rfl fiX7_60 ff7_2 rfl o20 (fun h21 e22 => ?_)
      have hyp := hyp h21 e22
      refine ex_aload_n 46 dX7_takesKind_45 rfl rfl ?_
      have f23 := OB.of (KI e22) o20
      obtain ⟨r24, f25, hyp⟩ := hyp
      refine q_getR 7 0 49 dX7_takesKind_46 rfl fiX7_9 rfl f23 f25 ?_
      refine ex_aload_n 50 dX7_takesKind_49 rfl rfl ?_
      refine q_getI 7 2 53 dX7_takesKind_50 rfl fiX7_60 (Or.inl rfl) f23 ?_
      refine ex_dup2 54 dX7_takesKind_53 rfl rfl rfl ?_
      obtain ⟨o26, hyp⟩ := hyp
      refine ex_iald 55 dX7_takesKind_54 rfl o26 ?_
      refine ex_iconst 56 dX7_takesKind_55 rfl ?_
      refine ex_iadd 57 dX7_takesKind_56 rfl ?_
      refine ex_iast 58 dX7_takesKind_57 rfl o26 (fun h27 e28 => ?_)
      have hyp := hyp h27 e28
      refine ex_aload_n 59 dX7_takesKind_58 rfl rfl ?_
      refine ex_dup 60 dX7_takesKind_59 rfl rfl ?_
      have f29 := OB.of (KI e28) f23
      refine q_getI 7 1 63 dX7_takesKind_60 rfl fiX7_15 (Or.inl rfl) f29 ?_
      refine ex_iconst 64 dX7_takesKind_63 rfl ?_
      refine ex_iadd 65 dX7_takesKind_64 rfl ?_
      refine q_putI 7 1 68 dX7_takesKind_65 rfl fiX7_15 ff7_1 rfl f29 (fun h30 e31 => ?_)
      have hyp := hyp h30 e31
      refine ex_aload_n 69 dX7_takesKind_68 rfl rfl ?_
      refine ex_aload_n 70 dX7_takesKind_69 rfl rfl ?_
      have f32 := OB.of (KI e31) f29
      refine q_getI 7 8 73 dX7_takesKind_70 rfl fiX7_19 (Or.inl rfl) f32 ?_
      refine ex_iconst 74 dX7_takesKind_73 rfl ?_
      refine ex_iadd 75 dX7_takesKind_74 rfl ?_
      refine q_putI 7 3 78 dX7_takesKind_75 rfl fiX7_63 ff7_3 rfl f32 (fun h33 e34 => ?_)
      have hyp := hyp h33 e34
      refine ex_aload_n 79 dX7_takesKind_78 rfl rfl ?_
      refine ex_iconst 80 dX7_takesKind_79 rfl ?_
      have f35 := OB.of (KI e34) f32
      refine q_putI 7 7 83 dX7_takesKind_80 rfl fiX7_25 ff7_7 rfl f35 (fun h36 e37 => ?_)
      have hyp := hyp h36 e37
      refine ex_iconst 84 dX7_takesKind_83 rfl ?_
      exact ex_iret dX7_takesKind_84 (Or.inr ⟨rfl, Or.inr rfl⟩) ⟨_, rfl, hyp⟩
  · have hyp := hf c57
    clear ht hf
    refine ex_iconst 28 dX7_takesKind_27 rfl ?_
    refine ex_goto 42 dX7_takesKind_28 (by decide) ?_
    obtain ⟨o39, hyp⟩ := hyp
    refine q_putI 7 2 45 dX7_takesKind_42 rfl fiX7_60 ff7_2 rfl o39 (fun h40 e41 => ?_)
    have hyp := hyp h40 e41
    refine ex_aload_n 46 dX7_takesKind_45 rfl rfl ?_
    have f42 := OB.of (KI e41) o39
    obtain ⟨r43, f44, hyp⟩ := hyp
    refine q_getR 7 0 49 dX7_takesKind_46 rfl fiX7_9 rfl f42 f44 ?_
    refine ex_aload_n 50 dX7_takesKind_49 rfl rfl ?_
    refine q_getI 7 2 53 dX7_takesKind_50 rfl fiX7_60 (Or.inl rfl) f42 ?_
    refine ex_dup2 54 dX7_takesKind_53 rfl rfl rfl ?_
    obtain ⟨o45, hyp⟩ := hyp
    refine ex_iald 55 dX7_takesKind_54 rfl o45 ?_
    refine ex_iconst 56 dX7_takesKind_55 rfl ?_
    refine ex_iadd 57 dX7_takesKind_56 rfl ?_
    refine ex_iast 58 dX7_takesKind_57 rfl o45 (fun h46 e47 => ?_)
    have hyp := hyp h46 e47
    refine ex_aload_n 59 dX7_takesKind_58 rfl rfl ?_
    refine ex_dup 60 dX7_takesKind_59 rfl rfl ?_
    have f48 := OB.of (KI e47) f42
    refine q_getI 7 1 63 dX7_takesKind_60 rfl fiX7_15 (Or.inl rfl) f48 ?_
    refine ex_iconst 64 dX7_takesKind_63 rfl ?_
    refine ex_iadd 65 dX7_takesKind_64 rfl ?_
    refine q_putI 7 1 68 dX7_takesKind_65 rfl fiX7_15 ff7_1 rfl f48 (fun h49 e50 => ?_)
    have hyp := hyp h49 e50
    refine ex_aload_n 69 dX7_takesKind_68 rfl rfl ?_
    refine ex_aload_n 70 dX7_takesKind_69 rfl rfl ?_
    have f51 := OB.of (KI e50) f48
    refine q_getI 7 8 73 dX7_takesKind_70 rfl fiX7_19 (Or.inl rfl) f51 ?_
    refine ex_iconst 74 dX7_takesKind_73 rfl ?_
    refine ex_iadd 75 dX7_takesKind_74 rfl ?_
    refine q_putI 7 3 78 dX7_takesKind_75 rfl fiX7_63 ff7_3 rfl f51 (fun h52 e53 => ?_)
    have hyp := hyp h52 e53
    refine ex_aload_n 79 dX7_takesKind_78 rfl rfl ?_
    refine ex_iconst 80 dX7_takesKind_79 rfl ?_
    have f54 := OB.of (KI e53) f51
    refine q_putI 7 7 83 dX7_takesKind_80 rfl fiX7_25 ff7_7 rfl f54 (fun h55 e56 => ?_)
    have hyp := hyp h55 e56
    refine ex_iconst 84 dX7_takesKind_83 rfl ?_
    exact ex_iret dX7_takesKind_84 (Or.inr ⟨rfl, Or.inr rfl⟩) ⟨_, rfl, hyp⟩
set_option maxRecDepth 4000 in
theorem tX7_takesInName {P : Int → PH → Prop} (h0 : PH) (a0 : Nat) (x1 : Int) (hyp : rng x1 ∧ (¬ x1 = 58 → ((x1 < 97 → (P 0 h0)) ∧ (97 ≤ x1 → ((122 < x1 → (P 0 h0)) ∧ (x1 ≤ 122 → (OB h0 7 a0 ∧ rng (h0.2.1 a0 4) ∧ (¬ h0.2.1 a0 4 = 8 → (∀ h4 : PH, h4 = px_upI h0 a0 4 ((h0.2.1 a0 4) + 1) → (P 1 h4))) ∧ (h0.2.1 a0 4 = 8 → (P 0 h0)))))))) ∧ (x1 = 58 → (OB h0 7 a0 ∧ rng (h0.2.1 a0 4) ∧ (h0.2.1 a0 4 ≤ 0 → ((x1 < 97 → (P 0 h0)) ∧ (97 ≤ x1 → ((122 < x1 → (P 0 h0)) ∧ (x1 ≤ 122 → ((¬ h0.2.1 a0 4 = 8 → (∀ h11 : PH, h11 = px_upI h0 a0 4 ((h0.2.1 a0 4) + 1) → (P 1 h11))) ∧ (h0.2.1 a0 4 = 8 → (P 0 h0)))))))) ∧ (0 < h0.2.1 a0 4 → (∀ h16 : PH, h16 = px_upI h0 a0 7 2 → (P 1 h16)))))) : METi mX7_takesInName [vr a0, vi x1] h0 P := by
  refine met_of_ex (by decide +kernel) (Nat.le_of_ble_eq_true rfl) ?_
  show EX mX7_takesInName 0 [some (vr a0), some (vi x1)] [] h0 (0, 0) _
  refine ex_iload_n 1 dX7_takesInName_0 rfl rfl ?_
  refine ex_bipush 3 dX7_takesInName_1 rfl ⟨by decide, by decide⟩ ?_
  obtain ⟨o1, hyp⟩ := hyp
  obtain ⟨ht, hf⟩ := hyp
  refine ex_icmp_ne 20 6 dX7_takesInName_3 (by decide) rfl o1 ⟨by decide, by decide⟩ (fun c19 => ?_) (fun c19 => ?_)
  · have hyp := ht c19
    clear ht hf
    refine ex_iload_n 21 dX7_takesInName_20 rfl rfl ?_
    refine ex_bipush 23 dX7_takesInName_21 rfl ⟨by decide, by decide⟩ ?_
    obtain ⟨ht, hf⟩ := hyp
    refine ex_icmp_lt 41 26 dX7_takesInName_23 (by decide) rfl o1 ⟨by decide, by decide⟩ (fun c8 => ?_) (fun c8 => ?_)
    · have hyp := ht c8
      clear ht hf
      refine ex_iconst 42 dX7_takesInName_41 rfl ?_
      exact ex_iret dX7_takesInName_42 (Or.inr ⟨rfl, Or.inl rfl⟩) ⟨_, rfl, hyp⟩
    · have hyp := hf c8
      clear ht hf
      refine ex_iload_n 27 dX7_takesInName_26 rfl rfl ?_
      refine ex_bipush 29 dX7_takesInName_27 rfl ⟨by decide, by decide⟩ ?_
      obtain ⟨ht, hf⟩ := hyp
      refine ex_icmp_gt 41 32 dX7_takesInName_29 (by decide) rfl o1 ⟨by decide, by decide⟩ (fun c7 => ?_) (fun c7 => ?_)
      · have hyp := ht c7
        clear ht hf
        refine ex_iconst 42 dX7_takesInName_41 rfl ?_
        exact ex_iret dX7_takesInName_42 (Or.inr ⟨rfl, Or.inl rfl⟩) ⟨_, rfl, hyp⟩
      · have hyp := hf c7
        clear ht hf
        refine ex_aload_n 33 dX7_takesInName_32 rfl rfl ?_
        obtain ⟨o2, hyp⟩ := hyp
        refine q_getI 7 4 36 dX7_takesInName_33 rfl fiX7_48 (Or.inl rfl) o2 ?_
        refine ex_bipush 38 dX7_takesInName_36 rfl ⟨by decide, by decide⟩ ?_
        obtain ⟨o3, hyp⟩ := hyp
        obtain ⟨ht, hf⟩ := hyp
        refine ex_icmp_ne 43 41 dX7_takesInName_38 (by decide) rfl o3 ⟨by decide, by decide⟩ (fun c6 => ?_) (fun c6 => ?_)
        · have hyp := ht c6
          clear ht hf
          refine ex_aload_n 44 dX7_takesInName_43 rfl rfl ?_
          refine ex_dup 45 dX7_takesInName_44 rfl rfl ?_
          refine q_getI 7 4 48 dX7_takesInName_45 rfl fiX7_48 (Or.inl rfl) o2 ?_
          refine ex_iconst 49 dX7_takesInName_48 rfl ?_
          refine ex_iadd 50 dX7_takesInName_49 rfl ?_
          refine q_putI 7 4 53 dX7_takesInName_50 rfl fiX7_48 ff7_4 rfl o2 (fun h4 e5 => ?_)
          have hyp := hyp h4 e5
          refine ex_iconst 54 dX7_takesInName_53 rfl ?_
          exact ex_iret dX7_takesInName_54 (Or.inr ⟨rfl, Or.inr rfl⟩) ⟨_, rfl, hyp⟩
        · have hyp := hf c6
          clear ht hf
          refine ex_iconst 42 dX7_takesInName_41 rfl ?_
          exact ex_iret dX7_takesInName_42 (Or.inr ⟨rfl, Or.inl rfl⟩) ⟨_, rfl, hyp⟩
  · have hyp := hf c19
    clear ht hf
    refine ex_aload_n 7 dX7_takesInName_6 rfl rfl ?_
    obtain ⟨o9, hyp⟩ := hyp
    refine q_getI 7 4 10 dX7_takesInName_7 rfl fiX7_48 (Or.inl rfl) o9 ?_
    obtain ⟨o10, hyp⟩ := hyp
    obtain ⟨ht, hf⟩ := hyp
    refine ex_if_le 20 13 dX7_takesInName_10 (by decide) rfl o10 (fun c18 => ?_) (fun c18 => ?_)
    · have hyp := ht c18
      clear ht hf
      refine ex_iload_n 21 dX7_takesInName_20 rfl rfl ?_
      refine ex_bipush 23 dX7_takesInName_21 rfl ⟨by decide, by decide⟩ ?_
      obtain ⟨ht, hf⟩ := hyp
      refine ex_icmp_lt 41 26 dX7_takesInName_23 (by decide) rfl o1 ⟨by decide, by decide⟩ (fun c15 => ?_) (fun c15 => ?_)
      · have hyp := ht c15
        clear ht hf
        refine ex_iconst 42 dX7_takesInName_41 rfl ?_
        exact ex_iret dX7_takesInName_42 (Or.inr ⟨rfl, Or.inl rfl⟩) ⟨_, rfl, hyp⟩
      · have hyp := hf c15
        clear ht hf
        refine ex_iload_n 27 dX7_takesInName_26 rfl rfl ?_
        refine ex_bipush 29 dX7_takesInName_27 rfl ⟨by decide, by decide⟩ ?_
        obtain ⟨ht, hf⟩ := hyp
        refine ex_icmp_gt 41 32 dX7_takesInName_29 (by decide) rfl o1 ⟨by decide, by decide⟩ (fun c14 => ?_) (fun c14 => ?_)
        · have hyp := ht c14
          clear ht hf
          refine ex_iconst 42 dX7_takesInName_41 rfl ?_
          exact ex_iret dX7_takesInName_42 (Or.inr ⟨rfl, Or.inl rfl⟩) ⟨_, rfl, hyp⟩
        · have hyp := hf c14
          clear ht hf
          refine ex_aload_n 33 dX7_takesInName_32 rfl rfl ?_
          refine q_getI 7 4 36 dX7_takesInName_33 rfl fiX7_48 (Or.inl rfl) o9 ?_
          refine ex_bipush 38 dX7_takesInName_36 rfl ⟨by decide, by decide⟩ ?_
          obtain ⟨ht, hf⟩ := hyp
          refine ex_icmp_ne 43 41 dX7_takesInName_38 (by decide) rfl o10 ⟨by decide, by decide⟩ (fun c13 => ?_) (fun c13 => ?_)
          · have hyp := ht c13
            clear ht hf
            refine ex_aload_n 44 dX7_takesInName_43 rfl rfl ?_
            refine ex_dup 45 dX7_takesInName_44 rfl rfl ?_
            refine q_getI 7 4 48 dX7_takesInName_45 rfl fiX7_48 (Or.inl rfl) o9 ?_
            refine ex_iconst 49 dX7_takesInName_48 rfl ?_
            refine ex_iadd 50 dX7_takesInName_49 rfl ?_
            refine q_putI 7 4 53 dX7_takesInName_50 rfl fiX7_48 ff7_4 rfl o9 (fun h11 e12 => ?_)
            have hyp := hyp h11 e12
            refine ex_iconst 54 dX7_takesInName_53 rfl ?_
            exact ex_iret dX7_takesInName_54 (Or.inr ⟨rfl, Or.inr rfl⟩) ⟨_, rfl, hyp⟩
          · have hyp := hf c13
            clear ht hf
            refine ex_iconst 42 dX7_takesInName_41 rfl ?_
            exact ex_iret dX7_takesInName_42 (Or.inr ⟨rfl, Or.inl rfl⟩) ⟨_, rfl, hyp⟩
    · have hyp := hf c18
      clear ht hf
      refine ex_aload_n 14 dX7_takesInName_13 rfl rfl ?_
      refine ex_iconst 15 dX7_takesInName_14 rfl ?_
      refine q_putI 7 7 18 dX7_takesInName_15 rfl fiX7_25 ff7_7 rfl o9 (fun h16 e17 => ?_)
      have hyp := hyp h16 e17
      refine ex_iconst 19 dX7_takesInName_18 rfl ?_
      exact ex_iret dX7_takesInName_19 (Or.inr ⟨rfl, Or.inr rfl⟩) ⟨_, rfl, hyp⟩
set_option maxRecDepth 4000 in
theorem tX7_takesFigureOfYear {P : Int → PH → Prop} (h0 : PH) (a0 : Nat) (x1 : Int) (hyp : OB h0 7 a0 ∧ rng (h0.2.1 a0 9) ∧ (¬ h0.2.1 a0 9 = 0 → ((¬ h0.2.1 a0 9 = 1 → (EXi mX7_takesFigureOfYear 27 [some (vr a0), some (vi x1), none, none] [vi 48] h0 P)) ∧ (h0.2.1 a0 9 = 1 → (EXi mX7_takesFigureOfYear 27 [some (vr a0), some (vi x1), none, none] [vi 54] h0 P)))) ∧ (h0.2.1 a0 9 = 0 → (EXi mX7_takesFigureOfYear 27 [some (vr a0), some (vi x1), none, none] [vi 49] h0 P))) : METi mX7_takesFigureOfYear [vr a0, vi x1] h0 P := by
  refine met_of_ex (by decide +kernel) (Nat.le_of_ble_eq_true rfl) ?_
  show EX mX7_takesFigureOfYear 0 [some (vr a0), some (vi x1), none, none] [] h0 (0, 0) _
  refine ex_aload_n 1 dX7_takesFigureOfYear_0 rfl rfl ?_
  obtain ⟨o1, hyp⟩ := hyp
  refine q_getI 7 9 4 dX7_takesFigureOfYear_1 rfl fiX7_57 (Or.inl rfl) o1 ?_
  obtain ⟨o2, hyp⟩ := hyp
  obtain ⟨ht, hf⟩ := hyp
  refine ex_if_ne 12 7 dX7_takesFigureOfYear_4 (by decide) rfl o2 (fun c4 => ?_) (fun c4 => ?_)
  · have hyp := ht c4
    clear ht hf
    refine ex_aload_n 13 dX7_takesFigureOfYear_12 rfl rfl ?_
    refine q_getI 7 9 16 dX7_takesFigureOfYear_13 rfl fiX7_57 (Or.inl rfl) o1 ?_
    refine ex_iconst 17 dX7_takesFigureOfYear_16 rfl ?_
    obtain ⟨ht, hf⟩ := hyp
    refine ex_icmp_ne 25 20 dX7_takesFigureOfYear_17 (by decide) rfl o2 ⟨by decide, by decide⟩ (fun c3 => ?_) (fun c3 => ?_)
    · have hyp := ht c3
      clear ht hf
      refine ex_bipush 27 dX7_takesFigureOfYear_25 rfl ⟨by decide, by decide⟩ ?_
      exact hyp
    · have hyp := hf c3
      clear ht hf
      refine ex_bipush 22 dX7_takesFigureOfYear_20 rfl ⟨by decide, by decide⟩ ?_
      refine ex_goto 27 dX7_takesFigureOfYear_22 (by decide) ?_
      exact hyp
  · have hyp := hf c4
    clear ht hf
    refine ex_bipush 9 dX7_takesFigureOfYear_7 rfl ⟨by decide, by decide⟩ ?_
    refine ex_goto 27 dX7_takesFigureOfYear_9 (by decide) ?_
    exact hyp
set_option maxRecDepth 4000 in
theorem tX7_takesFigureOfYear_27 {P : Int → PH → Prop} (h0 : PH) (a0 : Nat) (x1 : Int) (xs0 : Int) (hyp : OB h0 7 a0 ∧ rng (h0.2.1 a0 9) ∧ (¬ h0.2.1 a0 9 = 0 → ((¬ h0.2.1 a0 9 = 1 → (rng x1 ∧ rng xs0 ∧ (x1 < xs0 → (P 0 h0)) ∧ (xs0 ≤ x1 → ((x1 ≤ 57 → (∀ h5 : PH, h5 = px_upI h0 a0 5 (((h0.2.1 a0 5) * 10) + (x1 - 48)) → (∀ h8 : PH, h8 = px_upI h5 a0 9 ((h5.2.1 a0 9) + 1) → (rng (h8.2.1 a0 9) ∧ (¬ h8.2.1 a0 9 = 4 → (P 1 h8)) ∧ (h8.2.1 a0 9 = 4 → (∀ h12 : PH, h12 = px_upI h8 a0 7 3 → (P 1 h12))))))) ∧ (57 < x1 → (P 0 h0)))))) ∧ (h0.2.1 a0 9 = 1 → (rng x1 ∧ rng xs0 ∧ (x1 < xs0 → (P 0 h0)) ∧ (xs0 ≤ x1 → ((x1 ≤ 56 → (∀ h19 : PH, h19 = px_upI h0 a0 5 (((h0.2.1 a0 5) * 10) + (x1 - 48)) → (∀ h22 : PH, h22 = px_upI h19 a0 9 ((h19.2.1 a0 9) + 1) → (rng (h22.2.1 a0 9) ∧ (¬ h22.2.1 a0 9 = 4 → (P 1 h22)) ∧ (h22.2.1 a0 9 = 4 → (∀ h26 : PH, h26 = px_upI h22 a0 7 3 → (P 1 h26))))))) ∧ (56 < x1 → (P 0 h0)))))))) ∧ (h0.2.1 a0 9 = 0 → (rng x1 ∧ rng xs0 ∧ (x1 < xs0 → (P 0 h0)) ∧ (xs0 ≤ x1 → ((x1 ≤ 49 → (∀ h34 : PH, h34 = px_upI h0 a0 5 (((h0.2.1 a0 5) * 10) + (x1 - 48)) → (∀ h37 : PH, h37 = px_upI h34 a0 9 ((h34.2.1 a0 9) + 1) → (rng (h37.2.1 a0 9) ∧ (¬ h37.2.1 a0 9 = 4 → (P 1 h37)) ∧ (h37.2.1 a0 9 = 4 → (∀ h41 : PH, h41 = px_upI h37 a0 7 3 → (P 1 h41))))))) ∧ (49 < x1 → (P 0 h0))))))) : EXi mX7_takesFigureOfYear 27 [some (vr a0), some (vi x1), none, none] [vi xs0] h0 P := by
  refine q_istore_n [some (vr a0), some (vi x1), some (vi xs0), none] 28 dX7_takesFigureOfYear_27 rfl (Nat.le_of_ble_eq_true rfl) rfl rfl ?_
  refine ex_aload_n 29 dX7_takesFigureOfYear_28 rfl rfl ?_
  obtain ⟨o1, hyp⟩ := hyp
  refine q_getI 7 9 32 dX7_takesFigureOfYear_29 rfl fiX7_57 (Or.inl rfl) o1 ?_
  obtain ⟨o2, hyp⟩ := hyp
  obtain ⟨ht, hf⟩ := hyp
  refine ex_if_ne 40 35 dX7_takesFigureOfYear_32 (by decide) rfl o2 (fun c46 => ?_) (fun c46 => ?_)
  · have hyp := ht c46
    clear ht hf
    refine ex_aload_n 41 dX7_takesFigureOfYear_40 rfl rfl ?_
    refine q_getI 7 9 44 dX7_takesFigureOfYear_41 rfl fiX7_57 (Or.inl rfl) o1 ?_
    refine ex_iconst 45 dX7_takesFigureOfYear_44 rfl ?_
    obtain ⟨ht, hf⟩ := hyp
    refine ex_icmp_ne 53 48 dX7_takesFigureOfYear_45 (by decide) rfl o2 ⟨by decide, by decide⟩ (fun c31 => ?_) (fun c31 => ?_)
    · have hyp := ht c31
      clear ht hf
      refine ex_bipush 55 dX7_takesFigureOfYear_53 rfl ⟨by decide, by decide⟩ ?_
      refine q_istore_n [some (vr a0), some (vi x1), some (vi xs0), some (vi 57)] 56 dX7_takesFigureOfYear_55 rfl (Nat.le_of_ble_eq_true rfl) rfl rfl ?_
      refine ex_iload_n 57 dX7_takesFigureOfYear_56 rfl rfl ?_
      refine ex_iload_n 58 dX7_takesFigureOfYear_57 rfl rfl ?_
      obtain ⟨o3, hyp⟩ := hyp
      obtain ⟨o4, hyp⟩ := hyp
      obtain ⟨ht, hf⟩ := hyp
      refine ex_icmp_lt 66 61 dX7_takesFigureOfYear_58 (by decide) rfl o3 o4 (fun c16 => ?_) (fun c16 => ?_)
      · have hyp := ht c16
        clear ht hf
        refine ex_iconst 67 dX7_takesFigureOfYear_66 rfl ?_
        exact ex_iret dX7_takesFigureOfYear_67 (Or.inr ⟨rfl, Or.inl rfl⟩) ⟨_, rfl, hyp⟩
      · have hyp := hf c16
        clear ht hf
        refine ex_iload_n 62 dX7_takesFigureOfYear_61 rfl rfl ?_
        refine ex_iload_n 63 dX7_takesFigureOfYear_62 rfl rfl ?_
        obtain ⟨ht, hf⟩ := hyp
        refine ex_icmp_le 68 66 dX7_takesFigureOfYear_63 (by decide) rfl o3 ⟨by decide, by decide⟩ (fun c15 => ?_) (fun c15 => ?_)
        · have hyp := ht c15
          clear ht hf
          refine ex_aload_n 69 dX7_takesFigureOfYear_68 rfl rfl ?_
          refine ex_aload_n 70 dX7_takesFigureOfYear_69 rfl rfl ?_
          refine q_getI 7 5 73 dX7_takesFigureOfYear_70 rfl fiX7_51 (Or.inl rfl) o1 ?_
          refine ex_bipush 75 dX7_takesFigureOfYear_73 rfl ⟨by decide, by decide⟩ ?_
          refine ex_imul 76 dX7_takesFigureOfYear_75 rfl ?_
          refine ex_iload_n 77 dX7_takesFigureOfYear_76 rfl rfl ?_
          refine ex_bipush 79 dX7_takesFigureOfYear_77 rfl ⟨by decide, by decide⟩ ?_
          refine ex_isub 80 dX7_takesFigureOfYear_79 rfl ?_
          refine ex_iadd 81 dX7_takesFigureOfYear_80 rfl ?_
          refine q_putI 7 5 84 dX7_takesFigureOfYear_81 rfl fiX7_51 ff7_5 rfl o1 (fun h5 e6 => ?_)
          have hyp := hyp h5 e6
          refine ex_aload_n 85 dX7_takesFigureOfYear_84 rfl rfl ?_
          refine ex_dup 86 dX7_takesFigureOfYear_85 rfl rfl ?_
          have f7 := OB.of (KI e6) o1
          refine q_getI 7 9 89 dX7_takesFigureOfYear_86 rfl fiX7_57 (Or.inl rfl) f7 ?_
          refine ex_iconst 90 dX7_takesFigureOfYear_89 rfl ?_
          refine ex_iadd 91 dX7_takesFigureOfYear_90 rfl ?_
          refine q_putI 7 9 94 dX7_takesFigureOfYear_91 rfl fiX7_57 ff7_9 rfl f7 (fun h8 e9 => ?_)
          have hyp := hyp h8 e9
          refine ex_aload_n 95 dX7_takesFigureOfYear_94 rfl rfl ?_
          have f10 := OB.of (KI e9) f7
          refine q_getI 7 9 98 dX7_takesFigureOfYear_95 rfl fiX7_57 (Or.inl rfl) f10 ?_
          refine ex_iconst 99 dX7_takesFigureOfYear_98 rfl ?_
          obtain ⟨o11, hyp⟩ := hyp
          obtain ⟨ht, hf⟩ := hyp
          refine ex_icmp_ne 107 102 dX7_takesFigureOfYear_99 (by decide) rfl o11 ⟨by decide, by decide⟩ (fun c14 => ?_) (fun c14 => ?_)
          · have hyp := ht c14
            clear ht hf
            refine ex_iconst 108 dX7_takesFigureOfYear_107 rfl ?_
            exact ex_iret dX7_takesFigureOfYear_108 (Or.inr ⟨rfl, Or.inr rfl⟩) ⟨_, rfl, hyp⟩
          · have hyp := hf c14
            clear ht hf
            refine ex_aload_n 103 dX7_takesFigureOfYear_102 rfl rfl ?_
            refine ex_iconst 104 dX7_takesFigureOfYear_103 rfl ?_
            refine q_putI 7 7 107 dX7_takesFigureOfYear_104 rfl fiX7_25 ff7_7 rfl f10 (fun h12 e13 => ?_)
            have hyp := hyp h12 e13
            refine ex_iconst 108 dX7_takesFigureOfYear_107 rfl ?_
            exact ex_iret dX7_takesFigureOfYear_108 (Or.inr ⟨rfl, Or.inr rfl⟩) ⟨_, rfl, hyp⟩
        · have hyp := hf c15
          clear ht hf
          refine ex_iconst 67 dX7_takesFigureOfYear_66 rfl ?_
          exact ex_iret dX7_takesFigureOfYear_67 (Or.inr ⟨rfl, Or.inl rfl⟩) ⟨_, rfl, hyp⟩
    · have hyp := hf c31
      clear ht hf
      refine ex_bipush 50 dX7_takesFigureOfYear_48 rfl ⟨by decide, by decide⟩ ?_
      refine ex_goto 55 dX7_takesFigureOfYear_50 (by decide) ?_
      refine q_istore_n [some (vr a0), some (vi x1), some (vi xs0), some (vi 56)] 56 dX7_takesFigureOfYear_55 rfl (Nat.le_of_ble_eq_true rfl) rfl rfl ?_
      refine ex_iload_n 57 dX7_takesFigureOfYear_56 rfl rfl ?_
      refine ex_iload_n 58 dX7_takesFigureOfYear_57 rfl rfl ?_
      obtain ⟨o17, hyp⟩ := hyp
      obtain ⟨o18, hyp⟩ := hyp
      obtain ⟨ht, hf⟩ := hyp
      refine ex_icmp_lt 66 61 dX7_takesFigureOfYear_58 (by decide) rfl o17 o18 (fun c30 => ?_) (fun c30 => ?_)
      · have hyp := ht c30
        clear ht hf
        refine ex_iconst 67 dX7_takesFigureOfYear_66 rfl ?_
        exact ex_iret dX7_takesFigureOfYear_67 (Or.inr ⟨rfl, Or.inl rfl⟩) ⟨_, rfl, hyp⟩
      · have hyp := hf c30
        clear ht hf
        refine ex_iload_n 62 dX7_takesFigureOfYear_61 rfl rfl ?_
        refine ex_iload_n 63 dX7_takesFigureOfYear_62 rfl rfl ?_
        obtain ⟨ht, hf⟩ := hyp
        refine ex_icmp_le 68 66 dX7_takesFigureOfYear_63 (by decide) rfl o17 ⟨by decide, by decide⟩ (fun c29 => ?_) (fun c29 => ?_)
        · have hyp := ht c29
          clear ht hf
          refine ex_aload_n 69 dX7_takesFigureOfYear_68 rfl rfl ?_
          refine ex_aload_n 70 dX7_takesFigureOfYear_69 rfl rfl ?_
          refine q_getI 7 5 73 dX7_takesFigureOfYear_70 rfl fiX7_51 (Or.inl rfl) o1 ?_
          refine ex_bipush 75 dX7_takesFigureOfYear_73 rfl ⟨by decide, by decide⟩ ?_
          refine ex_imul 76 dX7_takesFigureOfYear_75 rfl ?_
          refine ex_iload_n 77 dX7_takesFigureOfYear_76 rfl rfl ?_
          refine ex_bipush 79 dX7_takesFigureOfYear_77 rfl ⟨by decide, by decide⟩ ?_
          refine ex_isub 80 dX7_takesFigureOfYear_79 rfl ?_
          refine ex_iadd 81 dX7_takesFigureOfYear_80 rfl ?_
          refine q_putI 7 5 84 dX7_takesFigureOfYear_81 rfl fiX7_51 ff7_5 rfl o1 (fun h19 e20 => ?_)
          have hyp := hyp h19 e20
          refine ex_aload_n 85 dX7_takesFigureOfYear_84 rfl rfl ?_
          refine ex_dup 86 dX7_takesFigureOfYear_85 rfl rfl ?_
          have f21 := OB.of (KI e20) o1
          refine q_getI 7 9 89 dX7_takesFigureOfYear_86 rfl fiX7_57 (Or.inl rfl) f21 ?_
          refine ex_iconst 90 dX7_takesFigureOfYear_89 rfl ?_
          refine ex_iadd 91 dX7_takesFigureOfYear_90 rfl ?_
          refine q_putI 7 9 94 dX7_takesFigureOfYear_91 rfl fiX7_57 ff7_9 rfl f21 (fun h22 e23 => ?_)
          have hyp := hyp h22 e23
          refine ex_aload_n 95 dX7_takesFigureOfYear_94 rfl rfl ?_
          have f24 := OB.of (KI e23) f21
          refine q_getI 7 9 98 dX7_takesFigureOfYear_95 rfl fiX7_57 (Or.inl rfl) f24 ?_
          refine ex_iconst 99 dX7_takesFigureOfYear_98 rfl ?_
          obtain ⟨o25, hyp⟩ := hyp
          obtain ⟨ht, hf⟩ := hyp
          refine ex_icmp_ne 107 102 dX7_takesFigureOfYear_99 (by decide) rfl o25 ⟨by decide, by decide⟩ (fun c28 => ?_) (fun c28 => ?_)
          · have hyp := ht c28
            clear ht hf
            refine ex_iconst 108 dX7_takesFigureOfYear_107 rfl ?_
            exact ex_iret dX7_takesFigureOfYear_108 (Or.inr ⟨rfl, Or.inr rfl⟩) ⟨_, rfl, hyp⟩
          · have hyp := hf c28
            clear ht hf
            refine ex_aload_n 103 dX7_takesFigureOfYear_102 rfl rfl ?_
            refine ex_iconst 104 dX7_takesFigureOfYear_103 rfl ?_
            refine q_putI 7 7 107 dX7_takesFigureOfYear_104 rfl fiX7_25 ff7_7 rfl f24 (fun h26 e27 => ?_)
            have hyp := hyp h26 e27
            refine ex_iconst 108 dX7_takesFigureOfYear_107 rfl ?_
            exact ex_iret dX7_takesFigureOfYear_108 (Or.inr ⟨rfl, Or.inr rfl⟩) ⟨_, rfl, hyp⟩
        · have hyp := hf c29
          clear ht hf
          refine ex_iconst 67 dX7_takesFigureOfYear_66 rfl ?_
          exact ex_iret dX7_takesFigureOfYear_67 (Or.inr ⟨rfl, Or.inl rfl⟩) ⟨_, rfl, hyp⟩
  · have hyp := hf c46
    clear ht hf
    refine ex_bipush 37 dX7_takesFigureOfYear_35 rfl ⟨by decide, by decide⟩ ?_
    refine ex_goto 55 dX7_takesFigureOfYear_37 (by decide) ?_
    refine q_istore_n [some (vr a0), some (vi x1), some (vi xs0), some (vi 49)] 56 dX7_takesFigureOfYear_55 rfl (Nat.le_of_ble_eq_true rfl) rfl rfl ?_
    refine ex_iload_n 57 dX7_takesFigureOfYear_56 rfl rfl ?_
    refine ex_iload_n 58 dX7_takesFigureOfYear_57 rfl rfl ?_
    obtain ⟨o32, hyp⟩ := hyp
    obtain ⟨o33, hyp⟩ := hyp
    obtain ⟨ht, hf⟩ := hyp
    refine ex_icmp_lt 66 61 dX7_takesFigureOfYear_58 (by decide) rfl o32 o33 (fun c45 => ?_) (fun c45 => ?_)
    · have hyp := ht c45
      clear ht hf
      refine ex_iconst 67 dX7_takesFigureOfYear_66 rfl ?_
      exact ex_iret dX7_takesFigureOfYear_67 (Or.inr ⟨rfl, Or.inl rfl⟩) ⟨_, rfl, hyp⟩
    · have hyp := hf c45
      clear ht hf
      refine ex_iload_n 62 dX7_takesFigureOfYear_61 rfl rfl ?_
      refine ex_iload_n 63 dX7_takesFigureOfYear_62 rfl rfl ?_
      obtain ⟨ht, hf⟩ := hyp
      refine ex_icmp_le 68 66 dX7_takesFigureOfYear_63 (by decide) rfl o32 ⟨by decide, by decide⟩ (fun c44 => ?_) (fun c44 => ?_)
      · have hyp := ht c44
        clear ht hf
        refine ex_aload_n 69 dX7_takesFigureOfYear_68 rfl rfl ?_
        refine ex_aload_n 70 dX7_takesFigureOfYear_69 rfl rfl ?_
        refine q_getI 7 5 73 dX7_takesFigureOfYear_70 rfl fiX7_51 (Or.inl rfl) o1 ?_
        refine ex_bipush 75 dX7_takesFigureOfYear_73 rfl ⟨by decide, by decide⟩ ?_
        refine ex_imul 76 dX7_takesFigureOfYear_75 rfl ?_
        refine ex_iload_n 77 dX7_takesFigureOfYear_76 rfl rfl ?_
        refine ex_bipush 79 dX7_takesFigureOfYear_77 rfl ⟨by decide, by decide⟩ ?_
        refine ex_isub 80 dX7_takesFigureOfYear_79 rfl ?_
        refine ex_iadd 81 dX7_takesFigureOfYear_80 rfl ?_
        refine q_putI 7 5 84 dX7_takesFigureOfYear_81 rfl fiX7_51 ff7_5 rfl o1 (fun h34 e35 => ?_)
        have hyp := hyp h34 e35
        refine ex_aload_n 85 dX7_takesFigureOfYear_84 rfl rfl ?_
        refine ex_dup 86 dX7_takesFigureOfYear_85 rfl rfl ?_
        have f36 := OB.of (KI e35) o1
        refine q_getI 7 9 89 dX7_takesFigureOfYear_86 rfl fiX7_57 (Or.inl rfl) f36 ?_
        refine ex_iconst 90 dX7_takesFigureOfYear_89 rfl ?_
        refine ex_iadd 91 dX7_takesFigureOfYear_90 rfl ?_
        refine q_putI 7 9 94 dX7_takesFigureOfYear_91 rfl fiX7_57 ff7_9 rfl f36 (fun h37 e38 => ?_)
        have hyp := hyp h37 e38
        refine ex_aload_n 95 dX7_takesFigureOfYear_94 rfl rfl ?_
        have f39 := OB.of (KI e38) f36
        refine q_getI 7 9 98 dX7_takesFigureOfYear_95 rfl fiX7_57 (Or.inl rfl) f39 ?_
        refine ex_iconst 99 dX7_takesFigureOfYear_98 rfl ?_
        obtain ⟨o40, hyp⟩ := hyp
        obtain ⟨ht, hf⟩ := hyp
        refine ex_icmp_ne 107 102 dX7_takesFigureOfYear_99 (by decide) rfl o40 ⟨by decide, by decide⟩ (fun c43 => ?_) (fun c43 => ?_)
        · have hyp := ht c43
          clear ht hf
          refine ex_iconst 108 dX7_takesFigureOfYear_107 rfl ?_
          exact ex_iret dX7_takesFigureOfYear_108 (Or.inr ⟨rfl, Or.inr rfl⟩) ⟨_, rfl, hyp⟩
        · have hyp := hf c43
          clear ht hf
          refine ex_aload_n 103 dX7_takesFigureOfYear_102 rfl rfl ?_
          refine ex_iconst 104 dX7_takesFigureOfYear_103 rfl ?_
          refine q_putI 7 7 107 dX7_takesFigureOfYear_104 rfl fiX7_25 ff7_7 rfl f39 (fun h41 e42 => ?_)
          have hyp := hyp h41 e42
          refine ex_iconst 108 dX7_takesFigureOfYear_107 rfl ?_
          exact ex_iret dX7_takesFigureOfYear_108 (Or.inr ⟨rfl, Or.inr rfl⟩) ⟨_, rfl, hyp⟩
      · have hyp := hf c44
        clear ht hf
        refine ex_iconst 67 dX7_takesFigureOfYear_66 rfl ?_
        exact ex_iret dX7_takesFigureOfYear_67 (Or.inr ⟨rfl, Or.inl rfl⟩) ⟨_, rfl, hyp⟩
set_option maxRecDepth 4000 in
theorem tX7_takesBehindYear {P : Int → PH → Prop} (h0 : PH) (a0 : Nat) (x1 : Int) (hyp : rng x1 ∧ (¬ x1 = 59 → ((¬ x1 = 46 → (P 0 h0)) ∧ (x1 = 46 → (OB h0 7 a0 ∧ rng (h0.2.1 a0 2) ∧ (¬ h0.2.1 a0 2 = 0 → (∀ h4 : PH, h4 = px_upI h0 a0 6 0 → (∀ h7 : PH, h7 = px_upI h4 a0 9 0 → (∀ h10 : PH, h10 = px_upI h7 a0 7 4 → (P 1 h10))))) ∧ (h0.2.1 a0 2 = 0 → (P 0 h0)))))) ∧ (x1 = 59 → (OB h0 7 a0 ∧ METv mX7_startEntry [vr a0] h0 (0, 0) (fun h15 => h15.1 = h0.1 → (P 1 h15))))) : METi mX7_takesBehindYear [vr a0, vi x1] h0 P := by
  refine met_of_ex (by decide +kernel) (Nat.le_of_ble_eq_true rfl) ?_
  show EX mX7_takesBehindYear 0 [some (vr a0), some (vi x1)] [] h0 (0, 0) _
  refine ex_iload_n 1 dX7_takesBehindYear_0 rfl rfl ?_
  refine ex_bipush 3 dX7_takesBehindYear_1 rfl ⟨by decide, by decide⟩ ?_
  obtain ⟨o1, hyp⟩ := hyp
  obtain ⟨ht, hf⟩ := hyp
  refine ex_icmp_ne 12 6 dX7_takesBehindYear_3 (by decide) rfl o1 ⟨by decide, by decide⟩ (fun c17 => ?_) (fun c17 => ?_)
  · have hyp := ht c17
    clear ht hf
    refine ex_iload_n 13 dX7_takesBehindYear_12 rfl rfl ?_
    refine ex_bipush 15 dX7_takesBehindYear_13 rfl ⟨by decide, by decide⟩ ?_
    obtain ⟨ht, hf⟩ := hyp
    refine ex_icmp_ne 25 18 dX7_takesBehindYear_15 (by decide) rfl o1 ⟨by decide, by decide⟩ (fun c13 => ?_) (fun c13 => ?_)
    · have hyp := ht c13
      clear ht hf
      refine ex_iconst 26 dX7_takesBehindYear_25 rfl ?_
      exact ex_iret dX7_takesBehindYear_26 (Or.inr ⟨rfl, Or.inl rfl⟩) ⟨_, rfl, hyp⟩
    · have hyp := hf c13
      clear ht hf
      refine ex_aload_n 19 dX7_takesBehindYear_18 rfl rfl ?_
      obtain ⟨o2, hyp⟩ := hyp
      refine q_getI 7 2 22 dX7_takesBehindYear_19 rfl fiX7_60 (Or.inl rfl) o2 ?_
      obtain ⟨o3, hyp⟩ := hyp
      obtain ⟨ht, hf⟩ := hyp
      refine ex_if_ne 27 25 dX7_takesBehindYear_22 (by decide) rfl o3 (fun c12 => ?_) (fun c12 => ?_)
      · have hyp := ht c12
        clear ht hf
        refine ex_aload_n 28 dX7_takesBehindYear_27 rfl rfl ?_
        refine ex_iconst 29 dX7_takesBehindYear_28 rfl ?_
        refine q_putI 7 6 32 dX7_takesBehindYear_29 rfl fiX7_54 ff7_6 rfl o2 (fun h4 e5 => ?_)
        have hyp := hyp h4 e5
        refine ex_aload_n 33 dX7_takesBehindYear_32 rfl rfl ?_
        refine ex_iconst 34 dX7_takesBehindYear_33 rfl ?_
        have f6 := OB.of (KI e5) o2
        refine q_putI 7 9 37 dX7_takesBehindYear_34 rfl fiX7_57 ff7_9 rfl f6 (fun h7 e8 => ?_)
        have hyp := hyp h7 e8
        refine ex_aload_n 38 dX7_takesBehindYear_37 rfl rfl ?_
        refine ex_iconst 39 dX7_takesBehindYear_38 rfl ?_
        have f9 := OB.of (KI e8) f6
        refine q_putI 7 7 42 dX7_takesBehindYear_39 rfl fiX7_25 ff7_7 rfl f9 (fun h10 e11 => ?_)
        have hyp := hyp h10 e11
        refine ex_iconst 43 dX7_takesBehindYear_42 rfl ?_
        exact ex_iret dX7_takesBehindYear_43 (Or.inr ⟨rfl, Or.inr rfl⟩) ⟨_, rfl, hyp⟩
      · have hyp := hf c12
        clear ht hf
        refine ex_iconst 26 dX7_takesBehindYear_25 rfl ?_
        exact ex_iret dX7_takesBehindYear_26 (Or.inr ⟨rfl, Or.inl rfl⟩) ⟨_, rfl, hyp⟩
  · have hyp := hf c17
    clear ht hf
    refine ex_aload_n 7 dX7_takesBehindYear_6 rfl rfl ?_
    obtain ⟨o14, hyp⟩ := hyp
    refine q_callVv [] 10 dX7_takesBehindYear_7 rfl cvX7_22 rfl rfl ⟨Nat.le_of_ble_eq_true rfl, Nat.le_of_ble_eq_true rfl⟩ (Nat.le_of_ble_eq_true rfl) o14 hyp (fun h15 k16 hyp => ?_)
    refine ex_iconst 11 dX7_takesBehindYear_10 rfl ?_
    exact ex_iret dX7_takesBehindYear_11 (Or.inr ⟨rfl, Or.inr rfl⟩) ⟨_, rfl, hyp⟩
set_option maxRecDepth 4000 in
theorem tX7_takesInAge {P : Int → PH → Prop} (h0 : PH) (a0 : Nat) (x1 : Int) (hyp : rng x1 ∧ (¬ x1 = 59 → ((x1 < 48 → (P 0 h0)) ∧ (48 ≤ x1 → ((57 < x1 → (P 0 h0)) ∧ (x1 ≤ 57 → (OB h0 7 a0 ∧ METi mX7_ageGoesOnWith [vr a0, vi (x1 - 48)] h0 (fun y5 h3 => h3.1 = h0.1 → (rng y5 ∧ (¬ y5 = 0 → (∀ h8 : PH, h8 = px_upI h3 a0 6 (((h3.2.1 a0 6) * 10) + (x1 - 48)) → (∀ h11 : PH, h11 = px_upI h8 a0 9 ((h8.2.1 a0 9) + 1) → (P 1 h11)))) ∧ (y5 = 0 → (P 0 h3)))))))))) ∧ (x1 = 59 → (OB h0 7 a0 ∧ METi mX7_ageIsWhole [vr a0] h0 (fun y19 h17 => h17.1 = h0.1 → (rng y19 ∧ (¬ y19 = 0 → (METv mX7_startEntry [vr a0] h17 (0, 0) (fun h22 => h22.1 = h17.1 → (P 1 h22)))) ∧ (y19 = 0 → (P 0 h17))))))) : METi mX7_takesInAge [vr a0, vi x1] h0 P := by
  refine met_of_ex (by decide +kernel) (Nat.le_of_ble_eq_true rfl) ?_
  show EX mX7_takesInAge 0 [some (vr a0), some (vi x1)] [] h0 (0, 0) _
  refine ex_iload_n 1 dX7_takesInAge_0 rfl rfl ?_
  refine ex_bipush 3 dX7_takesInAge_1 rfl ⟨by decide, by decide⟩ ?_
  obtain ⟨o1, hyp⟩ := hyp
  obtain ⟨ht, hf⟩ := hyp
  refine ex_icmp_ne 21 6 dX7_takesInAge_3 (by decide) rfl o1 ⟨by decide, by decide⟩ (fun c25 => ?_) (fun c25 => ?_)
  · have hyp := ht c25
    clear ht hf
    refine ex_iload_n 22 dX7_takesInAge_21 rfl rfl ?_
    refine ex_bipush 24 dX7_takesInAge_22 rfl ⟨by decide, by decide⟩ ?_
    obtain ⟨ht, hf⟩ := hyp
    refine ex_icmp_lt 44 27 dX7_takesInAge_24 (by decide) rfl o1 ⟨by decide, by decide⟩ (fun c15 => ?_) (fun c15 => ?_)
    · have hyp := ht c15
      clear ht hf
      refine ex_iconst 45 dX7_takesInAge_44 rfl ?_
      exact ex_iret dX7_takesInAge_45 (Or.inr ⟨rfl, Or.inl rfl⟩) ⟨_, rfl, hyp⟩
    · have hyp := hf c15
      clear ht hf
      refine ex_iload_n 28 dX7_takesInAge_27 rfl rfl ?_
      refine ex_bipush 30 dX7_takesInAge_28 rfl ⟨by decide, by decide⟩ ?_
      obtain ⟨ht, hf⟩ := hyp
      refine ex_icmp_gt 44 33 dX7_takesInAge_30 (by decide) rfl o1 ⟨by decide, by decide⟩ (fun c14 => ?_) (fun c14 => ?_)
      · have hyp := ht c14
        clear ht hf
        refine ex_iconst 45 dX7_takesInAge_44 rfl ?_
        exact ex_iret dX7_takesInAge_45 (Or.inr ⟨rfl, Or.inl rfl⟩) ⟨_, rfl, hyp⟩
      · have hyp := hf c14
        clear ht hf
        refine ex_aload_n 34 dX7_takesInAge_33 rfl rfl ?_
        refine ex_iload_n 35 dX7_takesInAge_34 rfl rfl ?_
        refine ex_bipush 37 dX7_takesInAge_35 rfl ⟨by decide, by decide⟩ ?_
        refine ex_isub 38 dX7_takesInAge_37 rfl ?_
        obtain ⟨o2, hyp⟩ := hyp
        refine q_callVi [vi (x1 - 48)] 41 dX7_takesInAge_38 rfl cvX7_66 rfl rfl ⟨Nat.le_of_ble_eq_true rfl, Nat.le_of_ble_eq_true rfl⟩ (Nat.le_of_ble_eq_true rfl) o2 hyp (fun y5 h3 k4 hyp => ?_)
        obtain ⟨o6, hyp⟩ := hyp
        obtain ⟨ht, hf⟩ := hyp
        refine ex_if_ne 46 44 dX7_takesInAge_41 (by decide) rfl o6 (fun c13 => ?_) (fun c13 => ?_)
        · have hyp := ht c13
          clear ht hf
          refine ex_aload_n 47 dX7_takesInAge_46 rfl rfl ?_
          refine ex_aload_n 48 dX7_takesInAge_47 rfl rfl ?_
          have f7 := OB.of k4 o2
          refine q_getI 7 6 51 dX7_takesInAge_48 rfl fiX7_54 (Or.inl rfl) f7 ?_
          refine ex_bipush 53 dX7_takesInAge_51 rfl ⟨by decide, by decide⟩ ?_
          refine ex_imul 54 dX7_takesInAge_53 rfl ?_
          refine ex_iload_n 55 dX7_takesInAge_54 rfl rfl ?_
          refine ex_bipush 57 dX7_takesInAge_55 rfl ⟨by decide, by decide⟩ ?_
          refine ex_isub 58 dX7_takesInAge_57 rfl ?_
          refine ex_iadd 59 dX7_takesInAge_58 rfl ?_
          refine q_putI 7 6 62 dX7_takesInAge_59 rfl fiX7_54 ff7_6 rfl f7 (fun h8 e9 => ?_)
          have hyp := hyp h8 e9
          refine ex_aload_n 63 dX7_takesInAge_62 rfl rfl ?_
          refine ex_dup 64 dX7_takesInAge_63 rfl rfl ?_
          have f10 := OB.of (KI e9) f7
          refine q_getI 7 9 67 dX7_takesInAge_64 rfl fiX7_57 (Or.inl rfl) f10 ?_
          refine ex_iconst 68 dX7_takesInAge_67 rfl ?_
          refine ex_iadd 69 dX7_takesInAge_68 rfl ?_
          refine q_putI 7 9 72 dX7_takesInAge_69 rfl fiX7_57 ff7_9 rfl f10 (fun h11 e12 => ?_)
          have hyp := hyp h11 e12
          refine ex_iconst 73 dX7_takesInAge_72 rfl ?_
          exact ex_iret dX7_takesInAge_73 (Or.inr ⟨rfl, Or.inr rfl⟩) ⟨_, rfl, hyp⟩
        · have hyp := hf c13
          clear ht hf
          refine ex_iconst 45 dX7_takesInAge_44 rfl ?_
          exact ex_iret dX7_takesInAge_45 (Or.inr ⟨rfl, Or.inl rfl⟩) ⟨_, rfl, hyp⟩
  · have hyp := hf c25
    clear ht hf
    refine ex_aload_n 7 dX7_takesInAge_6 rfl rfl ?_
    obtain ⟨o16, hyp⟩ := hyp
    refine q_callVi [] 10 dX7_takesInAge_7 rfl cvX7_44 rfl rfl ⟨Nat.le_of_ble_eq_true rfl, Nat.le_of_ble_eq_true rfl⟩ (Nat.le_of_ble_eq_true rfl) o16 hyp (fun y19 h17 k18 hyp => ?_)
    obtain ⟨o20, hyp⟩ := hyp
    obtain ⟨ht, hf⟩ := hyp
    refine ex_if_ne 15 13 dX7_takesInAge_10 (by decide) rfl o20 (fun c24 => ?_) (fun c24 => ?_)
    · have hyp := ht c24
      clear ht hf
      refine ex_aload_n 16 dX7_takesInAge_15 rfl rfl ?_
      have f21 := OB.of k18 o16
      refine q_callVv [] 19 dX7_takesInAge_16 rfl cvX7_22 rfl rfl ⟨Nat.le_of_ble_eq_true rfl, Nat.le_of_ble_eq_true rfl⟩ (Nat.le_of_ble_eq_true rfl) f21 hyp (fun h22 k23 hyp => ?_)
      refine ex_iconst 20 dX7_takesInAge_19 rfl ?_
      exact ex_iret dX7_takesInAge_20 (Or.inr ⟨rfl, Or.inr rfl⟩) ⟨_, rfl, hyp⟩
    · have hyp := hf c24
      clear ht hf
      refine ex_iconst 14 dX7_takesInAge_13 rfl ?_
      exact ex_iret dX7_takesInAge_14 (Or.inr ⟨rfl, Or.inl rfl⟩) ⟨_, rfl, hyp⟩
set_option maxRecDepth 4000 in
theorem tX7_ageGoesOnWith {P : Int → PH → Prop} (h0 : PH) (a0 : Nat) (x1 : Int) (hyp : OB h0 7 a0 ∧ rng (h0.2.1 a0 9) ∧ (¬ h0.2.1 a0 9 = 0 → ((¬ h0.2.1 a0 9 = 1 → (P 0 h0)) ∧ (h0.2.1 a0 9 = 1 → (rng (h0.2.1 a0 6) ∧ (h0.2.1 a0 6 ≤ 0 → (P 0 h0)) ∧ (0 < h0.2.1 a0 6 → (METi mX9_mayHaveAge [vi (h0.2.1 a0 2), vi (((h0.2.1 a0 6) * 10) + x1)] h0 (fun y6 h4 => h4.1 = h0.1 → (rng y6 ∧ (y6 = 0 → (P 0 h4)) ∧ (¬ y6 = 0 → (P 1 h4)))))))))) ∧ (h0.2.1 a0 9 = 0 → (rng x1 ∧ (0 < x1 → (P 1 h0)) ∧ (x1 ≤ 0 → (METi mX9_leastAge [vi (h0.2.1 a0 2)] h0 (fun y14 h12 => h12.1 = h0.1 → (rng y14 ∧ (¬ y14 = 0 → (P 0 h12)) ∧ (y14 = 0 → (P 1 h12))))))))) : METi mX7_ageGoesOnWith [vr a0, vi x1] h0 P := by
  refine met_of_ex (by decide +kernel) (Nat.le_of_ble_eq_true rfl) ?_
  show EX mX7_ageGoesOnWith 0 [some (vr a0), some (vi x1)] [] h0 (0, 0) _
  refine ex_aload_n 1 dX7_ageGoesOnWith_0 rfl rfl ?_
  obtain ⟨o1, hyp⟩ := hyp
  refine q_getI 7 9 4 dX7_ageGoesOnWith_1 rfl fiX7_57 (Or.inl rfl) o1 ?_
  obtain ⟨o2, hyp⟩ := hyp
  obtain ⟨ht, hf⟩ := hyp
  refine ex_if_ne 27 7 dX7_ageGoesOnWith_4 (by decide) rfl o2 (fun c18 => ?_) (fun c18 => ?_)
  · have hyp := ht c18
    clear ht hf
    refine ex_aload_n 28 dX7_ageGoesOnWith_27 rfl rfl ?_
    refine q_getI 7 9 31 dX7_ageGoesOnWith_28 rfl fiX7_57 (Or.inl rfl) o1 ?_
    refine ex_iconst 32 dX7_ageGoesOnWith_31 rfl ?_
    obtain ⟨ht, hf⟩ := hyp
    refine ex_icmp_ne 65 35 dX7_ageGoesOnWith_32 (by decide) rfl o2 ⟨by decide, by decide⟩ (fun c10 => ?_) (fun c10 => ?_)
    · have hyp := ht c10
      clear ht hf
      refine ex_iconst 66 dX7_ageGoesOnWith_65 rfl ?_
      exact ex_iret dX7_ageGoesOnWith_66 (Or.inr ⟨rfl, Or.inl rfl⟩) ⟨_, rfl, hyp⟩
    · have hyp := hf c10
      clear ht hf
      refine ex_aload_n 36 dX7_ageGoesOnWith_35 rfl rfl ?_
      refine q_getI 7 6 39 dX7_ageGoesOnWith_36 rfl fiX7_54 (Or.inl rfl) o1 ?_
      obtain ⟨o3, hyp⟩ := hyp
      obtain ⟨ht, hf⟩ := hyp
      refine ex_if_le 65 42 dX7_ageGoesOnWith_39 (by decide) rfl o3 (fun c9 => ?_) (fun c9 => ?_)
      · have hyp := ht c9
        clear ht hf
        refine ex_iconst 66 dX7_ageGoesOnWith_65 rfl ?_
        exact ex_iret dX7_ageGoesOnWith_66 (Or.inr ⟨rfl, Or.inl rfl⟩) ⟨_, rfl, hyp⟩
      · have hyp := hf c9
        clear ht hf
        refine ex_aload_n 43 dX7_ageGoesOnWith_42 rfl rfl ?_
        refine q_getI 7 2 46 dX7_ageGoesOnWith_43 rfl fiX7_60 (Or.inl rfl) o1 ?_
        refine ex_aload_n 47 dX7_ageGoesOnWith_46 rfl rfl ?_
        refine q_getI 7 6 50 dX7_ageGoesOnWith_47 rfl fiX7_54 (Or.inl rfl) o1 ?_
        refine ex_bipush 52 dX7_ageGoesOnWith_50 rfl ⟨by decide, by decide⟩ ?_
        refine ex_imul 53 dX7_ageGoesOnWith_52 rfl ?_
        refine ex_iload_n 54 dX7_ageGoesOnWith_53 rfl rfl ?_
        refine ex_iadd 55 dX7_ageGoesOnWith_54 rfl ?_
        refine q_callNi [vi (h0.2.1 a0 2), vi (((h0.2.1 a0 6) * 10) + x1)] 58 dX7_ageGoesOnWith_55 rfl cvX7_73 rfl rfl ⟨Nat.le_of_ble_eq_true rfl, Nat.le_of_ble_eq_true rfl⟩ (Nat.le_of_ble_eq_true rfl) hyp (fun y6 h4 k5 hyp => ?_)
        obtain ⟨o7, hyp⟩ := hyp
        obtain ⟨ht, hf⟩ := hyp
        refine ex_if_eq 65 61 dX7_ageGoesOnWith_58 (by decide) rfl o7 (fun c8 => ?_) (fun c8 => ?_)
        · have hyp := ht c8
          clear ht hf
          refine ex_iconst 66 dX7_ageGoesOnWith_65 rfl ?_
          exact ex_iret dX7_ageGoesOnWith_66 (Or.inr ⟨rfl, Or.inl rfl⟩) ⟨_, rfl, hyp⟩
        · have hyp := hf c8
          clear ht hf
          refine ex_iconst 62 dX7_ageGoesOnWith_61 rfl ?_
          refine ex_goto 66 dX7_ageGoesOnWith_62 (by decide) ?_
          exact ex_iret dX7_ageGoesOnWith_66 (Or.inr ⟨rfl, Or.inr rfl⟩) ⟨_, rfl, hyp⟩
  · have hyp := hf c18
    clear ht hf
    refine ex_iload_n 8 dX7_ageGoesOnWith_7 rfl rfl ?_
    obtain ⟨o11, hyp⟩ := hyp
    obtain ⟨ht, hf⟩ := hyp
    refine ex_if_gt 21 11 dX7_ageGoesOnWith_8 (by decide) rfl o11 (fun c17 => ?_) (fun c17 => ?_)
    · have hyp := ht c17
      clear ht hf
      refine ex_iconst 22 dX7_ageGoesOnWith_21 rfl ?_
      refine ex_goto 26 dX7_ageGoesOnWith_22 (by decide) ?_
      exact ex_iret dX7_ageGoesOnWith_26 (Or.inr ⟨rfl, Or.inr rfl⟩) ⟨_, rfl, hyp⟩
    · have hyp := hf c17
      clear ht hf
      refine ex_aload_n 12 dX7_ageGoesOnWith_11 rfl rfl ?_
      refine q_getI 7 2 15 dX7_ageGoesOnWith_12 rfl fiX7_60 (Or.inl rfl) o1 ?_
      refine q_callNi [vi (h0.2.1 a0 2)] 18 dX7_ageGoesOnWith_15 rfl cvX7_69 rfl rfl ⟨Nat.le_of_ble_eq_true rfl, Nat.le_of_ble_eq_true rfl⟩ (Nat.le_of_ble_eq_true rfl) hyp (fun y14 h12 k13 hyp => ?_)
      obtain ⟨o15, hyp⟩ := hyp
      obtain ⟨ht, hf⟩ := hyp
      refine ex_if_ne 25 21 dX7_ageGoesOnWith_18 (by decide) rfl o15 (fun c16 => ?_) (fun c16 => ?_)
      · have hyp := ht c16
        clear ht hf
        refine ex_iconst 26 dX7_ageGoesOnWith_25 rfl ?_
        exact ex_iret dX7_ageGoesOnWith_26 (Or.inr ⟨rfl, Or.inl rfl⟩) ⟨_, rfl, hyp⟩
      · have hyp := hf c16
        clear ht hf
        refine ex_iconst 22 dX7_ageGoesOnWith_21 rfl ?_
        refine ex_goto 26 dX7_ageGoesOnWith_22 (by decide) ?_
        exact ex_iret dX7_ageGoesOnWith_26 (Or.inr ⟨rfl, Or.inr rfl⟩) ⟨_, rfl, hyp⟩
set_option maxRecDepth 4000 in
theorem tX7_ageIsWhole {P : Int → PH → Prop} (h0 : PH) (a0 : Nat) (hyp : OB h0 7 a0 ∧ rng (h0.2.1 a0 9) ∧ (h0.2.1 a0 9 ≤ 0 → (P 0 h0)) ∧ (0 < h0.2.1 a0 9 → (METi mX9_mayHaveAge [vi (h0.2.1 a0 2), vi (h0.2.1 a0 6)] h0 (fun y5 h3 => h3.1 = h0.1 → (rng y5 ∧ (y5 = 0 → (P 0 h3)) ∧ (¬ y5 = 0 → (P 1 h3))))))) : METi mX7_ageIsWhole [vr a0] h0 P := by
  refine met_of_ex (by decide +kernel) (Nat.le_of_ble_eq_true rfl) ?_
  show EX mX7_ageIsWhole 0 [some (vr a0)] [] h0 (0, 0) _
  refine ex_aload_n 1 dX7_ageIsWhole_0 rfl rfl ?_
  obtain ⟨o1, hyp⟩ := hyp
  refine q_getI 7 9 4 dX7_ageIsWhole_1 rfl fiX7_57 (Or.inl rfl) o1 ?_
  obtain ⟨o2, hyp⟩ := hyp
  obtain ⟨ht, hf⟩ := hyp
  refine ex_if_le 25 7 dX7_ageIsWhole_4 (by decide) rfl o2 (fun c8 => ?_) (fun c8 => ?_)
  · have hyp := ht c8
    clear ht hf
    refine ex_iconst 26 dX7_ageIsWhole_25 rfl ?_
    exact ex_iret dX7_ageIsWhole_26 (Or.inr ⟨rfl, Or.inl rfl⟩) ⟨_, rfl, hyp⟩
  · have hyp := hf c8
    clear ht hf
    refine ex_aload_n 8 dX7_ageIsWhole_7 rfl rfl ?_
    refine q_getI 7 2 11 dX7_ageIsWhole_8 rfl fiX7_60 (Or.inl rfl) o1 ?_
    refine ex_aload_n 12 dX7_ageIsWhole_11 rfl rfl ?_
    refine q_getI 7 6 15 dX7_ageIsWhole_12 rfl fiX7_54 (Or.inl rfl) o1 ?_
    refine q_callNi [vi (h0.2.1 a0 2), vi (h0.2.1 a0 6)] 18 dX7_ageIsWhole_15 rfl cvX7_73 rfl rfl ⟨Nat.le_of_ble_eq_true rfl, Nat.le_of_ble_eq_true rfl⟩ (Nat.le_of_ble_eq_true rfl) hyp (fun y5 h3 k4 hyp => ?_)
    obtain ⟨o6, hyp⟩ := hyp
    obtain ⟨ht, hf⟩ := hyp
    refine ex_if_eq 25 21 dX7_ageIsWhole_18 (by decide) rfl o6 (fun c7 => ?_) (fun c7 => ?_)
    · have hyp := ht c7
      clear ht hf
      refine ex_iconst 26 dX7_ageIsWhole_25 rfl ?_
      exact ex_iret dX7_ageIsWhole_26 (Or.inr ⟨rfl, Or.inl rfl⟩) ⟨_, rfl, hyp⟩
    · have hyp := hf c7
      clear ht hf
      refine ex_iconst 22 dX7_ageIsWhole_21 rfl ?_
      refine ex_goto 26 dX7_ageIsWhole_22 (by decide) ?_
      exact ex_iret dX7_ageIsWhole_26 (Or.inr ⟨rfl, Or.inr rfl⟩) ⟨_, rfl, hyp⟩
set_option maxRecDepth 4000 in
theorem tX8_has {P : Int → PH → Prop} (h0 : PH) (a0 : Nat) (x1 : Int) (hyp : rng x1 ∧ (x1 < 0 → (P 0 h0)) ∧ (0 ≤ x1 → (OB h0 8 a0 ∧ rng (h0.2.1 a0 2) ∧ (h0.2.1 a0 2 ≤ x1 → (P 0 h0)) ∧ (x1 < h0.2.1 a0 2 → (P 1 h0))))) : METi mX8_has [vr a0, vi x1] h0 P := by
  refine met_of_ex (by decide +kernel) (Nat.le_of_ble_eq_true rfl) ?_
  show EX mX8_has 0 [some (vr a0), some (vi x1)] [] h0 (0, 0) _
  refine ex_iload_n 1 dX8_has_0 rfl rfl ?_
  obtain ⟨o1, hyp⟩ := hyp
  obtain ⟨ht, hf⟩ := hyp
  refine ex_if_lt 16 4 dX8_has_1 (by decide) rfl o1 (fun c5 => ?_) (fun c5 => ?_)
  · have hyp := ht c5
    clear ht hf
    refine ex_iconst 17 dX8_has_16 rfl ?_
    exact ex_iret dX8_has_17 (Or.inr ⟨rfl, Or.inl rfl⟩) ⟨_, rfl, hyp⟩
  · have hyp := hf c5
    clear ht hf
    refine ex_iload_n 5 dX8_has_4 rfl rfl ?_
    refine ex_aload_n 6 dX8_has_5 rfl rfl ?_
    obtain ⟨o2, hyp⟩ := hyp
    refine q_getI 8 2 9 dX8_has_6 rfl fiX8_24 (Or.inl rfl) o2 ?_
    obtain ⟨o3, hyp⟩ := hyp
    obtain ⟨ht, hf⟩ := hyp
    refine ex_icmp_ge 16 12 dX8_has_9 (by decide) rfl o1 o3 (fun c4 => ?_) (fun c4 => ?_)
    · have hyp := ht c4
      clear ht hf
      refine ex_iconst 17 dX8_has_16 rfl ?_
      exact ex_iret dX8_has_17 (Or.inr ⟨rfl, Or.inl rfl⟩) ⟨_, rfl, hyp⟩
    · have hyp := hf c4
      clear ht hf
      refine ex_iconst 13 dX8_has_12 rfl ?_
      refine ex_goto 17 dX8_has_13 (by decide) ?_
      exact ex_iret dX8_has_17 (Or.inr ⟨rfl, Or.inr rfl⟩) ⟨_, rfl, hyp⟩
set_option maxRecDepth 4000 in
theorem tX8_hasRoomFor {P : Int → PH → Prop} (h0 : PH) (a0 : Nat) (a1 : Nat) (hyp : OB h0 8 a0 ∧ OB h0 7 a1 ∧ rng ((h0.2.1 a0 2) + (h0.2.1 a1 1)) ∧ (18 < (h0.2.1 a0 2) + (h0.2.1 a1 1) → (EXi mX8_hasRoomFor 22 [some (vr a0), some (vr a1), some (vi 0), some (vi 0)] [] h0 P)) ∧ ((h0.2.1 a0 2) + (h0.2.1 a1 1) ≤ 18 → (EXi mX8_hasRoomFor 22 [some (vr a0), some (vr a1), some (vi 1), some (vi 0)] [] h0 P))) : METi mX8_hasRoomFor [vr a0, vr a1] h0 P := by
  refine met_of_ex (by decide +kernel) (Nat.le_of_ble_eq_true rfl) ?_
  show EX mX8_hasRoomFor 0 [some (vr a0), some (vr a1), none, none] [] h0 (0, 0) _
  refine ex_aload_n 1 dX8_hasRoomFor_0 rfl rfl ?_
  obtain ⟨o1, hyp⟩ := hyp
  refine q_getI 8 2 4 dX8_hasRoomFor_1 rfl fiX8_24 (Or.inl rfl) o1 ?_
  refine ex_aload_n 5 dX8_hasRoomFor_4 rfl rfl ?_
  obtain ⟨o2, hyp⟩ := hyp
  refine q_getI 7 1 8 dX8_hasRoomFor_5 rfl fiX8_28 (Or.inl rfl) o2 ?_
  refine ex_iadd 9 dX8_hasRoomFor_8 rfl ?_
  refine ex_bipush 11 dX8_hasRoomFor_9 rfl ⟨by decide, by decide⟩ ?_
  obtain ⟨o3, hyp⟩ := hyp
  obtain ⟨ht, hf⟩ := hyp
  refine ex_icmp_gt 18 14 dX8_hasRoomFor_11 (by decide) rfl o3 ⟨by decide, by decide⟩ (fun c4 => ?_) (fun c4 => ?_)
  · have hyp := ht c4
    clear ht hf
    refine ex_iconst 19 dX8_hasRoomFor_18 rfl ?_
    refine q_istore_n [some (vr a0), some (vr a1), some (vi 0), none] 20 dX8_hasRoomFor_19 rfl (Nat.le_of_ble_eq_true rfl) rfl rfl ?_
    refine ex_iconst 21 dX8_hasRoomFor_20 rfl ?_
    refine q_istore_n [some (vr a0), some (vr a1), some (vi 0), some (vi 0)] 22 dX8_hasRoomFor_21 rfl (Nat.le_of_ble_eq_true rfl) rfl rfl ?_
    exact hyp
  · have hyp := hf c4
    clear ht hf
    refine ex_iconst 15 dX8_hasRoomFor_14 rfl ?_
    refine ex_goto 19 dX8_hasRoomFor_15 (by decide) ?_
    refine q_istore_n [some (vr a0), some (vr a1), some (vi 1), none] 20 dX8_hasRoomFor_19 rfl (Nat.le_of_ble_eq_true rfl) rfl rfl ?_
    refine ex_iconst 21 dX8_hasRoomFor_20 rfl ?_
    refine q_istore_n [some (vr a0), some (vr a1), some (vi 1), some (vi 0)] 22 dX8_hasRoomFor_21 rfl (Nat.le_of_ble_eq_true rfl) rfl rfl ?_
    exact hyp
set_option maxRecDepth 4000 in
theorem tX8_hasRoomFor_22 {P : Int → PH → Prop} (h0 : PH) (a0 : Nat) (a1 : Nat) (x2 : Int) (x3 : Int) (hyp : rng x3 ∧ (3 ≤ x3 → ((x2 = 0 ∨ x2 = 1) ∧ P x2 h0)) ∧ (x3 < 3 → (rng x2 ∧ (x2 = 0 → (EXi mX8_hasRoomFor 22 [some (vr a0), some (vr a1), some (vi 0), some (vi (x3 + 1))] [] h0 P)) ∧ (¬ x2 = 0 → (OB h0 8 a0 ∧ ∃ r4 : Nat, h0.2.2 a0 1 = some r4 ∧ AI h0 20 r4 x3 ∧ OB h0 7 a1 ∧ ∃ r8 : Nat, h0.2.2 a1 0 = some r8 ∧ AI h0 20 r8 x3 ∧ rng ((h0.2.1 r4 (x3).toNat) + (h0.2.1 r8 (x3).toNat)) ∧ (7 < (h0.2.1 r4 (x3).toNat) + (h0.2.1 r8 (x3).toNat) → (EXi mX8_hasRoomFor 22 [some (vr a0), some (vr a1), some (vi 0), some (vi (x3 + 1))] [] h0 P)) ∧ ((h0.2.1 r4 (x3).toNat) + (h0.2.1 r8 (x3).toNat) ≤ 7 → (EXi mX8_hasRoomFor 22 [some (vr a0), some (vr a1), some (vi 1), some (vi (x3 + 1))] [] h0 P))))))) : EXi mX8_hasRoomFor 22 [some (vr a0), some (vr a1), some (vi x2), some (vi x3)] [] h0 P := by
  refine ex_iload_n 23 dX8_hasRoomFor_22 rfl rfl ?_
  refine ex_iconst 24 dX8_hasRoomFor_23 rfl ?_
  obtain ⟨o1, hyp⟩ := hyp
  obtain ⟨ht, hf⟩ := hyp
  refine ex_icmp_ge 61 27 dX8_hasRoomFor_24 (by decide) rfl o1 ⟨by decide, by decide⟩ (fun c14 => ?_) (fun c14 => ?_)
  · have hyp := ht c14
    clear ht hf
    refine ex_iload_n 62 dX8_hasRoomFor_61 rfl rfl ?_
    exact ex_iret dX8_hasRoomFor_62 (Or.inr ⟨rfl, hyp.1⟩) ⟨_, rfl, hyp.2⟩
  · have hyp := hf c14
    clear ht hf
    refine ex_iload_n 28 dX8_hasRoomFor_27 rfl rfl ?_
    obtain ⟨o2, hyp⟩ := hyp
    obtain ⟨ht, hf⟩ := hyp
    refine ex_if_eq 53 31 dX8_hasRoomFor_28 (by decide) rfl o2 (fun c13 => ?_) (fun c13 => ?_)
    · have hyp := ht c13
      clear ht hf
      refine ex_iconst 54 dX8_hasRoomFor_53 rfl ?_
      refine q_istore_n [some (vr a0), some (vr a1), some (vi 0), some (vi x3)] 55 dX8_hasRoomFor_54 rfl (Nat.le_of_ble_eq_true rfl) rfl rfl ?_
      refine q_iinc [some (vr a0), some (vr a1), some (vi 0), some (vi (x3 + 1))] 58 dX8_hasRoomFor_55 rfl rfl (Nat.le_of_ble_eq_true rfl) rfl rfl ?_
      refine ex_goto 22 dX8_hasRoomFor_58 (by decide) ?_
      exact hyp
    · have hyp := hf c13
      clear ht hf
      refine ex_aload_n 32 dX8_hasRoomFor_31 rfl rfl ?_
      obtain ⟨o3, hyp⟩ := hyp
      obtain ⟨r4, f5, hyp⟩ := hyp
      refine q_getR 8 1 35 dX8_hasRoomFor_32 rfl fiX8_17 rfl o3 f5 ?_
      refine ex_iload_n 36 dX8_hasRoomFor_35 rfl rfl ?_
      obtain ⟨o6, hyp⟩ := hyp
      refine ex_iald 37 dX8_hasRoomFor_36 rfl o6 ?_
      refine ex_aload_n 38 dX8_hasRoomFor_37 rfl rfl ?_
      obtain ⟨o7, hyp⟩ := hyp
      obtain ⟨r8, f9, hyp⟩ := hyp
      refine q_getR 7 0 41 dX8_hasRoomFor_38 rfl fiX8_33 rfl o7 f9 ?_
      refine ex_iload_n 42 dX8_hasRoomFor_41 rfl rfl ?_
      obtain ⟨o10, hyp⟩ := hyp
      refine ex_iald 43 dX8_hasRoomFor_42 rfl o10 ?_
      refine ex_iadd 44 dX8_hasRoomFor_43 rfl ?_
      refine ex_bipush 46 dX8_hasRoomFor_44 rfl ⟨by decide, by decide⟩ ?_
      obtain ⟨o11, hyp⟩ := hyp
      obtain ⟨ht, hf⟩ := hyp
      refine ex_icmp_gt 53 49 dX8_hasRoomFor_46 (by decide) rfl o11 ⟨by decide, by decide⟩ (fun c12 => ?_) (fun c12 => ?_)
      · have hyp := ht c12
        clear ht hf
        refine ex_iconst 54 dX8_hasRoomFor_53 rfl ?_
        refine q_istore_n [some (vr a0), some (vr a1), some (vi 0), some (vi x3)] 55 dX8_hasRoomFor_54 rfl (Nat.le_of_ble_eq_true rfl) rfl rfl ?_
        refine q_iinc [some (vr a0), some (vr a1), some (vi 0), some (vi (x3 + 1))] 58 dX8_hasRoomFor_55 rfl rfl (Nat.le_of_ble_eq_true rfl) rfl rfl ?_
        refine ex_goto 22 dX8_hasRoomFor_58 (by decide) ?_
        exact hyp
      · have hyp := hf c12
        clear ht hf
        refine ex_iconst 50 dX8_hasRoomFor_49 rfl ?_
        refine ex_goto 54 dX8_hasRoomFor_50 (by decide) ?_
        refine q_istore_n [some (vr a0), some (vr a1), some (vi 1), some (vi x3)] 55 dX8_hasRoomFor_54 rfl (Nat.le_of_ble_eq_true rfl) rfl rfl ?_
        refine q_iinc [some (vr a0), some (vr a1), some (vi 1), some (vi (x3 + 1))] 58 dX8_hasRoomFor_55 rfl rfl (Nat.le_of_ble_eq_true rfl) rfl rfl ?_
        refine ex_goto 22 dX8_hasRoomFor_58 (by decide) ?_
        exact hyp
set_option maxRecDepth 4000 in
theorem tX8_add {P : PH → Prop} (h0 : PH) (a0 : Nat) (a1 : Nat) (a2 : Nat) (a3 : Nat) (hyp : OB h0 8 a0 ∧ rng (h0.2.1 a0 2) ∧ (h0.2.1 a0 2 < 18 → (∃ r3 : Nat, h0.2.2 a0 0 = some r3 ∧ AI h0 21 r3 (h0.2.1 a0 2) ∧ ∃ r6 : Nat, h0.2.2 r3 (h0.2.1 a0 2).toNat = some r6 ∧ OB h0 0 r6 ∧ METv mX0_read [vr r6, vr a1, vr a2] h0 (0, 0) (fun h9 => h9.1 = h0.1 → (EXv mX8_add 31 [some (vr a0), none, none, some (vr a3), some (vr r6), some (vi 0), none, none] [] h9 (0, 0) P)))) ∧ (18 ≤ h0.2.1 a0 2 → (P h0))) : METv mX8_add [vr a0, vr a1, vr a2, vr a3] h0 (0, 0) P := by
  refine met_of_ex (by decide +kernel) (Nat.le_of_ble_eq_true rfl) ?_
  show EX mX8_add 0 [some (vr a0), some (vr a1), some (vr a2), some (vr a3), none, none, none, none] [] h0 (0, 0) _
  refine ex_aload_n 1 dX8_add_0 rfl rfl ?_
  obtain ⟨o1, hyp⟩ := hyp
  refine q_getI 8 2 4 dX8_add_1 rfl fiX8_24 (Or.inl rfl) o1 ?_
  refine ex_bipush 6 dX8_add_4 rfl ⟨by decide, by decide⟩ ?_
  obtain ⟨o2, hyp⟩ := hyp
  obtain ⟨ht, hf⟩ := hyp
  refine ex_icmp_lt 10 9 dX8_add_6 (by decide) rfl o2 ⟨by decide, by decide⟩ (fun c11 => ?_) (fun c11 => ?_)
  · have hyp := ht c11
    clear ht hf
    refine ex_aload_n 11 dX8_add_10 rfl rfl ?_
    obtain ⟨r3, f4, hyp⟩ := hyp
    refine q_getR 8 0 14 dX8_add_11 rfl fiX8_11 rfl o1 f4 ?_
    refine ex_aload_n 15 dX8_add_14 rfl rfl ?_
    refine q_getI 8 2 18 dX8_add_15 rfl fiX8_24 (Or.inl rfl) o1 ?_
    obtain ⟨o5, hyp⟩ := hyp
    obtain ⟨r6, f7, hyp⟩ := hyp
    refine ex_aald 21 19 dX8_add_18 rfl (by decide) o5 f7 ?_
    refine q_astore [some (vr a0), some (vr a1), some (vr a2), some (vr a3), some (vr r6), none, none, none] 21 dX8_add_19 rfl (Nat.le_of_ble_eq_true rfl) rfl rfl ?_
    refine ex_aload 23 dX8_add_21 rfl rfl ?_
    refine ex_aload_n 24 dX8_add_23 rfl rfl ?_
    refine ex_aload_n 25 dX8_add_24 rfl rfl ?_
    obtain ⟨o8, hyp⟩ := hyp
    refine q_callVv [vr a1, vr a2] 28 dX8_add_25 rfl cvX8_34 rfl rfl ⟨Nat.le_of_ble_eq_true rfl, Nat.le_of_ble_eq_true rfl⟩ (Nat.le_of_ble_eq_true rfl) o8 hyp (fun h9 k10 hyp => ?_)
    refine ex_iconst 29 dX8_add_28 rfl ?_
    refine q_istore [some (vr a0), some (vr a1), some (vr a2), some (vr a3), some (vr r6), some (vi 0), none, none] 31 dX8_add_29 rfl (Nat.le_of_ble_eq_true rfl) rfl rfl ?_
    refine ex_dropL (ls' := [some (vr a0), none, some (vr a2), some (vr a3), some (vr r6), some (vi 0), none, none]) 1 rfl ?_
    refine ex_dropL (ls' := [some (vr a0), none, none, some (vr a3), some (vr r6), some (vi 0), none, none]) 2 rfl ?_
    exact hyp
  · have hyp := hf c11
    clear ht hf
    exact ex_vret dX8_add_9 rfl ⟨rfl, hyp⟩
set_option maxRecDepth 4000 in
theorem tX8_add_31 {P : PH → Prop} (h0 : PH) (a0 : Nat) (a3 : Nat) (a4 : Nat) (x5 : Int) (hyp : OB h0 8 a0 ∧ rng x5 ∧ rng (h0.2.1 a0 2) ∧ (h0.2.1 a0 2 ≤ x5 → (∃ r4 : Nat, h0.2.2 a0 1 = some r4 ∧ OB h0 0 a4 ∧ AI h0 20 r4 (h0.2.1 a4 4) ∧ ∀ h8 : PH, h8 = px_upI h0 r4 (h0.2.1 a4 4).toNat ((h0.2.1 r4 (h0.2.1 a4 4).toNat) + 1) → (∀ h11 : PH, h11 = px_upI h8 a0 2 ((h8.2.1 a0 2) + 1) → (P h11)))) ∧ (x5 < h0.2.1 a0 2 → (∃ r13 : Nat, h0.2.2 a0 0 = some r13 ∧ AI h0 21 r13 x5 ∧ ∃ r16 : Nat, h0.2.2 r13 (x5).toNat = some r16 ∧ OB h0 4 a3 ∧ METi mX4_distance [vr a3, vr a4, vr r16] h0 (fun y21 h19 => h19.1 = h0.1 → (OB h19 0 a4 ∧ ∃ r23 : Nat, h19.2.2 a4 2 = some r23 ∧ OB h19 0 r16 ∧ AI h19 20 r23 (h19.2.1 r16 0) ∧ ∀ h27 : PH, h27 = px_upI h19 r23 (h19.2.1 r16 0).toNat y21 → (∃ r30 : Nat, h27.2.2 r16 2 = some r30 ∧ AI h27 20 r30 (h27.2.1 a4 0) ∧ ∀ h34 : PH, h34 = px_upI h27 r30 (h27.2.1 a4 0).toNat y21 → (EXv mX8_add 31 [some (vr a0), none, none, some (vr a3), some (vr a4), some (vi (x5 + 1)), none, none] [] h34 (0, 0) P))))))) : EXv mX8_add 31 [some (vr a0), none, none, some (vr a3), some (vr a4), some (vi x5), none, none] [] h0 (0, 0) P := by
  refine ex_iload 33 dX8_add_31 rfl rfl ?_
  refine ex_aload_n 34 dX8_add_33 rfl rfl ?_
  obtain ⟨o1, hyp⟩ := hyp
  refine q_getI 8 2 37 dX8_add_34 rfl fiX8_24 (Or.inl rfl) o1 ?_
  obtain ⟨o2, hyp⟩ := hyp
  obtain ⟨o3, hyp⟩ := hyp
  obtain ⟨ht, hf⟩ := hyp
  refine ex_icmp_ge 91 40 dX8_add_37 (by decide) rfl o2 o3 (fun c36 => ?_) (fun c36 => ?_)
  · have hyp := ht c36
    clear ht hf
    refine ex_aload_n 92 dX8_add_91 rfl rfl ?_
    obtain ⟨r4, f5, hyp⟩ := hyp
    refine q_getR 8 1 95 dX8_add_92 rfl fiX8_17 rfl o1 f5 ?_
    refine ex_aload 97 dX8_add_95 rfl rfl ?_
    obtain ⟨o6, hyp⟩ := hyp
    refine q_getI 0 4 100 dX8_add_97 rfl fiX8_50 (Or.inl rfl) o6 ?_
    refine ex_dup2 101 dX8_add_100 rfl rfl rfl ?_
    obtain ⟨o7, hyp⟩ := hyp
    refine ex_iald 102 dX8_add_101 rfl o7 ?_
    refine ex_iconst 103 dX8_add_102 rfl ?_
    refine ex_iadd 104 dX8_add_103 rfl ?_
    refine ex_iast 105 dX8_add_104 rfl o7 (fun h8 e9 => ?_)
    have hyp := hyp h8 e9
    refine ex_aload_n 106 dX8_add_105 rfl rfl ?_
    refine ex_dup 107 dX8_add_106 rfl rfl ?_
    have f10 := OB.of (KI e9) o1
    refine q_getI 8 2 110 dX8_add_107 rfl fiX8_24 (Or.inl rfl) f10 ?_
    refine ex_iconst 111 dX8_add_110 rfl ?_
    refine ex_iadd 112 dX8_add_111 rfl ?_
    refine q_putI 8 2 115 dX8_add_112 rfl fiX8_24 ff8_2 rfl f10 (fun h11 e12 => ?_)
    have hyp := hyp h11 e12
    exact ex_vret dX8_add_115 rfl ⟨rfl, hyp⟩
  · have hyp := hf c36
    clear ht hf
    refine ex_aload_n 41 dX8_add_40 rfl rfl ?_
    obtain ⟨r13, f14, hyp⟩ := hyp
    refine q_getR 8 0 44 dX8_add_41 rfl fiX8_11 rfl o1 f14 ?_
    refine ex_iload 46 dX8_add_44 rfl rfl ?_
    obtain ⟨o15, hyp⟩ := hyp
    obtain ⟨r16, f17, hyp⟩ := hyp
    refine ex_aald 21 47 dX8_add_46 rfl (by decide) o15 f17 ?_
    refine q_astore [some (vr a0), none, none, some (vr a3), some (vr a4), some (vi x5), some (vr r16), none] 49 dX8_add_47 rfl (Nat.le_of_ble_eq_true rfl) rfl rfl ?_
    refine ex_aload_n 50 dX8_add_49 rfl rfl ?_
    refine ex_aload 52 dX8_add_50 rfl rfl ?_
    refine ex_aload 54 dX8_add_52 rfl rfl ?_
    obtain ⟨o18, hyp⟩ := hyp
    refine q_callVi [vr a4, vr r16] 57 dX8_add_54 rfl cvX8_38 rfl rfl ⟨Nat.le_of_ble_eq_true rfl, Nat.le_of_ble_eq_true rfl⟩ (Nat.le_of_ble_eq_true rfl) o18 hyp (fun y21 h19 k20 hyp => ?_)
    refine q_istore [some (vr a0), none, none, some (vr a3), some (vr a4), some (vi x5), some (vr r16), some (vi y21)] 59 dX8_add_57 rfl (Nat.le_of_ble_eq_true rfl) rfl rfl ?_
    refine ex_aload 61 dX8_add_59 rfl rfl ?_
    obtain ⟨o22, hyp⟩ := hyp
    obtain ⟨r23, f24, hyp⟩ := hyp
    refine q_getR 0 2 64 dX8_add_61 rfl fiX8_44 rfl o22 f24 ?_
    refine ex_aload 66 dX8_add_64 rfl rfl ?_
    obtain ⟨o25, hyp⟩ := hyp
    refine q_getI 0 0 69 dX8_add_66 rfl fiX8_47 (Or.inl rfl) o25 ?_
    refine ex_iload 71 dX8_add_69 rfl rfl ?_
    obtain ⟨o26, hyp⟩ := hyp
    refine ex_iast 72 dX8_add_71 rfl o26 (fun h27 e28 => ?_)
    have hyp := hyp h27 e28
    refine ex_aload 74 dX8_add_72 rfl rfl ?_
    have f29 := OB.of (KI e28) o25
    obtain ⟨r30, f31, hyp⟩ := hyp
    refine q_getR 0 2 77 dX8_add_74 rfl fiX8_44 rfl f29 f31 ?_
    refine ex_aload 79 dX8_add_77 rfl rfl ?_
    have f32 := OB.of (KI e28) o22
    refine q_getI 0 0 82 dX8_add_79 rfl fiX8_47 (Or.inl rfl) f32 ?_
    refine ex_iload 84 dX8_add_82 rfl rfl ?_
    obtain ⟨o33, hyp⟩ := hyp
    refine ex_iast 85 dX8_add_84 rfl o33 (fun h34 e35 => ?_)
    have hyp := hyp h34 e35
    refine q_iinc [some (vr a0), none, none, some (vr a3), some (vr a4), some (vi (x5 + 1)), some (vr r16), some (vi y21)] 88 dX8_add_85 rfl rfl (Nat.le_of_ble_eq_true rfl) rfl rfl ?_
    refine ex_goto 31 dX8_add_88 (by decide) ?_
    refine ex_dropL (ls' := [some (vr a0), none, none, some (vr a3), some (vr a4), some (vi (x5 + 1)), none, some (vi y21)]) 6 rfl ?_
    refine ex_dropL (ls' := [some (vr a0), none, none, some (vr a3), some (vr a4), some (vi (x5 + 1)), none, none]) 7 rfl ?_
    exact hyp
set_option maxRecDepth 4000 in
theorem tX8_remove {P : PH → Prop} (h0 : PH) (a0 : Nat) (x1 : Int) (hyp : OB h0 8 a0 ∧ ∃ r2 : Nat, h0.2.2 a0 0 = some r2 ∧ AI h0 21 r2 x1 ∧ ∃ r5 : Nat, h0.2.2 r2 (x1).toNat = some r5 ∧ EXv mX8_remove 11 [some (vr a0), none, some (vr r5), some (vi (x1 + 1))] [] h0 (0, 0) P) : METv mX8_remove [vr a0, vi x1] h0 (0, 0) P := by
  refine met_of_ex (by decide +kernel) (Nat.le_of_ble_eq_true rfl) ?_
  show EX mX8_remove 0 [some (vr a0), some (vi x1), none, none] [] h0 (0, 0) _
  refine ex_aload_n 1 dX8_remove_0 rfl rfl ?_
  obtain ⟨o1, hyp⟩ := hyp
  obtain ⟨r2, f3, hyp⟩ := hyp
  refine q_getR 8 0 4 dX8_remove_1 rfl fiX8_11 rfl o1 f3 ?_
  refine ex_iload_n 5 dX8_remove_4 rfl rfl ?_
  obtain ⟨o4, hyp⟩ := hyp
  obtain ⟨r5, f6, hyp⟩ := hyp
  refine ex_aald 21 6 dX8_remove_5 rfl (by decide) o4 f6 ?_
  refine q_astore_n [some (vr a0), some (vi x1), some (vr r5), none] 7 dX8_remove_6 rfl (Nat.le_of_ble_eq_true rfl) rfl rfl ?_
  refine ex_iload_n 8 dX8_remove_7 rfl rfl ?_
  refine ex_iconst 9 dX8_remove_8 rfl ?_
  refine ex_iadd 10 dX8_remove_9 rfl ?_
  refine q_istore_n [some (vr a0), some (vi x1), some (vr r5), some (vi (x1 + 1))] 11 dX8_remove_10 rfl (Nat.le_of_ble_eq_true rfl) rfl rfl ?_
  refine ex_dropL (ls' := [some (vr a0), none, some (vr r5), some (vi (x1 + 1))]) 1 rfl ?_
  exact hyp
set_option maxRecDepth 4000 in
theorem tX8_remove_11 {P : PH → Prop} (h0 : PH) (a0 : Nat) (a2 : Nat) (x3 : Int) (hyp : OB h0 8 a0 ∧ rng x3 ∧ rng (h0.2.1 a0 2) ∧ (h0.2.1 a0 2 ≤ x3 → (∀ h4 : PH, h4 = px_upI h0 a0 2 ((h0.2.1 a0 2) - 1) → (∃ r7 : Nat, h4.2.2 a0 0 = some r7 ∧ AI h4 21 r7 (h4.2.1 a0 2) ∧ OB h4 0 a2 ∧ ∀ h11 : PH, h11 = px_upR h4 r7 (h4.2.1 a0 2).toNat (some a2) → (∃ r14 : Nat, h11.2.2 a0 1 = some r14 ∧ AI h11 20 r14 (h11.2.1 a2 4) ∧ ∀ h18 : PH, h18 = px_upI h11 r14 (h11.2.1 a2 4).toNat ((h11.2.1 r14 (h11.2.1 a2 4).toNat) - 1) → (∀ h21 : PH, h21 = px_upI h18 a0 3 ((h18.2.1 a0 3) + 1) → (EXv mX8_remove 84 [some (vr a0), none, some (vr a2), some (vi 0)] [] h21 (0, 0) P)))))) ∧ (x3 < h0.2.1 a0 2 → (∃ r23 : Nat, h0.2.2 a0 0 = some r23 ∧ AI h0 21 r23 x3 ∧ ∃ r26 : Nat, h0.2.2 r23 (x3).toNat = some r26 ∧ AI h0 21 r23 (x3 - 1) ∧ OB h0 0 r26 ∧ ∀ h30 : PH, h30 = px_upR h0 r23 (x3 - 1).toNat (some r26) → (EXv mX8_remove 11 [some (vr a0), none, some (vr a2), some (vi (x3 + 1))] [] h30 (0, 0) P)))) : EXv mX8_remove 11 [some (vr a0), none, some (vr a2), some (vi x3)] [] h0 (0, 0) P := by
  refine ex_iload_n 12 dX8_remove_11 rfl rfl ?_
  refine ex_aload_n 13 dX8_remove_12 rfl rfl ?_
  obtain ⟨o1, hyp⟩ := hyp
  refine q_getI 8 2 16 dX8_remove_13 rfl fiX8_24 (Or.inl rfl) o1 ?_
  obtain ⟨o2, hyp⟩ := hyp
  obtain ⟨o3, hyp⟩ := hyp
  obtain ⟨ht, hf⟩ := hyp
  refine ex_icmp_ge 39 19 dX8_remove_16 (by decide) rfl o2 o3 (fun c32 => ?_) (fun c32 => ?_)
  · have hyp := ht c32
    clear ht hf
    refine ex_aload_n 40 dX8_remove_39 rfl rfl ?_
    refine ex_dup 41 dX8_remove_40 rfl rfl ?_
    refine q_getI 8 2 44 dX8_remove_41 rfl fiX8_24 (Or.inl rfl) o1 ?_
    refine ex_iconst 45 dX8_remove_44 rfl ?_
    refine ex_isub 46 dX8_remove_45 rfl ?_
    refine q_putI 8 2 49 dX8_remove_46 rfl fiX8_24 ff8_2 rfl o1 (fun h4 e5 => ?_)
    have hyp := hyp h4 e5
    refine ex_aload_n 50 dX8_remove_49 rfl rfl ?_
    have f6 := OB.of (KI e5) o1
    obtain ⟨r7, f8, hyp⟩ := hyp
    refine q_getR 8 0 53 dX8_remove_50 rfl fiX8_11 rfl f6 f8 ?_
    refine ex_aload_n 54 dX8_remove_53 rfl rfl ?_
    refine q_getI 8 2 57 dX8_remove_54 rfl fiX8_24 (Or.inl rfl) f6 ?_
    refine ex_aload_n 58 dX8_remove_57 rfl rfl ?_
    obtain ⟨o9, hyp⟩ := hyp
    obtain ⟨o10, hyp⟩ := hyp
    refine ex_aast 21 59 dX8_remove_58 rfl (by decide) o9 o10 (fun h11 e12 => ?_)
    have hyp := hyp h11 e12
    refine ex_aload_n 60 dX8_remove_59 rfl rfl ?_
    have f13 := OB.of (KR e12) f6
    obtain ⟨r14, f15, hyp⟩ := hyp
    refine q_getR 8 1 63 dX8_remove_60 rfl fiX8_17 rfl f13 f15 ?_
    refine ex_aload_n 64 dX8_remove_63 rfl rfl ?_
    have f16 := OB.of (KR e12) o10
    refine q_getI 0 4 67 dX8_remove_64 rfl fiX8_50 (Or.inl rfl) f16 ?_
    refine ex_dup2 68 dX8_remove_67 rfl rfl rfl ?_
    obtain ⟨o17, hyp⟩ := hyp
    refine ex_iald 69 dX8_remove_68 rfl o17 ?_
    refine ex_iconst 70 dX8_remove_69 rfl ?_
    refine ex_isub 71 dX8_remove_70 rfl ?_
    refine ex_iast 72 dX8_remove_71 rfl o17 (fun h18 e19 => ?_)
    have hyp := hyp h18 e19
    refine ex_aload_n 73 dX8_remove_72 rfl rfl ?_
    refine ex_dup 74 dX8_remove_73 rfl rfl ?_
    have f20 := OB.of (KI e19) f13
    refine q_getI 8 3 77 dX8_remove_74 rfl fiX8_53 (Or.inl rfl) f20 ?_
    refine ex_iconst 78 dX8_remove_77 rfl ?_
    refine ex_iadd 79 dX8_remove_78 rfl ?_
    refine q_putI 8 3 82 dX8_remove_79 rfl fiX8_53 ff8_3 rfl f20 (fun h21 e22 => ?_)
    have hyp := hyp h21 e22
    refine ex_iconst 83 dX8_remove_82 rfl ?_
    refine q_istore_n [some (vr a0), none, some (vr a2), some (vi 0)] 84 dX8_remove_83 rfl (Nat.le_of_ble_eq_true rfl) rfl rfl ?_
    exact hyp
  · have hyp := hf c32
    clear ht hf
    refine ex_aload_n 20 dX8_remove_19 rfl rfl ?_
    obtain ⟨r23, f24, hyp⟩ := hyp
    refine q_getR 8 0 23 dX8_remove_20 rfl fiX8_11 rfl o1 f24 ?_
    refine ex_iload_n 24 dX8_remove_23 rfl rfl ?_
    refine ex_iconst 25 dX8_remove_24 rfl ?_
    refine ex_isub 26 dX8_remove_25 rfl ?_
    refine ex_aload_n 27 dX8_remove_26 rfl rfl ?_
    refine q_getR 8 0 30 dX8_remove_27 rfl fiX8_11 rfl o1 f24 ?_
    refine ex_iload_n 31 dX8_remove_30 rfl rfl ?_
    obtain ⟨o25, hyp⟩ := hyp
    obtain ⟨r26, f27, hyp⟩ := hyp
    refine ex_aald 21 32 dX8_remove_31 rfl (by decide) o25 f27 ?_
    obtain ⟨o28, hyp⟩ := hyp
    obtain ⟨o29, hyp⟩ := hyp
    refine ex_aast 21 33 dX8_remove_32 rfl (by decide) o28 o29 (fun h30 e31 => ?_)
    have hyp := hyp h30 e31
    refine q_iinc [some (vr a0), none, some (vr a2), some (vi (x3 + 1))] 36 dX8_remove_33 rfl rfl (Nat.le_of_ble_eq_true rfl) rfl rfl ?_
    refine ex_goto 11 dX8_remove_36 (by decide) ?_
    exact hyp
set_option maxRecDepth 4000 in
theorem tX8_remove_84 {P : PH → Prop} (h0 : PH) (a0 : Nat) (a2 : Nat) (x3 : Int) (hyp : OB h0 8 a0 ∧ rng x3 ∧ rng (h0.2.1 a0 2) ∧ (h0.2.1 a0 2 ≤ x3 → (P h0)) ∧ (x3 < h0.2.1 a0 2 → (∃ r4 : Nat, h0.2.2 a0 0 = some r4 ∧ AI h0 21 r4 x3 ∧ ∃ r7 : Nat, h0.2.2 r4 (x3).toNat = some r7 ∧ OB h0 0 r7 ∧ OB h0 0 a2 ∧ ∀ h11 : PH, h11 = px_upI h0 r7 7 (b_and (h0.2.1 r7 7) (b_xor (b_shl 1 (h0.2.1 a2 0)) (-1))) → (EXv mX8_remove 84 [some (vr a0), none, some (vr a2), some (vi (x3 + 1))] [] h11 (0, 0) P)))) : EXv mX8_remove 84 [some (vr a0), none, some (vr a2), some (vi x3)] [] h0 (0, 0) P := by
  refine ex_iload_n 85 dX8_remove_84 rfl rfl ?_
  refine ex_aload_n 86 dX8_remove_85 rfl rfl ?_
  obtain ⟨o1, hyp⟩ := hyp
  refine q_getI 8 2 89 dX8_remove_86 rfl fiX8_24 (Or.inl rfl) o1 ?_
  obtain ⟨o2, hyp⟩ := hyp
  obtain ⟨o3, hyp⟩ := hyp
  obtain ⟨ht, hf⟩ := hyp
  refine ex_icmp_ge 120 92 dX8_remove_89 (by decide) rfl o2 o3 (fun c13 => ?_) (fun c13 => ?_)
  · have hyp := ht c13
    clear ht hf
    exact ex_vret dX8_remove_120 rfl ⟨rfl, hyp⟩
  · have hyp := hf c13
    clear ht hf
    refine ex_aload_n 93 dX8_remove_92 rfl rfl ?_
    obtain ⟨r4, f5, hyp⟩ := hyp
    refine q_getR 8 0 96 dX8_remove_93 rfl fiX8_11 rfl o1 f5 ?_
    refine ex_iload_n 97 dX8_remove_96 rfl rfl ?_
    obtain ⟨o6, hyp⟩ := hyp
    obtain ⟨r7, f8, hyp⟩ := hyp
    refine ex_aald 21 98 dX8_remove_97 rfl (by decide) o6 f8 ?_
    refine ex_dup 99 dX8_remove_98 rfl rfl ?_
    obtain ⟨o9, hyp⟩ := hyp
    refine q_getI 0 7 102 dX8_remove_99 rfl fiX8_56 (Or.inl rfl) o9 ?_
    refine ex_iconst 103 dX8_remove_102 rfl ?_
    refine ex_aload_n 104 dX8_remove_103 rfl rfl ?_
    obtain ⟨o10, hyp⟩ := hyp
    refine q_getI 0 0 107 dX8_remove_104 rfl fiX8_47 (Or.inl rfl) o10 ?_
    refine ex_ishl 108 dX8_remove_107 rfl ?_
    refine ex_iconst 109 dX8_remove_108 rfl ?_
    refine ex_ixor 110 dX8_remove_109 rfl ?_
    refine ex_iand 111 dX8_remove_110 rfl ?_
    refine q_putI 0 7 114 dX8_remove_111 rfl fiX8_56 ff0_7 rfl o9 (fun h11 e12 => ?_)
    have hyp := hyp h11 e12
    refine q_iinc [some (vr a0), none, some (vr a2), some (vi (x3 + 1))] 117 dX8_remove_114 rfl rfl (Nat.le_of_ble_eq_true rfl) rfl rfl ?_
    refine ex_goto 84 dX8_remove_117 (by decide) ?_
    exact hyp
set_option maxRecDepth 4000 in
theorem tX8_turnParted {P : Int → PH → Prop} (h0 : PH) (a0 : Nat) (a1 : Nat) (a2 : Nat) (hyp : OB h0 0 a1 ∧ OB h0 0 a2 ∧ ∀ h3 : PH, h3 = px_upI h0 a1 7 (b_xor (h0.2.1 a1 7) (b_shl 1 (h0.2.1 a2 0))) → (∀ h7 : PH, h7 = px_upI h3 a2 7 (b_xor (h3.2.1 a2 7) (b_shl 1 (h3.2.1 a1 0))) → (METi mX0_isPartedFrom [vr a1, vr a2] h7 (fun y12 h10 => h10.1 = h7.1 → ((y12 = 0 ∨ y12 = 1) ∧ P y12 h10))))) : METi mX8_turnParted [vr a0, vr a1, vr a2] h0 P := by
  refine met_of_ex (by decide +kernel) (Nat.le_of_ble_eq_true rfl) ?_
  show EX mX8_turnParted 0 [some (vr a0), some (vr a1), some (vr a2)] [] h0 (0, 0) _
  refine ex_aload_n 1 dX8_turnParted_0 rfl rfl ?_
  refine ex_dup 2 dX8_turnParted_1 rfl rfl ?_
  obtain ⟨o1, hyp⟩ := hyp
  refine q_getI 0 7 5 dX8_turnParted_2 rfl fiX8_56 (Or.inl rfl) o1 ?_
  refine ex_iconst 6 dX8_turnParted_5 rfl ?_
  refine ex_aload_n 7 dX8_turnParted_6 rfl rfl ?_
  obtain ⟨o2, hyp⟩ := hyp
  refine q_getI 0 0 10 dX8_turnParted_7 rfl fiX8_47 (Or.inl rfl) o2 ?_
  refine ex_ishl 11 dX8_turnParted_10 rfl ?_
  refine ex_ixor 12 dX8_turnParted_11 rfl ?_
  refine q_putI 0 7 15 dX8_turnParted_12 rfl fiX8_56 ff0_7 rfl o1 (fun h3 e4 => ?_)
  have hyp := hyp h3 e4
  refine ex_aload_n 16 dX8_turnParted_15 rfl rfl ?_
  refine ex_dup 17 dX8_turnParted_16 rfl rfl ?_
  have f5 := OB.of (KI e4) o2
  refine q_getI 0 7 20 dX8_turnParted_17 rfl fiX8_56 (Or.inl rfl) f5 ?_
  refine ex_iconst 21 dX8_turnParted_20 rfl ?_
  refine ex_aload_n 22 dX8_turnParted_21 rfl rfl ?_
  have f6 := OB.of (KI e4) o1
  refine q_getI 0 0 25 dX8_turnParted_22 rfl fiX8_47 (Or.inl rfl) f6 ?_
  refine ex_ishl 26 dX8_turnParted_25 rfl ?_
  refine ex_ixor 27 dX8_turnParted_26 rfl ?_
  refine q_putI 0 7 30 dX8_turnParted_27 rfl fiX8_56 ff0_7 rfl f5 (fun h7 e8 => ?_)
  have hyp := hyp h7 e8
  refine ex_aload_n 31 dX8_turnParted_30 rfl rfl ?_
  refine ex_aload_n 32 dX8_turnParted_31 rfl rfl ?_
  have f9 := OB.of (KI e8) f6
  refine q_callVi [vr a2] 35 dX8_turnParted_32 rfl cvX8_59 rfl rfl ⟨Nat.le_of_ble_eq_true rfl, Nat.le_of_ble_eq_true rfl⟩ (Nat.le_of_ble_eq_true rfl) f9 hyp (fun y12 h10 k11 hyp => ?_)
  exact ex_iret dX8_turnParted_35 (Or.inr ⟨rfl, hyp.1⟩) ⟨_, rfl, hyp.2⟩
set_option maxRecDepth 4000 in
theorem tX8_countParted {P : Int → PH → Prop} (h0 : PH) (a0 : Nat) (hyp : EXi mX8_countParted 4 [some (vr a0), some (vi 0), some (vi 0)] [] h0 P) : METi mX8_countParted [vr a0] h0 P := by
  refine met_of_ex (by decide +kernel) (Nat.le_of_ble_eq_true rfl) ?_
  show EX mX8_countParted 0 [some (vr a0), none, none] [] h0 (0, 0) _
  refine ex_iconst 1 dX8_countParted_0 rfl ?_
  refine q_istore_n [some (vr a0), some (vi 0), none] 2 dX8_countParted_1 rfl (Nat.le_of_ble_eq_true rfl) rfl rfl ?_
  refine ex_iconst 3 dX8_countParted_2 rfl ?_
  refine q_istore_n [some (vr a0), some (vi 0), some (vi 0)] 4 dX8_countParted_3 rfl (Nat.le_of_ble_eq_true rfl) rfl rfl ?_
  exact hyp
set_option maxRecDepth 4000 in
theorem tX8_countParted_4 {P : Int → PH → Prop} (h0 : PH) (a0 : Nat) (x1 : Int) (x2 : Int) (hyp : OB h0 8 a0 ∧ rng x2 ∧ rng (h0.2.1 a0 2) ∧ (h0.2.1 a0 2 ≤ x2 → (rng x1 ∧ P (Int.tdiv x1 2) h0)) ∧ (x2 < h0.2.1 a0 2 → (∃ r5 : Nat, h0.2.2 a0 0 = some r5 ∧ AI h0 21 r5 x2 ∧ ∃ r8 : Nat, h0.2.2 r5 (x2).toNat = some r8 ∧ OB h0 0 r8 ∧ METi mJ6_bitCount_0f7a4 [vi (h0.2.1 r8 7)] h0 (fun y13 h11 => h11.1 = h0.1 → (EXi mX8_countParted 4 [some (vr a0), some (vi (x1 + y13)), some (vi (x2 + 1))] [] h11 P))))) : EXi mX8_countParted 4 [some (vr a0), some (vi x1), some (vi x2)] [] h0 P := by
  refine ex_iload_n 5 dX8_countParted_4 rfl rfl ?_
  refine ex_aload_n 6 dX8_countParted_5 rfl rfl ?_
  obtain ⟨o1, hyp⟩ := hyp
  refine q_getI 8 2 9 dX8_countParted_6 rfl fiX8_24 (Or.inl rfl) o1 ?_
  obtain ⟨o2, hyp⟩ := hyp
  obtain ⟨o3, hyp⟩ := hyp
  obtain ⟨ht, hf⟩ := hyp
  refine ex_icmp_ge 33 12 dX8_countParted_9 (by decide) rfl o2 o3 (fun c14 => ?_) (fun c14 => ?_)
  · have hyp := ht c14
    clear ht hf
    refine ex_iload_n 34 dX8_countParted_33 rfl rfl ?_
    refine ex_iconst 35 dX8_countParted_34 rfl ?_
    obtain ⟨o4, hyp⟩ := hyp
    refine ex_idiv 36 dX8_countParted_35 rfl o4 ⟨by decide, by decide⟩ (by decide) ?_
    exact ex_iret dX8_countParted_36 (Or.inl rfl) ⟨_, rfl, hyp⟩
  · have hyp := hf c14
    clear ht hf
    refine ex_iload_n 13 dX8_countParted_12 rfl rfl ?_
    refine ex_aload_n 14 dX8_countParted_13 rfl rfl ?_
    obtain ⟨r5, f6, hyp⟩ := hyp
    refine q_getR 8 0 17 dX8_countParted_14 rfl fiX8_11 rfl o1 f6 ?_
    refine ex_iload_n 18 dX8_countParted_17 rfl rfl ?_
    obtain ⟨o7, hyp⟩ := hyp
    obtain ⟨r8, f9, hyp⟩ := hyp
    refine ex_aald 21 19 dX8_countParted_18 rfl (by decide) o7 f9 ?_
    obtain ⟨o10, hyp⟩ := hyp
    refine q_getI 0 7 22 dX8_countParted_19 rfl fiX8_56 (Or.inl rfl) o10 ?_
    refine q_callSi [vi (h0.2.1 r8 7)] 25 dX8_countParted_22 rfl cvX8_63 rfl rfl ⟨Nat.le_of_ble_eq_true rfl, Nat.le_of_ble_eq_true rfl⟩ (Nat.le_of_ble_eq_true rfl) hyp (fun y13 h11 k12 hyp => ?_)
    refine ex_iadd 26 dX8_countParted_25 rfl ?_
    refine q_istore_n [some (vr a0), some (vi (x1 + y13)), some (vi x2)] 27 dX8_countParted_26 rfl (Nat.le_of_ble_eq_true rfl) rfl rfl ?_
    refine q_iinc [some (vr a0), some (vi (x1 + y13)), some (vi (x2 + 1))] 30 dX8_countParted_27 rfl rfl (Nat.le_of_ble_eq_true rfl) rfl rfl ?_
    refine ex_goto 4 dX8_countParted_30 (by decide) ?_
    exact hyp
set_option maxRecDepth 4000 in
theorem tX8_settleBorn {P : PH → Prop} (h0 : PH) (a0 : Nat) (x1 : Int) (hyp : EXv mX8_settleBorn 2 [some (vr a0), some (vi x1), some (vi 0)] [] h0 (0, 0) P) : METv mX8_settleBorn [vr a0, vi x1] h0 (0, 0) P := by
  refine met_of_ex (by decide +kernel) (Nat.le_of_ble_eq_true rfl) ?_
  show EX mX8_settleBorn 0 [some (vr a0), some (vi x1), none] [] h0 (0, 0) _
  refine ex_iconst 1 dX8_settleBorn_0 rfl ?_
  refine q_istore_n [some (vr a0), some (vi x1), some (vi 0)] 2 dX8_settleBorn_1 rfl (Nat.le_of_ble_eq_true rfl) rfl rfl ?_
  exact hyp
set_option maxRecDepth 4000 in
theorem tX8_settleBorn_2 {P : PH → Prop} (h0 : PH) (a0 : Nat) (x1 : Int) (x2 : Int) (hyp : OB h0 8 a0 ∧ rng x2 ∧ rng (h0.2.1 a0 2) ∧ (h0.2.1 a0 2 ≤ x2 → (P h0)) ∧ (x2 < h0.2.1 a0 2 → (∃ r4 : Nat, h0.2.2 a0 0 = some r4 ∧ AI h0 21 r4 x2 ∧ ∃ r7 : Nat, h0.2.2 r4 (x2).toNat = some r7 ∧ OB h0 0 r7 ∧ METv mX0_settleBorn [vr r7, vi x1] h0 (0, 0) (fun h10 => h10.1 = h0.1 → (EXv mX8_settleBorn 2 [some (vr a0), some (vi x1), some (vi (x2 + 1))] [] h10 (0, 0) P))))) : EXv mX8_settleBorn 2 [some (vr a0), some (vi x1), some (vi x2)] [] h0 (0, 0) P := by
  refine ex_iload_n 3 dX8_settleBorn_2 rfl rfl ?_
  refine ex_aload_n 4 dX8_settleBorn_3 rfl rfl ?_
  obtain ⟨o1, hyp⟩ := hyp
  refine q_getI 8 2 7 dX8_settleBorn_4 rfl fiX8_24 (Or.inl rfl) o1 ?_
  obtain ⟨o2, hyp⟩ := hyp
  obtain ⟨o3, hyp⟩ := hyp
  obtain ⟨ht, hf⟩ := hyp
  refine ex_icmp_ge 26 10 dX8_settleBorn_7 (by decide) rfl o2 o3 (fun c12 => ?_) (fun c12 => ?_)
  · have hyp := ht c12
    clear ht hf
    exact ex_vret dX8_settleBorn_26 rfl ⟨rfl, hyp⟩
  · have hyp := hf c12
    clear ht hf
    refine ex_aload_n 11 dX8_settleBorn_10 rfl rfl ?_
    obtain ⟨r4, f5, hyp⟩ := hyp
    refine q_getR 8 0 14 dX8_settleBorn_11 rfl fiX8_11 rfl o1 f5 ?_
    refine ex_iload_n 15 dX8_settleBorn_14 rfl rfl ?_
    obtain ⟨o6, hyp⟩ := hyp
    obtain ⟨r7, f8, hyp⟩ := hyp
    refine ex_aald 21 16 dX8_settleBorn_15 rfl (by decide) o6 f8 ?_
    refine ex_iload_n 17 dX8_settleBorn_16 rfl rfl ?_
    obtain ⟨o9, hyp⟩ := hyp
    refine q_callVv [vi x1] 20 dX8_settleBorn_17 rfl cvX8_69 rfl rfl ⟨Nat.le_of_ble_eq_true rfl, Nat.le_of_ble_eq_true rfl⟩ (Nat.le_of_ble_eq_true rfl) o9 hyp (fun h10 k11 hyp => ?_)
    refine q_iinc [some (vr a0), some (vi x1), some (vi (x2 + 1))] 23 dX8_settleBorn_20 rfl rfl (Nat.le_of_ble_eq_true rfl) rfl rfl ?_
    refine ex_goto 2 dX8_settleBorn_23 (by decide) ?_
    exact hyp
set_option maxRecDepth 4000 in
theorem tJ6_bitCount_0f7a4 {P : Int → PH → Prop} (h0 : PH) (x0 : Int) (hyp : P (b_and (((b_and (((b_and (x0 - (b_and (b_ushr x0 1) 1431655765)) 858993459) + (b_and (b_ushr (x0 - (b_and (b_ushr x0 1) 1431655765)) 2) 858993459)) + (b_ushr ((b_and (x0 - (b_and (b_ushr x0 1) 1431655765)) 858993459) + (b_and (b_ushr (x0 - (b_and (b_ushr x0 1) 1431655765)) 2) 858993459)) 4)) 252645135) + (b_ushr (b_and (((b_and (x0 - (b_and (b_ushr x0 1) 1431655765)) 858993459) + (b_and (b_ushr (x0 - (b_and (b_ushr x0 1) 1431655765)) 2) 858993459)) + (b_ushr ((b_and (x0 - (b_and (b_ushr x0 1) 1431655765)) 858993459) + (b_and (b_ushr (x0 - (b_and (b_ushr x0 1) 1431655765)) 2) 858993459)) 4)) 252645135) 8)) + (b_ushr ((b_and (((b_and (x0 - (b_and (b_ushr x0 1) 1431655765)) 858993459) + (b_and (b_ushr (x0 - (b_and (b_ushr x0 1) 1431655765)) 2) 858993459)) + (b_ushr ((b_and (x0 - (b_and (b_ushr x0 1) 1431655765)) 858993459) + (b_and (b_ushr (x0 - (b_and (b_ushr x0 1) 1431655765)) 2) 858993459)) 4)) 252645135) + (b_ushr (b_and (((b_and (x0 - (b_and (b_ushr x0 1) 1431655765)) 858993459) + (b_and (b_ushr (x0 - (b_and (b_ushr x0 1) 1431655765)) 2) 858993459)) + (b_ushr ((b_and (x0 - (b_and (b_ushr x0 1) 1431655765)) 858993459) + (b_and (b_ushr (x0 - (b_and (b_ushr x0 1) 1431655765)) 2) 858993459)) 4)) 252645135) 8)) 16)) 63) h0) : METi mJ6_bitCount_0f7a4 [vi x0] h0 P := by
  refine met_of_ex (by decide +kernel) (Nat.le_of_ble_eq_true rfl) ?_
  show EX mJ6_bitCount_0f7a4 0 [some (vi x0)] [] h0 (0, 0) _
  refine ex_iload_n 1 dJ6_bitCount_0f7a4_0 rfl rfl ?_
  refine ex_iload_n 2 dJ6_bitCount_0f7a4_1 rfl rfl ?_
  refine ex_iconst 3 dJ6_bitCount_0f7a4_2 rfl ?_
  refine ex_iushr 4 dJ6_bitCount_0f7a4_3 rfl ?_
  refine ex_ldcw (n := 1431655765) 7 dJ6_bitCount_0f7a4_4 rfl (wt4 60 rfl rfl) ?_
  refine ex_iand 8 dJ6_bitCount_0f7a4_7 rfl ?_
  refine ex_isub 9 dJ6_bitCount_0f7a4_8 rfl ?_
  refine q_istore_n [some (vi (x0 - (b_and (b_ushr x0 1) 1431655765)))] 10 dJ6_bitCount_0f7a4_9 rfl (Nat.le_of_ble_eq_true rfl) rfl rfl ?_
  refine ex_iload_n 11 dJ6_bitCount_0f7a4_10 rfl rfl ?_
  refine ex_ldcw (n := 858993459) 14 dJ6_bitCount_0f7a4_11 rfl (wt4 61 rfl rfl) ?_
  refine ex_iand 15 dJ6_bitCount_0f7a4_14 rfl ?_
  refine ex_iload_n 16 dJ6_bitCount_0f7a4_15 rfl rfl ?_
  refine ex_iconst 17 dJ6_bitCount_0f7a4_16 rfl ?_
  refine ex_iushr 18 dJ6_bitCount_0f7a4_17 rfl ?_
  refine ex_ldcw (n := 858993459) 21 dJ6_bitCount_0f7a4_18 rfl (wt4 61 rfl rfl) ?_
  refine ex_iand 22 dJ6_bitCount_0f7a4_21 rfl ?_
  refine ex_iadd 23 dJ6_bitCount_0f7a4_22 rfl ?_
  refine q_istore_n [some (vi ((b_and (x0 - (b_and (b_ushr x0 1) 1431655765)) 858993459) + (b_and (b_ushr (x0 - (b_and (b_ushr x0 1) 1431655765)) 2) 858993459)))] 24 dJ6_bitCount_0f7a4_23 rfl (Nat.le_of_ble_eq_true rfl) rfl rfl ?_
  refine ex_iload_n 25 dJ6_bitCount_0f7a4_24 rfl rfl ?_
  refine ex_iload_n 26 dJ6_bitCount_0f7a4_25 rfl rfl ?_
  refine ex_iconst 27 dJ6_bitCount_0f7a4_26 rfl ?_
  refine ex_iushr 28 dJ6_bitCount_0f7a4_27 rfl ?_
  refine ex_iadd 29 dJ6_bitCount_0f7a4_28 rfl ?_
  refine ex_ldcw (n := 252645135) 32 dJ6_bitCount_0f7a4_29 rfl (wt4 62 rfl rfl) ?_
  refine ex_iand 33 dJ6_bitCount_0f7a4_32 rfl ?_
  refine q_istore_n [some (vi (b_and (((b_and (x0 - (b_and (b_ushr x0 1) 1431655765)) 858993459) + (b_and (b_ushr (x0 - (b_and (b_ushr x0 1) 1431655765)) 2) 858993459)) + (b_ushr ((b_and (x0 - (b_and (b_ushr x0 1) 1431655765)) 858993459) + (b_and (b_ushr (x0 - (b_and (b_ushr x0 1) 1431655765)) 2) 858993459)) 4)) 252645135))] 34 dJ6_bitCount_0f7a4_33 rfl (Nat.le_of_ble_eq_true rfl) rfl rfl ?_
  refine ex_iload_n 35 dJ6_bitCount_0f7a4_34 rfl rfl ?_
  refine ex_iload_n 36 dJ6_bitCount_0f7a4_35 rfl rfl ?_
  refine ex_bipush 38 dJ6_bitCount_0f7a4_36 rfl ⟨by decide, by decide⟩ ?_
  refine ex_iushr 39 dJ6_bitCount_0f7a4_38 rfl ?_
  refine ex_iadd 40 dJ6_bitCount_0f7a4_39 rfl ?_
  refine q_istore_n [some (vi ((b_and (((b_and (x0 - (b_and (b_ushr x0 1) 1431655765)) 858993459) + (b_and (b_ushr (x0 - (b_and (b_ushr x0 1) 1431655765)) 2) 858993459)) + (b_ushr ((b_and (x0 - (b_and (b_ushr x0 1) 1431655765)) 858993459) + (b_and (b_ushr (x0 - (b_and (b_ushr x0 1) 1431655765)) 2) 858993459)) 4)) 252645135) + (b_ushr (b_and (((b_and (x0 - (b_and (b_ushr x0 1) 1431655765)) 858993459) + (b_and (b_ushr (x0 - (b_and (b_ushr x0 1) 1431655765)) 2) 858993459)) + (b_ushr ((b_and (x0 - (b_and (b_ushr x0 1) 1431655765)) 858993459) + (b_and (b_ushr (x0 - (b_and (b_ushr x0 1) 1431655765)) 2) 858993459)) 4)) 252645135) 8)))] 41 dJ6_bitCount_0f7a4_40 rfl (Nat.le_of_ble_eq_true rfl) rfl rfl ?_
  refine ex_iload_n 42 dJ6_bitCount_0f7a4_41 rfl rfl ?_
  refine ex_iload_n 43 dJ6_bitCount_0f7a4_42 rfl rfl ?_
  refine ex_bipush 45 dJ6_bitCount_0f7a4_43 rfl ⟨by decide, by decide⟩ ?_
  refine ex_iushr 46 dJ6_bitCount_0f7a4_45 rfl ?_
  refine ex_iadd 47 dJ6_bitCount_0f7a4_46 rfl ?_
  refine q_istore_n [some (vi (((b_and (((b_and (x0 - (b_and (b_ushr x0 1) 1431655765)) 858993459) + (b_and (b_ushr (x0 - (b_and (b_ushr x0 1) 1431655765)) 2) 858993459)) + (b_ushr ((b_and (x0 - (b_and (b_ushr x0 1) 1431655765)) 858993459) + (b_and (b_ushr (x0 - (b_and (b_ushr x0 1) 1431655765)) 2) 858993459)) 4)) 252645135) + (b_ushr (b_and (((b_and (x0 - (b_and (b_ushr x0 1) 1431655765)) 858993459) + (b_and (b_ushr (x0 - (b_and (b_ushr x0 1) 1431655765)) 2) 858993459)) + (b_ushr ((b_and (x0 - (b_and (b_ushr x0 1) 1431655765)) 858993459) + (b_and (b_ushr (x0 - (b_and (b_ushr x0 1) 1431655765)) 2) 858993459)) 4)) 252645135) 8)) + (b_ushr ((b_and (((b_and (x0 - (b_and (b_ushr x0 1) 1431655765)) 858993459) + (b_and (b_ushr (x0 - (b_and (b_ushr x0 1) 1431655765)) 2) 858993459)) + (b_ushr ((b_and (x0 - (b_and (b_ushr x0 1) 1431655765)) 858993459) + (b_and (b_ushr (x0 - (b_and (b_ushr x0 1) 1431655765)) 2) 858993459)) 4)) 252645135) + (b_ushr (b_and (((b_and (x0 - (b_and (b_ushr x0 1) 1431655765)) 858993459) + (b_and (b_ushr (x0 - (b_and (b_ushr x0 1) 1431655765)) 2) 858993459)) + (b_ushr ((b_and (x0 - (b_and (b_ushr x0 1) 1431655765)) 858993459) + (b_and (b_ushr (x0 - (b_and (b_ushr x0 1) 1431655765)) 2) 858993459)) 4)) 252645135) 8)) 16)))] 48 dJ6_bitCount_0f7a4_47 rfl (Nat.le_of_ble_eq_true rfl) rfl rfl ?_
  refine ex_iload_n 49 dJ6_bitCount_0f7a4_48 rfl rfl ?_
  refine ex_bipush 51 dJ6_bitCount_0f7a4_49 rfl ⟨by decide, by decide⟩ ?_
  refine ex_iand 52 dJ6_bitCount_0f7a4_51 rfl ?_
  exact ex_iret dJ6_bitCount_0f7a4_52 (Or.inl rfl) ⟨_, rfl, hyp⟩

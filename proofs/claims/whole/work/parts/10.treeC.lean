set_option maxRecDepth 4000 in
theorem tX10_within {P : Int → PH → Prop} (h0 : PH) (x0 : Int) (x1 : Int) (x2 : Int) (hyp : rng x0 ∧ rng x1 ∧ (x0 < x1 → (P 0 h0)) ∧ (x1 ≤ x0 → (rng x2 ∧ (x2 < x0 → (P 0 h0)) ∧ (x0 ≤ x2 → (P 1 h0))))) : METi mX10_within [vi x0, vi x1, vi x2] h0 P := by
  refine met_of_ex (by decide +kernel) (Nat.le_of_ble_eq_true rfl) ?_
  show EX mX10_within 0 [some (vi x0), some (vi x1), some (vi x2)] [] h0 (0, 0) _
  refine ex_iload_n 1 dX10_within_0 rfl rfl ?_
  refine ex_iload_n 2 dX10_within_1 rfl rfl ?_
  obtain ⟨o1, hyp⟩ := hyp
  obtain ⟨o2, hyp⟩ := hyp
  obtain ⟨ht, hf⟩ := hyp
  refine ex_icmp_lt 14 5 dX10_within_2 (by decide) rfl o1 o2 (fun c5 => ?_) (fun c5 => ?_)
  · have hyp := ht c5
    clear ht hf
    refine ex_iconst 15 dX10_within_14 rfl ?_
    exact ex_iret dX10_within_15 (Or.inr ⟨rfl, Or.inl rfl⟩) ⟨_, rfl, hyp⟩
  · have hyp := hf c5
    clear ht hf
    refine ex_iload_n 6 dX10_within_5 rfl rfl ?_
    refine ex_iload_n 7 dX10_within_6 rfl rfl ?_
    obtain ⟨o3, hyp⟩ := hyp
    obtain ⟨ht, hf⟩ := hyp
    refine ex_icmp_gt 14 10 dX10_within_7 (by decide) rfl o1 o3 (fun c4 => ?_) (fun c4 => ?_)
    · have hyp := ht c4
      clear ht hf
      refine ex_iconst 15 dX10_within_14 rfl ?_
      exact ex_iret dX10_within_15 (Or.inr ⟨rfl, Or.inl rfl⟩) ⟨_, rfl, hyp⟩
    · have hyp := hf c4
      clear ht hf
      refine ex_iconst 11 dX10_within_10 rfl ?_
      refine ex_goto 15 dX10_within_11 (by decide) ?_
      exact ex_iret dX10_within_15 (Or.inr ⟨rfl, Or.inr rfl⟩) ⟨_, rfl, hyp⟩
set_option maxRecDepth 4000 in
theorem tX10_letter {P : Int → PH → Prop} (h0 : PH) (a0 : Nat) (x1 : Int) (hyp : METi mX10_within [vi x1, vi 32, vi 126] h0 (fun y3 h1 => h1.1 = h0.1 → (rng y3 ∧ (¬ y3 = 0 → (OB h1 10 a0 ∧ rng (h1.2.1 a0 0) ∧ (¬ h1.2.1 a0 0 = 60 → (∃ r7 : Nat, h1.2.2 a0 1 = some r7 ∧ AI h1 20 r7 (h1.2.1 a0 0) ∧ ∀ h10 : PH, h10 = px_upI h1 r7 (h1.2.1 a0 0).toNat x1 → (∀ h13 : PH, h13 = px_upI h10 a0 0 ((h10.2.1 a0 0) + 1) → (P (h13.2.1 a0 0) h13)))) ∧ (h1.2.1 a0 0 = 60 → (P (-104) h1)))) ∧ (y3 = 0 → (P (-102) h1))))) : METi mX10_letter [vr a0, vi x1] h0 P := by
  refine met_of_ex (by decide +kernel) (Nat.le_of_ble_eq_true rfl) ?_
  show EX mX10_letter 0 [some (vr a0), some (vi x1)] [] h0 (0, 0) _
  refine ex_iload_n 1 dX10_letter_0 rfl rfl ?_
  refine ex_bipush 3 dX10_letter_1 rfl ⟨by decide, by decide⟩ ?_
  refine ex_bipush 5 dX10_letter_3 rfl ⟨by decide, by decide⟩ ?_
  refine q_callSi [vi x1, vi 32, vi 126] 8 dX10_letter_5 rfl cvX10_76 rfl rfl ⟨Nat.le_of_ble_eq_true rfl, Nat.le_of_ble_eq_true rfl⟩ (Nat.le_of_ble_eq_true rfl) hyp (fun y3 h1 k2 hyp => ?_)
  obtain ⟨o4, hyp⟩ := hyp
  obtain ⟨ht, hf⟩ := hyp
  refine ex_if_ne 14 11 dX10_letter_8 (by decide) rfl o4 (fun c17 => ?_) (fun c17 => ?_)
  · have hyp := ht c17
    clear ht hf
    refine ex_aload_n 15 dX10_letter_14 rfl rfl ?_
    obtain ⟨o5, hyp⟩ := hyp
    refine q_getI 10 0 18 dX10_letter_15 rfl fiX10_80 (Or.inl rfl) o5 ?_
    refine ex_bipush 20 dX10_letter_18 rfl ⟨by decide, by decide⟩ ?_
    obtain ⟨o6, hyp⟩ := hyp
    obtain ⟨ht, hf⟩ := hyp
    refine ex_icmp_ne 26 23 dX10_letter_20 (by decide) rfl o6 ⟨by decide, by decide⟩ (fun c16 => ?_) (fun c16 => ?_)
    · have hyp := ht c16
      clear ht hf
      refine ex_aload_n 27 dX10_letter_26 rfl rfl ?_
      obtain ⟨r7, f8, hyp⟩ := hyp
      refine q_getR 10 1 30 dX10_letter_27 rfl fiX10_7 rfl o5 f8 ?_
      refine ex_aload_n 31 dX10_letter_30 rfl rfl ?_
      refine q_getI 10 0 34 dX10_letter_31 rfl fiX10_80 (Or.inl rfl) o5 ?_
      refine ex_iload_n 35 dX10_letter_34 rfl rfl ?_
      obtain ⟨o9, hyp⟩ := hyp
      refine ex_iast 36 dX10_letter_35 rfl o9 (fun h10 e11 => ?_)
      have hyp := hyp h10 e11
      refine ex_aload_n 37 dX10_letter_36 rfl rfl ?_
      refine ex_dup 38 dX10_letter_37 rfl rfl ?_
      have f12 := OB.of (KI e11) o5
      refine q_getI 10 0 41 dX10_letter_38 rfl fiX10_80 (Or.inl rfl) f12 ?_
      refine ex_iconst 42 dX10_letter_41 rfl ?_
      refine ex_iadd 43 dX10_letter_42 rfl ?_
      refine q_putI 10 0 46 dX10_letter_43 rfl fiX10_80 ff10_0 rfl f12 (fun h13 e14 => ?_)
      have hyp := hyp h13 e14
      refine ex_aload_n 47 dX10_letter_46 rfl rfl ?_
      have f15 := OB.of (KI e14) f12
      refine q_getI 10 0 50 dX10_letter_47 rfl fiX10_80 (Or.inl rfl) f15 ?_
      exact ex_iret dX10_letter_50 (Or.inl rfl) ⟨_, rfl, hyp⟩
    · have hyp := hf c16
      clear ht hf
      refine ex_bipush 25 dX10_letter_23 rfl ⟨by decide, by decide⟩ ?_
      exact ex_iret dX10_letter_25 (Or.inl rfl) ⟨_, rfl, hyp⟩
  · have hyp := hf c17
    clear ht hf
    refine ex_bipush 13 dX10_letter_11 rfl ⟨by decide, by decide⟩ ?_
    exact ex_iret dX10_letter_13 (Or.inl rfl) ⟨_, rfl, hyp⟩
set_option maxRecDepth 4000 in
theorem tX10_blank {P : Int → PH → Prop} (h0 : PH) (a0 : Nat) (hyp : OB h0 10 a0 ∧ ∀ h2 : PH, h2 = px_upI h0 a0 0 0 → (P (h0.2.1 a0 0) h2)) : METi mX10_blank [vr a0] h0 P := by
  refine met_of_ex (by decide +kernel) (Nat.le_of_ble_eq_true rfl) ?_
  show EX mX10_blank 0 [some (vr a0), none] [] h0 (0, 0) _
  refine ex_aload_n 1 dX10_blank_0 rfl rfl ?_
  obtain ⟨o1, hyp⟩ := hyp
  refine q_getI 10 0 4 dX10_blank_1 rfl fiX10_80 (Or.inl rfl) o1 ?_
  refine q_istore_n [some (vr a0), some (vi (h0.2.1 a0 0))] 5 dX10_blank_4 rfl (Nat.le_of_ble_eq_true rfl) rfl rfl ?_
  refine ex_aload_n 6 dX10_blank_5 rfl rfl ?_
  refine ex_iconst 7 dX10_blank_6 rfl ?_
  refine q_putI 10 0 10 dX10_blank_7 rfl fiX10_80 ff10_0 rfl o1 (fun h2 e3 => ?_)
  have hyp := hyp h2 e3
  refine ex_iload_n 11 dX10_blank_10 rfl rfl ?_
  exact ex_iret dX10_blank_11 (Or.inl rfl) ⟨_, rfl, hyp⟩
set_option maxRecDepth 4000 in
theorem tX10_goes {P : Int → PH → Prop} (h0 : PH) (a0 : Nat) (x1 : Int) (x2 : Int) (hyp : rng x1 ∧ (x1 = 0 → (OB h0 10 a0 ∧ ∀ h3 : PH, h3 = px_upI h0 a0 12 (h0.2.1 a0 12) → ((x1 = 0 ∨ x1 = 1) ∧ P x1 h3))) ∧ (¬ x1 = 0 → (OB h0 10 a0 ∧ ∀ h6 : PH, h6 = px_upI h0 a0 12 x2 → ((x1 = 0 ∨ x1 = 1) ∧ P x1 h6)))) : METi mX10_goes [vr a0, vi x1, vi x2] h0 P := by
  refine met_of_ex (by decide +kernel) (Nat.le_of_ble_eq_true rfl) ?_
  show EX mX10_goes 0 [some (vr a0), some (vi x1), some (vi x2)] [] h0 (0, 0) _
  refine ex_aload_n 1 dX10_goes_0 rfl rfl ?_
  refine ex_iload_n 2 dX10_goes_1 rfl rfl ?_
  obtain ⟨o1, hyp⟩ := hyp
  obtain ⟨ht, hf⟩ := hyp
  refine ex_if_eq 9 5 dX10_goes_2 (by decide) rfl o1 (fun c8 => ?_) (fun c8 => ?_)
  · have hyp := ht c8
    clear ht hf
    refine ex_aload_n 10 dX10_goes_9 rfl rfl ?_
    obtain ⟨o2, hyp⟩ := hyp
    refine q_getI 10 12 13 dX10_goes_10 rfl fiX10_84 (Or.inl rfl) o2 ?_
    refine q_putI 10 12 16 dX10_goes_13 rfl fiX10_84 ff10_12 rfl o2 (fun h3 e4 => ?_)
    have hyp := hyp h3 e4
    refine ex_iload_n 17 dX10_goes_16 rfl rfl ?_
    exact ex_iret dX10_goes_17 (Or.inr ⟨rfl, hyp.1⟩) ⟨_, rfl, hyp.2⟩
  · have hyp := hf c8
    clear ht hf
    refine ex_iload_n 6 dX10_goes_5 rfl rfl ?_
    refine ex_goto 13 dX10_goes_6 (by decide) ?_
    obtain ⟨o5, hyp⟩ := hyp
    refine q_putI 10 12 16 dX10_goes_13 rfl fiX10_84 ff10_12 rfl o5 (fun h6 e7 => ?_)
    have hyp := hyp h6 e7
    refine ex_iload_n 17 dX10_goes_16 rfl rfl ?_
    exact ex_iret dX10_goes_17 (Or.inr ⟨rfl, hyp.1⟩) ⟨_, rfl, hyp.2⟩
set_option maxRecDepth 4000 in
theorem tX10_takesKind {P : Int → PH → Prop} (h0 : PH) (a0 : Nat) (x1 : Int) (hyp : rng x1 ∧ (x1 = 98 → (EXi mX10_takesKind 18 [some (vr a0), some (vi x1), none] [] h0 P)) ∧ (¬ x1 = 98 → ((x1 = 119 → (EXi mX10_takesKind 18 [some (vr a0), some (vi x1), none] [] h0 P)) ∧ (¬ x1 = 119 → ((¬ x1 = 100 → (OB h0 10 a0 ∧ METi mX10_goes [vr a0, vi 0, vi 1] h0 (fun y5 h3 => h3.1 = h0.1 → ((y5 = 0 ∨ y5 = 1) ∧ P y5 h3)))) ∧ (x1 = 100 → (EXi mX10_takesKind 18 [some (vr a0), some (vi x1), none] [] h0 P))))))) : METi mX10_takesKind [vr a0, vi x1] h0 P := by
  refine met_of_ex (by decide +kernel) (Nat.le_of_ble_eq_true rfl) ?_
  show EX mX10_takesKind 0 [some (vr a0), some (vi x1), none] [] h0 (0, 0) _
  refine ex_iload_n 1 dX10_takesKind_0 rfl rfl ?_
  refine ex_bipush 3 dX10_takesKind_1 rfl ⟨by decide, by decide⟩ ?_
  obtain ⟨o1, hyp⟩ := hyp
  obtain ⟨ht, hf⟩ := hyp
  refine ex_icmp_eq 18 6 dX10_takesKind_3 (by decide) rfl o1 ⟨by decide, by decide⟩ (fun c8 => ?_) (fun c8 => ?_)
  · have hyp := ht c8
    clear ht hf
    exact hyp
  · have hyp := hf c8
    clear ht hf
    refine ex_iload_n 7 dX10_takesKind_6 rfl rfl ?_
    refine ex_bipush 9 dX10_takesKind_7 rfl ⟨by decide, by decide⟩ ?_
    obtain ⟨ht, hf⟩ := hyp
    refine ex_icmp_eq 18 12 dX10_takesKind_9 (by decide) rfl o1 ⟨by decide, by decide⟩ (fun c7 => ?_) (fun c7 => ?_)
    · have hyp := ht c7
      clear ht hf
      exact hyp
    · have hyp := hf c7
      clear ht hf
      refine ex_iload_n 13 dX10_takesKind_12 rfl rfl ?_
      refine ex_bipush 15 dX10_takesKind_13 rfl ⟨by decide, by decide⟩ ?_
      obtain ⟨ht, hf⟩ := hyp
      refine ex_icmp_ne 22 18 dX10_takesKind_15 (by decide) rfl o1 ⟨by decide, by decide⟩ (fun c6 => ?_) (fun c6 => ?_)
      · have hyp := ht c6
        clear ht hf
        refine ex_iconst 23 dX10_takesKind_22 rfl ?_
        refine q_istore_n [some (vr a0), some (vi x1), some (vi 0)] 24 dX10_takesKind_23 rfl (Nat.le_of_ble_eq_true rfl) rfl rfl ?_
        refine ex_iload_n 25 dX10_takesKind_24 rfl rfl ?_
        refine ex_if_eq 98 28 dX10_takesKind_25 (by decide) rfl ⟨by decide, by decide⟩ (fun _ => ?_) (fun c => absurd c (by decide))
        refine ex_aload_n 99 dX10_takesKind_98 rfl rfl ?_
        refine ex_iload_n 100 dX10_takesKind_99 rfl rfl ?_
        refine ex_iconst 101 dX10_takesKind_100 rfl ?_
        obtain ⟨o2, hyp⟩ := hyp
        refine q_callVi [vi 0, vi 1] 104 dX10_takesKind_101 rfl cvX10_90 rfl rfl ⟨Nat.le_of_ble_eq_true rfl, Nat.le_of_ble_eq_true rfl⟩ (Nat.le_of_ble_eq_true rfl) o2 hyp (fun y5 h3 k4 hyp => ?_)
        exact ex_iret dX10_takesKind_104 (Or.inr ⟨rfl, hyp.1⟩) ⟨_, rfl, hyp.2⟩
      · have hyp := hf c6
        clear ht hf
        exact hyp
set_option maxRecDepth 4000 in
theorem tX10_takesKind_18 {P : Int → PH → Prop} (h0 : PH) (a0 : Nat) (x1 : Int) (hyp : OB h0 10 a0 ∧ ∃ r2 : Nat, h0.2.2 a0 14 = some r2 ∧ rng x1 ∧ (¬ x1 = 98 → ((¬ x1 = 119 → (AI h0 20 r2 (h0.2.1 a0 13) ∧ ∀ h6 : PH, h6 = px_upI h0 r2 (h0.2.1 a0 13).toNat 2 → (∃ r9 : Nat, h6.2.2 a0 15 = some r9 ∧ AI h6 20 r9 (h6.2.1 a0 13) ∧ ∀ h12 : PH, h12 = px_upI h6 r9 (h6.2.1 a0 13).toNat 0 → (∃ r15 : Nat, h12.2.2 a0 16 = some r15 ∧ AI h12 20 r15 (h12.2.1 a0 13) ∧ ∀ h18 : PH, h18 = px_upI h12 r15 (h12.2.1 a0 13).toNat (-1) → (∃ r21 : Nat, h18.2.2 a0 17 = some r21 ∧ AI h18 20 r21 (h18.2.1 a0 13) ∧ ∀ h24 : PH, h24 = px_upI h18 r21 (h18.2.1 a0 13).toNat 0 → (∀ h27 : PH, h27 = px_upI h24 a0 13 ((h24.2.1 a0 13) + 1) → (METi mX10_goes [vr a0, vi 1, vi 1] h27 (fun y32 h30 => h30.1 = h27.1 → ((y32 = 0 ∨ y32 = 1) ∧ P y32 h30))))))))) ∧ (x1 = 119 → (AI h0 20 r2 (h0.2.1 a0 13) ∧ ∀ h34 : PH, h34 = px_upI h0 r2 (h0.2.1 a0 13).toNat 1 → (∃ r37 : Nat, h34.2.2 a0 15 = some r37 ∧ AI h34 20 r37 (h34.2.1 a0 13) ∧ ∀ h40 : PH, h40 = px_upI h34 r37 (h34.2.1 a0 13).toNat 0 → (∃ r43 : Nat, h40.2.2 a0 16 = some r43 ∧ AI h40 20 r43 (h40.2.1 a0 13) ∧ ∀ h46 : PH, h46 = px_upI h40 r43 (h40.2.1 a0 13).toNat (-1) → (∃ r49 : Nat, h46.2.2 a0 17 = some r49 ∧ AI h46 20 r49 (h46.2.1 a0 13) ∧ ∀ h52 : PH, h52 = px_upI h46 r49 (h46.2.1 a0 13).toNat 0 → (∀ h55 : PH, h55 = px_upI h52 a0 13 ((h52.2.1 a0 13) + 1) → (METi mX10_goes [vr a0, vi 1, vi 1] h55 (fun y60 h58 => h58.1 = h55.1 → ((y60 = 0 ∨ y60 = 1) ∧ P y60 h58))))))))))) ∧ (x1 = 98 → (AI h0 20 r2 (h0.2.1 a0 13) ∧ ∀ h63 : PH, h63 = px_upI h0 r2 (h0.2.1 a0 13).toNat 0 → (∃ r66 : Nat, h63.2.2 a0 15 = some r66 ∧ AI h63 20 r66 (h63.2.1 a0 13) ∧ ∀ h69 : PH, h69 = px_upI h63 r66 (h63.2.1 a0 13).toNat 0 → (∃ r72 : Nat, h69.2.2 a0 16 = some r72 ∧ AI h69 20 r72 (h69.2.1 a0 13) ∧ ∀ h75 : PH, h75 = px_upI h69 r72 (h69.2.1 a0 13).toNat (-1) → (∃ r78 : Nat, h75.2.2 a0 17 = some r78 ∧ AI h75 20 r78 (h75.2.1 a0 13) ∧ ∀ h81 : PH, h81 = px_upI h75 r78 (h75.2.1 a0 13).toNat 0 → (∀ h84 : PH, h84 = px_upI h81 a0 13 ((h81.2.1 a0 13) + 1) → (METi mX10_goes [vr a0, vi 1, vi 1] h84 (fun y89 h87 => h87.1 = h84.1 → ((y89 = 0 ∨ y89 = 1) ∧ P y89 h87)))))))))) : EXi mX10_takesKind 18 [some (vr a0), some (vi x1), none] [] h0 P := by
  refine ex_iconst 19 dX10_takesKind_18 rfl ?_
  refine ex_goto 23 dX10_takesKind_19 (by decide) ?_
  refine q_istore_n [some (vr a0), some (vi x1), some (vi 1)] 24 dX10_takesKind_23 rfl (Nat.le_of_ble_eq_true rfl) rfl rfl ?_
  refine ex_iload_n 25 dX10_takesKind_24 rfl rfl ?_
  refine ex_if_eq 98 28 dX10_takesKind_25 (by decide) rfl ⟨by decide, by decide⟩ (fun c => absurd c (by decide)) (fun _ => ?_)
  refine ex_aload_n 29 dX10_takesKind_28 rfl rfl ?_
  obtain ⟨o1, hyp⟩ := hyp
  obtain ⟨r2, f3, hyp⟩ := hyp
  refine q_getR 10 14 32 dX10_takesKind_29 rfl fiX10_34 rfl o1 f3 ?_
  refine ex_aload_n 33 dX10_takesKind_32 rfl rfl ?_
  refine q_getI 10 13 36 dX10_takesKind_33 rfl fiX10_87 (Or.inl rfl) o1 ?_
  refine ex_iload_n 37 dX10_takesKind_36 rfl rfl ?_
  refine ex_bipush 39 dX10_takesKind_37 rfl ⟨by decide, by decide⟩ ?_
  obtain ⟨o4, hyp⟩ := hyp
  obtain ⟨ht, hf⟩ := hyp
  refine ex_icmp_ne 46 42 dX10_takesKind_39 (by decide) rfl o4 ⟨by decide, by decide⟩ (fun c90 => ?_) (fun c90 => ?_)
  · have hyp := ht c90
    clear ht hf
    refine ex_iload_n 47 dX10_takesKind_46 rfl rfl ?_
    refine ex_bipush 49 dX10_takesKind_47 rfl ⟨by decide, by decide⟩ ?_
    obtain ⟨ht, hf⟩ := hyp
    refine ex_icmp_ne 56 52 dX10_takesKind_49 (by decide) rfl o4 ⟨by decide, by decide⟩ (fun c61 => ?_) (fun c61 => ?_)
    · have hyp := ht c61
      clear ht hf
      refine ex_iconst 57 dX10_takesKind_56 rfl ?_
      obtain ⟨o5, hyp⟩ := hyp
      refine ex_iast 58 dX10_takesKind_57 rfl o5 (fun h6 e7 => ?_)
      have hyp := hyp h6 e7
      refine ex_aload_n 59 dX10_takesKind_58 rfl rfl ?_
      have f8 := OB.of (KI e7) o1
      obtain ⟨r9, f10, hyp⟩ := hyp
      refine q_getR 10 15 62 dX10_takesKind_59 rfl fiX10_37 rfl f8 f10 ?_
      refine ex_aload_n 63 dX10_takesKind_62 rfl rfl ?_
      refine q_getI 10 13 66 dX10_takesKind_63 rfl fiX10_87 (Or.inl rfl) f8 ?_
      refine ex_iconst 67 dX10_takesKind_66 rfl ?_
      obtain ⟨o11, hyp⟩ := hyp
      refine ex_iast 68 dX10_takesKind_67 rfl o11 (fun h12 e13 => ?_)
      have hyp := hyp h12 e13
      refine ex_aload_n 69 dX10_takesKind_68 rfl rfl ?_
      have f14 := OB.of (KI e13) f8
      obtain ⟨r15, f16, hyp⟩ := hyp
      refine q_getR 10 16 72 dX10_takesKind_69 rfl fiX10_40 rfl f14 f16 ?_
      refine ex_aload_n 73 dX10_takesKind_72 rfl rfl ?_
      refine q_getI 10 13 76 dX10_takesKind_73 rfl fiX10_87 (Or.inl rfl) f14 ?_
      refine ex_iconst 77 dX10_takesKind_76 rfl ?_
      obtain ⟨o17, hyp⟩ := hyp
      refine ex_iast 78 dX10_takesKind_77 rfl o17 (fun h18 e19 => ?_)
      have hyp := hyp h18 e19
      refine ex_aload_n 79 dX10_takesKind_78 rfl rfl ?_
      have f20 := OB.of (KI e19) f14
      obtain ⟨r21, f22, hyp⟩ := hyp
      refine q_getR 10 17 82 dX10_takesKind_79 rfl fiX10_43 rfl f20 f22 ?_
      refine ex_aload_n 83 dX10_takesKind_82 rfl rfl ?_
      refine q_getI 10 13 86 dX10_takesKind_83 rfl fiX10_87 (Or.inl rfl) f20 ?_
      refine ex_iconst 87 dX10_takesKind_86 rfl ?_
      obtain ⟨o23, hyp⟩ := hyp
      refine ex_iast 88 dX10_takesKind_87 rfl o23 (fun h24 e25 => ?_)
      have hyp := hyp h24 e25
      refine ex_aload_n 89 dX10_takesKind_88 rfl rfl ?_
      refine ex_dup 90 dX10_takesKind_89 rfl rfl ?_
      have f26 := OB.of (KI e25) f20
      refine q_getI 10 13 93 dX10_takesKind_90 rfl fiX10_87 (Or.inl rfl) f26 ?_
      refine ex_iconst 94 dX10_takesKind_93 rfl ?_
      refine ex_iadd 95 dX10_takesKind_94 rfl ?_
      refine q_putI 10 13 98 dX10_takesKind_95 rfl fiX10_87 ff10_13 rfl f26 (fun h27 e28 => ?_)
      have hyp := hyp h27 e28
      refine ex_aload_n 99 dX10_takesKind_98 rfl rfl ?_
      refine ex_iload_n 100 dX10_takesKind_99 rfl rfl ?_
      refine ex_iconst 101 dX10_takesKind_100 rfl ?_
      have f29 := OB.of (KI e28) f26
      refine q_callVi [vi 1, vi 1] 104 dX10_takesKind_101 rfl cvX10_90 rfl rfl ⟨Nat.le_of_ble_eq_true rfl, Nat.le_of_ble_eq_true rfl⟩ (Nat.le_of_ble_eq_true rfl) f29 hyp (fun y32 h30 k31 hyp => ?_)
      exact ex_iret dX10_takesKind_104 (Or.inr ⟨rfl, hyp.1⟩) ⟨_, rfl, hyp.2⟩
    · have hyp := hf c61
      clear ht hf
      refine ex_iconst 53 dX10_takesKind_52 rfl ?_
      refine ex_goto 57 dX10_takesKind_53 (by decide) ?_
      obtain ⟨o33, hyp⟩ := hyp
      refine ex_iast 58 dX10_takesKind_57 rfl o33 (fun h34 e35 => ?_)
      have hyp := hyp h34 e35
      refine ex_aload_n 59 dX10_takesKind_58 rfl rfl ?_
      have f36 := OB.of (KI e35) o1
      obtain ⟨r37, f38, hyp⟩ := hyp
      refine q_getR 10 15 62 dX10_takesKind_59 rfl fiX10_37 rfl f36 f38 ?_
      refine ex_aload_n 63 dX10_takesKind_62 rfl rfl ?_
      refine q_getI 10 13 66 dX10_takesKind_63 rfl fiX10_87 (Or.inl rfl) f36 ?_
      refine ex_iconst 67 dX10_takesKind_66 rfl ?_
      obtain ⟨o39, hyp⟩ := hyp
      refine ex_iast 68 dX10_takesKind_67 rfl o39 (fun h40 e41 => ?_)
      have hyp := hyp h40 e41
      refine ex_aload_n 69 dX10_takesKind_68 rfl rfl ?_
      have f42 := OB.of (KI e41) f36
      obtain ⟨r43, f44, hyp⟩ := hyp
      refine q_getR 10 16 72 dX10_takesKind_69 rfl fiX10_40 rfl f42 f44 ?_
      refine ex_aload_n 73 dX10_takesKind_72 rfl rfl ?_
      refine q_getI 10 13 76 dX10_takesKind_73 rfl fiX10_87 (Or.inl rfl) f42 ?_
      refine ex_iconst 77 dX10_takesKind_76 rfl ?_
      obtain ⟨o45, hyp⟩ := hyp
      refine ex_iast 78 dX10_takesKind_77 rfl o45 (fun h46 e47 => ?_)
      have hyp := hyp h46 e47
      refine ex_aload_n 79 dX10_takesKind_78 rfl rfl ?_
      have f48 := OB.of (KI e47) f42
      obtain ⟨r49, f50, hyp⟩ := hyp
      refine q_getR 10 17 82 dX10_takesKind_79 rfl fiX10_43 rfl f48 f50 ?_
      refine ex_aload_n 83 dX10_takesKind_82 rfl rfl ?_
      refine q_getI 10 13 86 dX10_takesKind_83 rfl fiX10_87 (Or.inl rfl) f48 ?_
      refine ex_iconst 87 dX10_takesKind_86 rfl ?_
      obtain ⟨o51, hyp⟩ := hyp
      refine ex_iast 88 dX10_takesKind_87 rfl o51 (fun h52 e53 => ?_)
      have hyp := hyp h52 e53
      refine ex_aload_n 89 dX10_takesKind_88 rfl rfl ?_
      refine ex_dup 90 dX10_takesKind_89 rfl rfl ?_
      have f54 := OB.of (KI e53) f48
      refine q_getI 10 13 93 dX10_takesKind_90 rfl fiX10_87 (Or.inl rfl) f54 ?_
      refine ex_iconst 94 dX10_takesKind_93 rfl ?_
      refine ex_iadd 95 dX10_takesKind_94 rfl ?_
      refine q_putI 10 13 98 dX10_takesKind_95 rfl fiX10_87 ff10_13 rfl f54 (fun h55 e56 => ?_)
      have hyp := hyp h55 e56
      refine ex_aload_n 99 dX10_takesKind_98 rfl rfl ?_
      refine ex_iload_n 100 dX10_takesKind_99 rfl rfl ?_
      refine ex_iconst 101 dX10_takesKind_100 rfl ?_
      have f57 := OB.of (KI e56) f54
      refine q_callVi [vi 1, vi 1] 104 dX10_takesKind_101 rfl cvX10_90 rfl rfl ⟨Nat.le_of_ble_eq_true rfl, Nat.le_of_ble_eq_true rfl⟩ (Nat.le_of_ble_eq_true rfl) f57 hyp (fun y60 h58 k59 hyp => ?_)
      exact ex_iret dX10_takesKind_104 (Or.inr ⟨rfl, hyp.1⟩) ⟨_, rfl, hyp.2⟩
  · have hyp := hf c90
    clear ht hf
    refine ex_iconst 43 dX10_takesKind_42 rfl ?_
    refine ex_goto 57 dX10_takesKind_43 (by decide) ?_
    obtain ⟨o62, hyp⟩ := hyp
    refine ex_iast 58 dX10_takesKind_57 rfl o62 (fun h63 e64 => ?_)
    have hyp := hyp h63 e64
    refine ex_aload_n 59 dX10_takesKind_58 rfl rfl ?_
    have f65 := OB.of (KI e64) o1
    obtain ⟨r66, f67, hyp⟩ := hyp
    refine q_getR 10 15 62 dX10_takesKind_59 rfl fiX10_37 rfl f65 f67 ?_
    refine ex_aload_n 63 dX10_takesKind_62 rfl rfl ?_
    refine q_getI 10 13 66 dX10_takesKind_63 rfl fiX10_87 (Or.inl rfl) f65 ?_
    refine ex_iconst 67 dX10_takesKind_66 rfl ?_
    obtain ⟨o68, hyp⟩ := hyp
    refine ex_iast 68 dX10_takesKind_67 rfl o68 (fun h69 e70 => ?_)
    have hyp := hyp h69 e70
    refine ex_aload_n 69 dX10_takesKind_68 rfl rfl ?_
    have f71 := OB.of (KI e70) f65
    obtain ⟨r72, f73, hyp⟩ := hyp
    refine q_getR 10 16 72 dX10_takesKind_69 rfl fiX10_40 rfl f71 f73 ?_
    refine ex_aload_n 73 dX10_takesKind_72 rfl rfl ?_
    refine q_getI 10 13 76 dX10_takesKind_73 rfl fiX10_87 (Or.inl rfl) f71 ?_
    refine ex_iconst 77 dX10_takesKind_76 rfl ?_
    obtain ⟨o74, hyp⟩ := hyp
    refine ex_iast 78 dX10_takesKind_77 rfl o74 (fun h75 e76 => ?_)
    have hyp := hyp h75 e76
    refine ex_aload_n 79 dX10_takesKind_78 rfl rfl ?_
    have f77 := OB.of (KI e76) f71
    obtain ⟨r78, f79, hyp⟩ := hyp
    refine q_getR 10 17 82 dX10_takesKind_79 rfl fiX10_43 rfl f77 f79 ?_
    refine ex_aload_n 83 dX10_takesKind_82 rfl rfl ?_
    refine q_getI 10 13 86 dX10_takesKind_83 rfl fiX10_87 (Or.inl rfl) f77 ?_
    refine ex_iconst 87 dX10_takesKind_86 rfl ?_
    obtain ⟨o80, hyp⟩ := hyp
    refine ex_iast 88 dX10_takesKind_87 rfl o80 (fun h81 e82 => ?_)
    have hyp := hyp h81 e82
    refine ex_aload_n 89 dX10_takesKind_88 rfl rfl ?_
    refine ex_dup 90 dX10_takesKind_89 rfl rfl ?_
    have f83 := OB.of (KI e82) f77
    refine q_getI 10 13 93 dX10_takesKind_90 rfl fiX10_87 (Or.inl rfl) f83 ?_
    refine ex_iconst 94 dX10_takesKind_93 rfl ?_
    refine ex_iadd 95 dX10_takesKind_94 rfl ?_
    refine q_putI 10 13 98 dX10_takesKind_95 rfl fiX10_87 ff10_13 rfl f83 (fun h84 e85 => ?_)
    have hyp := hyp h84 e85
    refine ex_aload_n 99 dX10_takesKind_98 rfl rfl ?_
    refine ex_iload_n 100 dX10_takesKind_99 rfl rfl ?_
    refine ex_iconst 101 dX10_takesKind_100 rfl ?_
    have f86 := OB.of (KI e85) f83
    refine q_callVi [vi 1, vi 1] 104 dX10_takesKind_101 rfl cvX10_90 rfl rfl ⟨Nat.le_of_ble_eq_true rfl, Nat.le_of_ble_eq_true rfl⟩ (Nat.le_of_ble_eq_true rfl) f86 hyp (fun y89 h87 k88 hyp => ?_)
    exact ex_iret dX10_takesKind_104 (Or.inr ⟨rfl, hyp.1⟩) ⟨_, rfl, hyp.2⟩
set_option maxRecDepth 4000 in
theorem tX10_takesName {P : Int → PH → Prop} (h0 : PH) (a0 : Nat) (x1 : Int) (x2 : Int) (hyp : rng x1 ∧ (¬ x1 = 58 → (EXi mX10_takesName 21 [some (vr a0), some (vi x1), some (vi x2), none] [] h0 P)) ∧ (x1 = 58 → (OB h0 10 a0 ∧ rng (h0.2.1 a0 12) ∧ (¬ h0.2.1 a0 12 = 2 → (EXi mX10_takesName 21 [some (vr a0), some (vi x1), some (vi x2), none] [] h0 P)) ∧ (h0.2.1 a0 12 = 2 → (METi mX10_goes [vr a0, vi 1, vi 3] h0 (fun y6 h4 => h4.1 = h0.1 → ((y6 = 0 ∨ y6 = 1) ∧ P y6 h4))))))) : METi mX10_takesName [vr a0, vi x1, vi x2] h0 P := by
  refine met_of_ex (by decide +kernel) (Nat.le_of_ble_eq_true rfl) ?_
  show EX mX10_takesName 0 [some (vr a0), some (vi x1), some (vi x2), none] [] h0 (0, 0) _
  refine ex_iload_n 1 dX10_takesName_0 rfl rfl ?_
  refine ex_bipush 3 dX10_takesName_1 rfl ⟨by decide, by decide⟩ ?_
  obtain ⟨o1, hyp⟩ := hyp
  obtain ⟨ht, hf⟩ := hyp
  refine ex_icmp_ne 21 6 dX10_takesName_3 (by decide) rfl o1 ⟨by decide, by decide⟩ (fun c8 => ?_) (fun c8 => ?_)
  · have hyp := ht c8
    clear ht hf
    exact hyp
  · have hyp := hf c8
    clear ht hf
    refine ex_aload_n 7 dX10_takesName_6 rfl rfl ?_
    obtain ⟨o2, hyp⟩ := hyp
    refine q_getI 10 12 10 dX10_takesName_7 rfl fiX10_84 (Or.inl rfl) o2 ?_
    refine ex_iconst 11 dX10_takesName_10 rfl ?_
    obtain ⟨o3, hyp⟩ := hyp
    obtain ⟨ht, hf⟩ := hyp
    refine ex_icmp_ne 21 14 dX10_takesName_11 (by decide) rfl o3 ⟨by decide, by decide⟩ (fun c7 => ?_) (fun c7 => ?_)
    · have hyp := ht c7
      clear ht hf
      exact hyp
    · have hyp := hf c7
      clear ht hf
      refine ex_aload_n 15 dX10_takesName_14 rfl rfl ?_
      refine ex_iconst 16 dX10_takesName_15 rfl ?_
      refine ex_iconst 17 dX10_takesName_16 rfl ?_
      refine q_callVi [vi 1, vi 3] 20 dX10_takesName_17 rfl cvX10_90 rfl rfl ⟨Nat.le_of_ble_eq_true rfl, Nat.le_of_ble_eq_true rfl⟩ (Nat.le_of_ble_eq_true rfl) o2 hyp (fun y6 h4 k5 hyp => ?_)
      exact ex_iret dX10_takesName_20 (Or.inr ⟨rfl, hyp.1⟩) ⟨_, rfl, hyp.2⟩
set_option maxRecDepth 4000 in
theorem tX10_takesName_21 {P : Int → PH → Prop} (h0 : PH) (a0 : Nat) (x1 : Int) (x2 : Int) (hyp : METi mX10_within [vi x1, vi 97, vi 122] h0 (fun y3 h1 => h1.1 = h0.1 → (rng y3 ∧ (y3 = 0 → (OB h1 10 a0 ∧ METi mX10_goes [vr a0, vi 0, vi 2] h1 (fun y8 h6 => h6.1 = h1.1 → ((y8 = 0 ∨ y8 = 1) ∧ P y8 h6)))) ∧ (¬ y3 = 0 → (OB h1 10 a0 ∧ ∃ r10 : Nat, h1.2.2 a0 17 = some r10 ∧ AI h1 20 r10 x2 ∧ rng (h1.2.1 r10 (x2).toNat) ∧ (8 ≤ h1.2.1 r10 (x2).toNat → (METi mX10_goes [vr a0, vi 0, vi 2] h1 (fun y16 h14 => h14.1 = h1.1 → ((y16 = 0 ∨ y16 = 1) ∧ P y16 h14)))) ∧ (h1.2.1 r10 (x2).toNat < 8 → (∃ r17 : Nat, h1.2.2 a0 18 = some r17 ∧ AI h1 20 r17 ((8 * x2) + (h1.2.1 r10 (x2).toNat)) ∧ ∀ h20 : PH, h20 = px_upI h1 r17 ((8 * x2) + (h1.2.1 r10 (x2).toNat)).toNat x1 → (∀ h25 : PH, h25 = px_upI h20 r10 (x2).toNat ((h20.2.1 r10 (x2).toNat) + 1) → (METi mX10_goes [vr a0, vi 1, vi 2] h25 (fun y30 h28 => h28.1 = h25.1 → ((y30 = 0 ∨ y30 = 1) ∧ P y30 h28))))))))))) : EXi mX10_takesName 21 [some (vr a0), some (vi x1), some (vi x2), none] [] h0 P := by
  refine ex_iload_n 22 dX10_takesName_21 rfl rfl ?_
  refine ex_bipush 24 dX10_takesName_22 rfl ⟨by decide, by decide⟩ ?_
  refine ex_bipush 26 dX10_takesName_24 rfl ⟨by decide, by decide⟩ ?_
  refine q_callSi [vi x1, vi 97, vi 122] 29 dX10_takesName_26 rfl cvX10_76 rfl rfl ⟨Nat.le_of_ble_eq_true rfl, Nat.le_of_ble_eq_true rfl⟩ (Nat.le_of_ble_eq_true rfl) hyp (fun y3 h1 k2 hyp => ?_)
  obtain ⟨o4, hyp⟩ := hyp
  obtain ⟨ht, hf⟩ := hyp
  refine ex_if_eq 47 32 dX10_takesName_29 (by decide) rfl o4 (fun c32 => ?_) (fun c32 => ?_)
  · have hyp := ht c32
    clear ht hf
    refine ex_iconst 48 dX10_takesName_47 rfl ?_
    refine q_istore_n [some (vr a0), some (vi x1), some (vi x2), some (vi 0)] 49 dX10_takesName_48 rfl (Nat.le_of_ble_eq_true rfl) rfl rfl ?_
    refine ex_iload_n 50 dX10_takesName_49 rfl rfl ?_
    refine ex_if_eq 80 53 dX10_takesName_50 (by decide) rfl ⟨by decide, by decide⟩ (fun _ => ?_) (fun c => absurd c (by decide))
    refine ex_aload_n 81 dX10_takesName_80 rfl rfl ?_
    refine ex_iload_n 82 dX10_takesName_81 rfl rfl ?_
    refine ex_iconst 83 dX10_takesName_82 rfl ?_
    obtain ⟨o5, hyp⟩ := hyp
    refine q_callVi [vi 0, vi 2] 86 dX10_takesName_83 rfl cvX10_90 rfl rfl ⟨Nat.le_of_ble_eq_true rfl, Nat.le_of_ble_eq_true rfl⟩ (Nat.le_of_ble_eq_true rfl) o5 hyp (fun y8 h6 k7 hyp => ?_)
    exact ex_iret dX10_takesName_86 (Or.inr ⟨rfl, hyp.1⟩) ⟨_, rfl, hyp.2⟩
  · have hyp := hf c32
    clear ht hf
    refine ex_aload_n 33 dX10_takesName_32 rfl rfl ?_
    obtain ⟨o9, hyp⟩ := hyp
    obtain ⟨r10, f11, hyp⟩ := hyp
    refine q_getR 10 17 36 dX10_takesName_33 rfl fiX10_43 rfl o9 f11 ?_
    refine ex_iload_n 37 dX10_takesName_36 rfl rfl ?_
    obtain ⟨o12, hyp⟩ := hyp
    refine ex_iald 38 dX10_takesName_37 rfl o12 ?_
    refine ex_bipush 40 dX10_takesName_38 rfl ⟨by decide, by decide⟩ ?_
    obtain ⟨o13, hyp⟩ := hyp
    obtain ⟨ht, hf⟩ := hyp
    refine ex_icmp_ge 47 43 dX10_takesName_40 (by decide) rfl o13 ⟨by decide, by decide⟩ (fun c31 => ?_) (fun c31 => ?_)
    · have hyp := ht c31
      clear ht hf
      refine ex_iconst 48 dX10_takesName_47 rfl ?_
      refine q_istore_n [some (vr a0), some (vi x1), some (vi x2), some (vi 0)] 49 dX10_takesName_48 rfl (Nat.le_of_ble_eq_true rfl) rfl rfl ?_
      refine ex_iload_n 50 dX10_takesName_49 rfl rfl ?_
      refine ex_if_eq 80 53 dX10_takesName_50 (by decide) rfl ⟨by decide, by decide⟩ (fun _ => ?_) (fun c => absurd c (by decide))
      refine ex_aload_n 81 dX10_takesName_80 rfl rfl ?_
      refine ex_iload_n 82 dX10_takesName_81 rfl rfl ?_
      refine ex_iconst 83 dX10_takesName_82 rfl ?_
      refine q_callVi [vi 0, vi 2] 86 dX10_takesName_83 rfl cvX10_90 rfl rfl ⟨Nat.le_of_ble_eq_true rfl, Nat.le_of_ble_eq_true rfl⟩ (Nat.le_of_ble_eq_true rfl) o9 hyp (fun y16 h14 k15 hyp => ?_)
      exact ex_iret dX10_takesName_86 (Or.inr ⟨rfl, hyp.1⟩) ⟨_, rfl, hyp.2⟩
    · have hyp := hf c31
      clear ht hf
      refine ex_iconst 44 dX10_takesName_43 rfl ?_
      refine ex_goto 48 dX10_takesName_44 (by decide) ?_
      refine q_istore_n [some (vr a0), some (vi x1), some (vi x2), some (vi 1)] 49 dX10_takesName_48 rfl (Nat.le_of_ble_eq_true rfl) rfl rfl ?_
      refine ex_iload_n 50 dX10_takesName_49 rfl rfl ?_
      refine ex_if_eq 80 53 dX10_takesName_50 (by decide) rfl ⟨by decide, by decide⟩ (fun c => absurd c (by decide)) (fun _ => ?_)
      refine ex_aload_n 54 dX10_takesName_53 rfl rfl ?_
      obtain ⟨r17, f18, hyp⟩ := hyp
      refine q_getR 10 18 57 dX10_takesName_54 rfl fiX10_46 rfl o9 f18 ?_
      refine ex_bipush 59 dX10_takesName_57 rfl ⟨by decide, by decide⟩ ?_
      refine ex_iload_n 60 dX10_takesName_59 rfl rfl ?_
      refine ex_imul 61 dX10_takesName_60 rfl ?_
      refine ex_aload_n 62 dX10_takesName_61 rfl rfl ?_
      refine q_getR 10 17 65 dX10_takesName_62 rfl fiX10_43 rfl o9 f11 ?_
      refine ex_iload_n 66 dX10_takesName_65 rfl rfl ?_
      refine ex_iald 67 dX10_takesName_66 rfl o12 ?_
      refine ex_iadd 68 dX10_takesName_67 rfl ?_
      refine ex_iload_n 69 dX10_takesName_68 rfl rfl ?_
      obtain ⟨o19, hyp⟩ := hyp
      refine ex_iast 70 dX10_takesName_69 rfl o19 (fun h20 e21 => ?_)
      have hyp := hyp h20 e21
      refine ex_aload_n 71 dX10_takesName_70 rfl rfl ?_
      have f22 := OB.of (KI e21) o9
      have f23 := RI e21 f11
      refine q_getR 10 17 74 dX10_takesName_71 rfl fiX10_43 rfl f22 f23 ?_
      refine ex_iload_n 75 dX10_takesName_74 rfl rfl ?_
      refine ex_dup2 76 dX10_takesName_75 rfl rfl rfl ?_
      have f24 := AI.of (KI e21) o12
      refine ex_iald 77 dX10_takesName_76 rfl f24 ?_
      refine ex_iconst 78 dX10_takesName_77 rfl ?_
      refine ex_iadd 79 dX10_takesName_78 rfl ?_
      refine ex_iast 80 dX10_takesName_79 rfl f24 (fun h25 e26 => ?_)
      have hyp := hyp h25 e26
      refine ex_aload_n 81 dX10_takesName_80 rfl rfl ?_
      refine ex_iload_n 82 dX10_takesName_81 rfl rfl ?_
      refine ex_iconst 83 dX10_takesName_82 rfl ?_
      have f27 := OB.of (KI e26) f22
      refine q_callVi [vi 1, vi 2] 86 dX10_takesName_83 rfl cvX10_90 rfl rfl ⟨Nat.le_of_ble_eq_true rfl, Nat.le_of_ble_eq_true rfl⟩ (Nat.le_of_ble_eq_true rfl) f27 hyp (fun y30 h28 k29 hyp => ?_)
      exact ex_iret dX10_takesName_86 (Or.inr ⟨rfl, hyp.1⟩) ⟨_, rfl, hyp.2⟩
set_option maxRecDepth 4000 in
theorem tX10_takesYear {P : Int → PH → Prop} (h0 : PH) (a0 : Nat) (x1 : Int) (x2 : Int) (hyp : OB h0 10 a0 ∧ rng (h0.2.1 a0 12) ∧ (¬ h0.2.1 a0 12 = 3 → ((¬ h0.2.1 a0 12 = 4 → (METi mX10_within [vi (x1 - 48), vi 0, vi 9] h0 (fun y5 h3 => h3.1 = h0.1 → (∃ r7 : Nat, h3.2.2 a0 15 = some r7 ∧ AI h3 20 r7 x2 ∧ ∀ h10 : PH, h10 = px_upI h3 r7 (x2).toNat ((10 * (h3.2.1 r7 (x2).toNat)) + (x1 - 48)) → (METi mX10_goes [vr a0, vi y5, vi ((h10.2.1 a0 12) + 1)] h10 (fun y15 h13 => h13.1 = h10.1 → ((y15 = 0 ∨ y15 = 1) ∧ P y15 h13))))))) ∧ (h0.2.1 a0 12 = 4 → (METi mX10_within [vi (x1 - 48), vi 6, vi 8] h0 (fun y18 h16 => h16.1 = h0.1 → (∃ r20 : Nat, h16.2.2 a0 15 = some r20 ∧ AI h16 20 r20 x2 ∧ ∀ h23 : PH, h23 = px_upI h16 r20 (x2).toNat ((10 * (h16.2.1 r20 (x2).toNat)) + (x1 - 48)) → (METi mX10_goes [vr a0, vi y18, vi ((h23.2.1 a0 12) + 1)] h23 (fun y28 h26 => h26.1 = h23.1 → ((y28 = 0 ∨ y28 = 1) ∧ P y28 h26))))))))) ∧ (h0.2.1 a0 12 = 3 → (rng (x1 - 48) ∧ (¬ x1 - 48 = 1 → (∃ r31 : Nat, h0.2.2 a0 15 = some r31 ∧ AI h0 20 r31 x2 ∧ ∀ h34 : PH, h34 = px_upI h0 r31 (x2).toNat ((10 * (h0.2.1 r31 (x2).toNat)) + (x1 - 48)) → (METi mX10_goes [vr a0, vi 0, vi ((h34.2.1 a0 12) + 1)] h34 (fun y39 h37 => h37.1 = h34.1 → ((y39 = 0 ∨ y39 = 1) ∧ P y39 h37))))) ∧ (x1 - 48 = 1 → (∃ r40 : Nat, h0.2.2 a0 15 = some r40 ∧ AI h0 20 r40 x2 ∧ ∀ h43 : PH, h43 = px_upI h0 r40 (x2).toNat ((10 * (h0.2.1 r40 (x2).toNat)) + (x1 - 48)) → (METi mX10_goes [vr a0, vi 1, vi ((h43.2.1 a0 12) + 1)] h43 (fun y48 h46 => h46.1 = h43.1 → ((y48 = 0 ∨ y48 = 1) ∧ P y48 h46)))))))) : METi mX10_takesYear [vr a0, vi x1, vi x2] h0 P := by
  refine met_of_ex (by decide +kernel) (Nat.le_of_ble_eq_true rfl) ?_
  show EX mX10_takesYear 0 [some (vr a0), some (vi x1), some (vi x2), none, none] [] h0 (0, 0) _
  refine ex_iload_n 1 dX10_takesYear_0 rfl rfl ?_
  refine ex_bipush 3 dX10_takesYear_1 rfl ⟨by decide, by decide⟩ ?_
  refine ex_isub 4 dX10_takesYear_3 rfl ?_
  refine q_istore_n [some (vr a0), some (vi x1), some (vi x2), some (vi (x1 - 48)), none] 5 dX10_takesYear_4 rfl (Nat.le_of_ble_eq_true rfl) rfl rfl ?_
  refine ex_aload_n 6 dX10_takesYear_5 rfl rfl ?_
  obtain ⟨o1, hyp⟩ := hyp
  refine q_getI 10 12 9 dX10_takesYear_6 rfl fiX10_84 (Or.inl rfl) o1 ?_
  refine ex_iconst 10 dX10_takesYear_9 rfl ?_
  obtain ⟨o2, hyp⟩ := hyp
  obtain ⟨ht, hf⟩ := hyp
  refine ex_icmp_ne 26 13 dX10_takesYear_10 (by decide) rfl o2 ⟨by decide, by decide⟩ (fun c50 => ?_) (fun c50 => ?_)
  · have hyp := ht c50
    clear ht hf
    refine ex_aload_n 27 dX10_takesYear_26 rfl rfl ?_
    refine q_getI 10 12 30 dX10_takesYear_27 rfl fiX10_84 (Or.inl rfl) o1 ?_
    refine ex_iconst 31 dX10_takesYear_30 rfl ?_
    obtain ⟨ht, hf⟩ := hyp
    refine ex_icmp_ne 45 34 dX10_takesYear_31 (by decide) rfl o2 ⟨by decide, by decide⟩ (fun c29 => ?_) (fun c29 => ?_)
    · have hyp := ht c29
      clear ht hf
      refine ex_iload_n 46 dX10_takesYear_45 rfl rfl ?_
      refine ex_iconst 47 dX10_takesYear_46 rfl ?_
      refine ex_bipush 49 dX10_takesYear_47 rfl ⟨by decide, by decide⟩ ?_
      refine q_callSi [vi (x1 - 48), vi 0, vi 9] 52 dX10_takesYear_49 rfl cvX10_76 rfl rfl ⟨Nat.le_of_ble_eq_true rfl, Nat.le_of_ble_eq_true rfl⟩ (Nat.le_of_ble_eq_true rfl) hyp (fun y5 h3 k4 hyp => ?_)
      refine q_istore [some (vr a0), some (vi x1), some (vi x2), some (vi (x1 - 48)), some (vi y5)] 54 dX10_takesYear_52 rfl (Nat.le_of_ble_eq_true rfl) rfl rfl ?_
      refine ex_aload_n 55 dX10_takesYear_54 rfl rfl ?_
      have f6 := OB.of k4 o1
      obtain ⟨r7, f8, hyp⟩ := hyp
      refine q_getR 10 15 58 dX10_takesYear_55 rfl fiX10_37 rfl f6 f8 ?_
      refine ex_iload_n 59 dX10_takesYear_58 rfl rfl ?_
      refine ex_bipush 61 dX10_takesYear_59 rfl ⟨by decide, by decide⟩ ?_
      refine ex_aload_n 62 dX10_takesYear_61 rfl rfl ?_
      refine q_getR 10 15 65 dX10_takesYear_62 rfl fiX10_37 rfl f6 f8 ?_
      refine ex_iload_n 66 dX10_takesYear_65 rfl rfl ?_
      obtain ⟨o9, hyp⟩ := hyp
      refine ex_iald 67 dX10_takesYear_66 rfl o9 ?_
      refine ex_imul 68 dX10_takesYear_67 rfl ?_
      refine ex_iload_n 69 dX10_takesYear_68 rfl rfl ?_
      refine ex_iadd 70 dX10_takesYear_69 rfl ?_
      refine ex_iast 71 dX10_takesYear_70 rfl o9 (fun h10 e11 => ?_)
      have hyp := hyp h10 e11
      refine ex_aload_n 72 dX10_takesYear_71 rfl rfl ?_
      refine ex_iload 74 dX10_takesYear_72 rfl rfl ?_
      refine ex_aload_n 75 dX10_takesYear_74 rfl rfl ?_
      have f12 := OB.of (KI e11) f6
      refine q_getI 10 12 78 dX10_takesYear_75 rfl fiX10_84 (Or.inl rfl) f12 ?_
      refine ex_iconst 79 dX10_takesYear_78 rfl ?_
      refine ex_iadd 80 dX10_takesYear_79 rfl ?_
      refine q_callVi [vi y5, vi ((h10.2.1 a0 12) + 1)] 83 dX10_takesYear_80 rfl cvX10_90 rfl rfl ⟨Nat.le_of_ble_eq_true rfl, Nat.le_of_ble_eq_true rfl⟩ (Nat.le_of_ble_eq_true rfl) f12 hyp (fun y15 h13 k14 hyp => ?_)
      exact ex_iret dX10_takesYear_83 (Or.inr ⟨rfl, hyp.1⟩) ⟨_, rfl, hyp.2⟩
    · have hyp := hf c29
      clear ht hf
      refine ex_iload_n 35 dX10_takesYear_34 rfl rfl ?_
      refine ex_bipush 37 dX10_takesYear_35 rfl ⟨by decide, by decide⟩ ?_
      refine ex_bipush 39 dX10_takesYear_37 rfl ⟨by decide, by decide⟩ ?_
      refine q_callSi [vi (x1 - 48), vi 6, vi 8] 42 dX10_takesYear_39 rfl cvX10_76 rfl rfl ⟨Nat.le_of_ble_eq_true rfl, Nat.le_of_ble_eq_true rfl⟩ (Nat.le_of_ble_eq_true rfl) hyp (fun y18 h16 k17 hyp => ?_)
      refine ex_goto 52 dX10_takesYear_42 (by decide) ?_
      refine q_istore [some (vr a0), some (vi x1), some (vi x2), some (vi (x1 - 48)), some (vi y18)] 54 dX10_takesYear_52 rfl (Nat.le_of_ble_eq_true rfl) rfl rfl ?_
      refine ex_aload_n 55 dX10_takesYear_54 rfl rfl ?_
      have f19 := OB.of k17 o1
      obtain ⟨r20, f21, hyp⟩ := hyp
      refine q_getR 10 15 58 dX10_takesYear_55 rfl fiX10_37 rfl f19 f21 ?_
      refine ex_iload_n 59 dX10_takesYear_58 rfl rfl ?_
      refine ex_bipush 61 dX10_takesYear_59 rfl ⟨by decide, by decide⟩ ?_
      refine ex_aload_n 62 dX10_takesYear_61 rfl rfl ?_
      refine q_getR 10 15 65 dX10_takesYear_62 rfl fiX10_37 rfl f19 f21 ?_
      refine ex_iload_n 66 dX10_takesYear_65 rfl rfl ?_
      obtain ⟨o22, hyp⟩ := hyp
      refine ex_iald 67 dX10_takesYear_66 rfl o22 ?_
      refine ex_imul 68 dX10_takesYear_67 rfl ?_
      refine ex_iload_n 69 dX10_takesYear_68 rfl rfl ?_
      refine ex_iadd 70 dX10_takesYear_69 rfl ?_
      refine ex_iast 71 dX10_takesYear_70 rfl o22 (fun h23 e24 => ?_)
      have hyp := hyp h23 e24
      refine ex_aload_n 72 dX10_takesYear_71 rfl rfl ?_
      refine ex_iload 74 dX10_takesYear_72 rfl rfl ?_
      refine ex_aload_n 75 dX10_takesYear_74 rfl rfl ?_
      have f25 := OB.of (KI e24) f19
      refine q_getI 10 12 78 dX10_takesYear_75 rfl fiX10_84 (Or.inl rfl) f25 ?_
      refine ex_iconst 79 dX10_takesYear_78 rfl ?_
      refine ex_iadd 80 dX10_takesYear_79 rfl ?_
      refine q_callVi [vi y18, vi ((h23.2.1 a0 12) + 1)] 83 dX10_takesYear_80 rfl cvX10_90 rfl rfl ⟨Nat.le_of_ble_eq_true rfl, Nat.le_of_ble_eq_true rfl⟩ (Nat.le_of_ble_eq_true rfl) f25 hyp (fun y28 h26 k27 hyp => ?_)
      exact ex_iret dX10_takesYear_83 (Or.inr ⟨rfl, hyp.1⟩) ⟨_, rfl, hyp.2⟩
  · have hyp := hf c50
    clear ht hf
    refine ex_iload_n 14 dX10_takesYear_13 rfl rfl ?_
    refine ex_iconst 15 dX10_takesYear_14 rfl ?_
    obtain ⟨o30, hyp⟩ := hyp
    obtain ⟨ht, hf⟩ := hyp
    refine ex_icmp_ne 22 18 dX10_takesYear_15 (by decide) rfl o30 ⟨by decide, by decide⟩ (fun c49 => ?_) (fun c49 => ?_)
    · have hyp := ht c49
      clear ht hf
      refine ex_iconst 23 dX10_takesYear_22 rfl ?_
      refine ex_goto 52 dX10_takesYear_23 (by decide) ?_
      refine q_istore [some (vr a0), some (vi x1), some (vi x2), some (vi (x1 - 48)), some (vi 0)] 54 dX10_takesYear_52 rfl (Nat.le_of_ble_eq_true rfl) rfl rfl ?_
      refine ex_aload_n 55 dX10_takesYear_54 rfl rfl ?_
      obtain ⟨r31, f32, hyp⟩ := hyp
      refine q_getR 10 15 58 dX10_takesYear_55 rfl fiX10_37 rfl o1 f32 ?_
      refine ex_iload_n 59 dX10_takesYear_58 rfl rfl ?_
      refine ex_bipush 61 dX10_takesYear_59 rfl ⟨by decide, by decide⟩ ?_
      refine ex_aload_n 62 dX10_takesYear_61 rfl rfl ?_
      refine q_getR 10 15 65 dX10_takesYear_62 rfl fiX10_37 rfl o1 f32 ?_
      refine ex_iload_n 66 dX10_takesYear_65 rfl rfl ?_
      obtain ⟨o33, hyp⟩ := hyp
      refine ex_iald 67 dX10_takesYear_66 rfl o33 ?_
      refine ex_imul 68 dX10_takesYear_67 rfl ?_
      refine ex_iload_n 69 dX10_takesYear_68 rfl rfl ?_
      refine ex_iadd 70 dX10_takesYear_69 rfl ?_
      refine ex_iast 71 dX10_takesYear_70 rfl o33 (fun h34 e35 => ?_)
      have hyp := hyp h34 e35
      refine ex_aload_n 72 dX10_takesYear_71 rfl rfl ?_
      refine ex_iload 74 dX10_takesYear_72 rfl rfl ?_
      refine ex_aload_n 75 dX10_takesYear_74 rfl rfl ?_
      have f36 := OB.of (KI e35) o1
      refine q_getI 10 12 78 dX10_takesYear_75 rfl fiX10_84 (Or.inl rfl) f36 ?_
      refine ex_iconst 79 dX10_takesYear_78 rfl ?_
      refine ex_iadd 80 dX10_takesYear_79 rfl ?_
      refine q_callVi [vi 0, vi ((h34.2.1 a0 12) + 1)] 83 dX10_takesYear_80 rfl cvX10_90 rfl rfl ⟨Nat.le_of_ble_eq_true rfl, Nat.le_of_ble_eq_true rfl⟩ (Nat.le_of_ble_eq_true rfl) f36 hyp (fun y39 h37 k38 hyp => ?_)
      exact ex_iret dX10_takesYear_83 (Or.inr ⟨rfl, hyp.1⟩) ⟨_, rfl, hyp.2⟩
    · have hyp := hf c49
      clear ht hf
      refine ex_iconst 19 dX10_takesYear_18 rfl ?_
      refine ex_goto 52 dX10_takesYear_19 (by decide) ?_
      refine q_istore [some (vr a0), some (vi x1), some (vi x2), some (vi (x1 - 48)), some (vi 1)] 54 dX10_takesYear_52 rfl (Nat.le_of_ble_eq_true rfl) rfl rfl ?_
      refine ex_aload_n 55 dX10_takesYear_54 rfl rfl ?_
      obtain ⟨r40, f41, hyp⟩ := hyp
      refine q_getR 10 15 58 dX10_takesYear_55 rfl fiX10_37 rfl o1 f41 ?_
      refine ex_iload_n 59 dX10_takesYear_58 rfl rfl ?_
      refine ex_bipush 61 dX10_takesYear_59 rfl ⟨by decide, by decide⟩ ?_
      refine ex_aload_n 62 dX10_takesYear_61 rfl rfl ?_
      refine q_getR 10 15 65 dX10_takesYear_62 rfl fiX10_37 rfl o1 f41 ?_
      refine ex_iload_n 66 dX10_takesYear_65 rfl rfl ?_
      obtain ⟨o42, hyp⟩ := hyp
      refine ex_iald 67 dX10_takesYear_66 rfl o42 ?_
      refine ex_imul 68 dX10_takesYear_67 rfl ?_
      refine ex_iload_n 69 dX10_takesYear_68 rfl rfl ?_
      refine ex_iadd 70 dX10_takesYear_69 rfl ?_
      refine ex_iast 71 dX10_takesYear_70 rfl o42 (fun h43 e44 => ?_)
      have hyp := hyp h43 e44
      refine ex_aload_n 72 dX10_takesYear_71 rfl rfl ?_
      refine ex_iload 74 dX10_takesYear_72 rfl rfl ?_
      refine ex_aload_n 75 dX10_takesYear_74 rfl rfl ?_
      have f45 := OB.of (KI e44) o1
      refine q_getI 10 12 78 dX10_takesYear_75 rfl fiX10_84 (Or.inl rfl) f45 ?_
      refine ex_iconst 79 dX10_takesYear_78 rfl ?_
      refine ex_iadd 80 dX10_takesYear_79 rfl ?_
      refine q_callVi [vi 1, vi ((h43.2.1 a0 12) + 1)] 83 dX10_takesYear_80 rfl cvX10_90 rfl rfl ⟨Nat.le_of_ble_eq_true rfl, Nat.le_of_ble_eq_true rfl⟩ (Nat.le_of_ble_eq_true rfl) f45 hyp (fun y48 h46 k47 hyp => ?_)
      exact ex_iret dX10_takesYear_83 (Or.inr ⟨rfl, hyp.1⟩) ⟨_, rfl, hyp.2⟩
set_option maxRecDepth 4000 in
theorem tX10_takesAge {P : Int → PH → Prop} (h0 : PH) (a0 : Nat) (x1 : Int) (x2 : Int) (hyp : OB h0 10 a0 ∧ rng (h0.2.1 a0 12) ∧ (¬ h0.2.1 a0 12 = 8 → (∃ r3 : Nat, h0.2.2 a0 16 = some r3 ∧ AI h0 20 r3 x2 ∧ METi mX10_within [vi (x1 - 48), vi 0, vi 9] h0 (fun y8 h6 => h6.1 = h0.1 → (rng y8 ∧ (y8 = 0 → (∃ r11 : Nat, h6.2.2 a0 16 = some r11 ∧ AI h6 20 r11 x2 ∧ ∀ h14 : PH, h14 = px_upI h6 r11 (x2).toNat (h6.2.1 r11 (x2).toNat) → (METi mX10_goes [vr a0, vi 0, vi 10] h14 (fun y19 h17 => h17.1 = h14.1 → ((y19 = 0 ∨ y19 = 1) ∧ P y19 h17))))) ∧ (¬ y8 = 0 → (∃ r21 : Nat, h6.2.2 a0 14 = some r21 ∧ AI h6 20 r21 x2 ∧ rng (h6.2.1 r21 (x2).toNat) ∧ (h6.2.1 r21 (x2).toNat = 2 → (∃ r25 : Nat, h6.2.2 a0 16 = some r25 ∧ AI h6 20 r25 x2 ∧ ∀ h28 : PH, h28 = px_upI h6 r25 (x2).toNat ((10 * (h0.2.1 r3 (x2).toNat)) + (x1 - 48)) → (METi mX10_goes [vr a0, vi 1, vi 10] h28 (fun y33 h31 => h31.1 = h28.1 → ((y33 = 0 ∨ y33 = 1) ∧ P y33 h31))))) ∧ (¬ h6.2.1 r21 (x2).toNat = 2 → (rng ((10 * (h0.2.1 r3 (x2).toNat)) + (x1 - 48)) ∧ ((10 * (h0.2.1 r3 (x2).toNat)) + (x1 - 48) < 14 → (∃ r35 : Nat, h6.2.2 a0 16 = some r35 ∧ AI h6 20 r35 x2 ∧ ∀ h38 : PH, h38 = px_upI h6 r35 (x2).toNat (h6.2.1 r35 (x2).toNat) → (METi mX10_goes [vr a0, vi 0, vi 10] h38 (fun y43 h41 => h41.1 = h38.1 → ((y43 = 0 ∨ y43 = 1) ∧ P y43 h41))))) ∧ (14 ≤ (10 * (h0.2.1 r3 (x2).toNat)) + (x1 - 48) → (∃ r44 : Nat, h6.2.2 a0 16 = some r44 ∧ AI h6 20 r44 x2 ∧ ∀ h47 : PH, h47 = px_upI h6 r44 (x2).toNat ((10 * (h0.2.1 r3 (x2).toNat)) + (x1 - 48)) → (METi mX10_goes [vr a0, vi 1, vi 10] h47 (fun y52 h50 => h50.1 = h47.1 → ((y52 = 0 ∨ y52 = 1) ∧ P y52 h50))))))))))))) ∧ (h0.2.1 a0 12 = 8 → (∃ r56 : Nat, h0.2.2 a0 16 = some r56 ∧ AI h0 20 r56 x2 ∧ ∀ h59 : PH, h59 = px_upI h0 r56 (x2).toNat (x1 - 48) → (∃ r62 : Nat, h59.2.2 a0 14 = some r62 ∧ AI h59 20 r62 x2 ∧ rng (h59.2.1 r62 (x2).toNat) ∧ (¬ h59.2.1 r62 (x2).toNat = 1 → (EXi mX10_takesAge 36 [some (vr a0), none, none, some (vi (x1 - 48)), none, none] [vi 0] h59 P)) ∧ (h59.2.1 r62 (x2).toNat = 1 → (EXi mX10_takesAge 36 [some (vr a0), none, none, some (vi (x1 - 48)), none, none] [vi 1] h59 P)))))) : METi mX10_takesAge [vr a0, vi x1, vi x2] h0 P := by
  refine met_of_ex (by decide +kernel) (Nat.le_of_ble_eq_true rfl) ?_
  show EX mX10_takesAge 0 [some (vr a0), some (vi x1), some (vi x2), none, none, none] [] h0 (0, 0) _
  refine ex_iload_n 1 dX10_takesAge_0 rfl rfl ?_
  refine ex_bipush 3 dX10_takesAge_1 rfl ⟨by decide, by decide⟩ ?_
  refine ex_isub 4 dX10_takesAge_3 rfl ?_
  refine q_istore_n [some (vr a0), some (vi x1), some (vi x2), some (vi (x1 - 48)), none, none] 5 dX10_takesAge_4 rfl (Nat.le_of_ble_eq_true rfl) rfl rfl ?_
  refine ex_aload_n 6 dX10_takesAge_5 rfl rfl ?_
  obtain ⟨o1, hyp⟩ := hyp
  refine q_getI 10 12 9 dX10_takesAge_6 rfl fiX10_84 (Or.inl rfl) o1 ?_
  refine ex_bipush 11 dX10_takesAge_9 rfl ⟨by decide, by decide⟩ ?_
  obtain ⟨o2, hyp⟩ := hyp
  obtain ⟨ht, hf⟩ := hyp
  refine ex_icmp_ne 80 14 dX10_takesAge_11 (by decide) rfl o2 ⟨by decide, by decide⟩ (fun c67 => ?_) (fun c67 => ?_)
  · have hyp := ht c67
    clear ht hf
    refine ex_bipush 82 dX10_takesAge_80 rfl ⟨by decide, by decide⟩ ?_
    refine ex_aload_n 83 dX10_takesAge_82 rfl rfl ?_
    obtain ⟨r3, f4, hyp⟩ := hyp
    refine q_getR 10 16 86 dX10_takesAge_83 rfl fiX10_40 rfl o1 f4 ?_
    refine ex_iload_n 87 dX10_takesAge_86 rfl rfl ?_
    obtain ⟨o5, hyp⟩ := hyp
    refine ex_iald 88 dX10_takesAge_87 rfl o5 ?_
    refine ex_imul 89 dX10_takesAge_88 rfl ?_
    refine ex_iload_n 90 dX10_takesAge_89 rfl rfl ?_
    refine ex_iadd 91 dX10_takesAge_90 rfl ?_
    refine q_istore [some (vr a0), some (vi x1), some (vi x2), some (vi (x1 - 48)), some (vi ((10 * (h0.2.1 r3 (x2).toNat)) + (x1 - 48))), none] 93 dX10_takesAge_91 rfl (Nat.le_of_ble_eq_true rfl) rfl rfl ?_
    refine ex_iload_n 94 dX10_takesAge_93 rfl rfl ?_
    refine ex_iconst 95 dX10_takesAge_94 rfl ?_
    refine ex_bipush 97 dX10_takesAge_95 rfl ⟨by decide, by decide⟩ ?_
    refine q_callSi [vi (x1 - 48), vi 0, vi 9] 100 dX10_takesAge_97 rfl cvX10_76 rfl rfl ⟨Nat.le_of_ble_eq_true rfl, Nat.le_of_ble_eq_true rfl⟩ (Nat.le_of_ble_eq_true rfl) hyp (fun y8 h6 k7 hyp => ?_)
    obtain ⟨o9, hyp⟩ := hyp
    obtain ⟨ht, hf⟩ := hyp
    refine ex_if_eq 124 103 dX10_takesAge_100 (by decide) rfl o9 (fun c55 => ?_) (fun c55 => ?_)
    · have hyp := ht c55
      clear ht hf
      refine ex_iconst 125 dX10_takesAge_124 rfl ?_
      refine q_istore [some (vr a0), some (vi x1), some (vi x2), some (vi (x1 - 48)), some (vi ((10 * (h0.2.1 r3 (x2).toNat)) + (x1 - 48))), some (vi 0)] 127 dX10_takesAge_125 rfl (Nat.le_of_ble_eq_true rfl) rfl rfl ?_
      refine ex_aload_n 128 dX10_takesAge_127 rfl rfl ?_
      have f10 := OB.of k7 o1
      obtain ⟨r11, f12, hyp⟩ := hyp
      refine q_getR 10 16 131 dX10_takesAge_128 rfl fiX10_40 rfl f10 f12 ?_
      refine ex_iload_n 132 dX10_takesAge_131 rfl rfl ?_
      refine ex_iload 134 dX10_takesAge_132 rfl rfl ?_
      refine ex_if_eq 142 137 dX10_takesAge_134 (by decide) rfl ⟨by decide, by decide⟩ (fun _ => ?_) (fun c => absurd c (by decide))
      refine ex_aload_n 143 dX10_takesAge_142 rfl rfl ?_
      refine q_getR 10 16 146 dX10_takesAge_143 rfl fiX10_40 rfl f10 f12 ?_
      refine ex_iload_n 147 dX10_takesAge_146 rfl rfl ?_
      obtain ⟨o13, hyp⟩ := hyp
      refine ex_iald 148 dX10_takesAge_147 rfl o13 ?_
      refine ex_iast 149 dX10_takesAge_148 rfl o13 (fun h14 e15 => ?_)
      have hyp := hyp h14 e15
      refine ex_aload_n 150 dX10_takesAge_149 rfl rfl ?_
      refine ex_iload 152 dX10_takesAge_150 rfl rfl ?_
      refine ex_bipush 154 dX10_takesAge_152 rfl ⟨by decide, by decide⟩ ?_
      have f16 := OB.of (KI e15) f10
      refine q_callVi [vi 0, vi 10] 157 dX10_takesAge_154 rfl cvX10_90 rfl rfl ⟨Nat.le_of_ble_eq_true rfl, Nat.le_of_ble_eq_true rfl⟩ (Nat.le_of_ble_eq_true rfl) f16 hyp (fun y19 h17 k18 hyp => ?_)
      exact ex_iret dX10_takesAge_157 (Or.inr ⟨rfl, hyp.1⟩) ⟨_, rfl, hyp.2⟩
    · have hyp := hf c55
      clear ht hf
      refine ex_aload_n 104 dX10_takesAge_103 rfl rfl ?_
      have f20 := OB.of k7 o1
      obtain ⟨r21, f22, hyp⟩ := hyp
      refine q_getR 10 14 107 dX10_takesAge_104 rfl fiX10_34 rfl f20 f22 ?_
      refine ex_iload_n 108 dX10_takesAge_107 rfl rfl ?_
      obtain ⟨o23, hyp⟩ := hyp
      refine ex_iald 109 dX10_takesAge_108 rfl o23 ?_
      refine ex_iconst 110 dX10_takesAge_109 rfl ?_
      obtain ⟨o24, hyp⟩ := hyp
      obtain ⟨ht, hf⟩ := hyp
      refine ex_icmp_eq 120 113 dX10_takesAge_110 (by decide) rfl o24 ⟨by decide, by decide⟩ (fun c54 => ?_) (fun c54 => ?_)
      · have hyp := ht c54
        clear ht hf
        refine ex_iconst 121 dX10_takesAge_120 rfl ?_
        refine ex_goto 125 dX10_takesAge_121 (by decide) ?_
        refine q_istore [some (vr a0), some (vi x1), some (vi x2), some (vi (x1 - 48)), some (vi ((10 * (h0.2.1 r3 (x2).toNat)) + (x1 - 48))), some (vi 1)] 127 dX10_takesAge_125 rfl (Nat.le_of_ble_eq_true rfl) rfl rfl ?_
        refine ex_aload_n 128 dX10_takesAge_127 rfl rfl ?_
        obtain ⟨r25, f26, hyp⟩ := hyp
        refine q_getR 10 16 131 dX10_takesAge_128 rfl fiX10_40 rfl f20 f26 ?_
        refine ex_iload_n 132 dX10_takesAge_131 rfl rfl ?_
        refine ex_iload 134 dX10_takesAge_132 rfl rfl ?_
        refine ex_if_eq 142 137 dX10_takesAge_134 (by decide) rfl ⟨by decide, by decide⟩ (fun c => absurd c (by decide)) (fun _ => ?_)
        refine ex_iload 139 dX10_takesAge_137 rfl rfl ?_
        refine ex_goto 148 dX10_takesAge_139 (by decide) ?_
        obtain ⟨o27, hyp⟩ := hyp
        refine ex_iast 149 dX10_takesAge_148 rfl o27 (fun h28 e29 => ?_)
        have hyp := hyp h28 e29
        refine ex_aload_n 150 dX10_takesAge_149 rfl rfl ?_
        refine ex_iload 152 dX10_takesAge_150 rfl rfl ?_
        refine ex_bipush 154 dX10_takesAge_152 rfl ⟨by decide, by decide⟩ ?_
        have f30 := OB.of (KI e29) f20
        refine q_callVi [vi 1, vi 10] 157 dX10_takesAge_154 rfl cvX10_90 rfl rfl ⟨Nat.le_of_ble_eq_true rfl, Nat.le_of_ble_eq_true rfl⟩ (Nat.le_of_ble_eq_true rfl) f30 hyp (fun y33 h31 k32 hyp => ?_)
        exact ex_iret dX10_takesAge_157 (Or.inr ⟨rfl, hyp.1⟩) ⟨_, rfl, hyp.2⟩
      · have hyp := hf c54
        clear ht hf
        refine ex_iload 115 dX10_takesAge_113 rfl rfl ?_
        refine ex_bipush 117 dX10_takesAge_115 rfl ⟨by decide, by decide⟩ ?_
        obtain ⟨o34, hyp⟩ := hyp
        obtain ⟨ht, hf⟩ := hyp
        refine ex_icmp_lt 124 120 dX10_takesAge_117 (by decide) rfl o34 ⟨by decide, by decide⟩ (fun c53 => ?_) (fun c53 => ?_)
        · have hyp := ht c53
          clear ht hf
          refine ex_iconst 125 dX10_takesAge_124 rfl ?_
          refine q_istore [some (vr a0), some (vi x1), some (vi x2), some (vi (x1 - 48)), some (vi ((10 * (h0.2.1 r3 (x2).toNat)) + (x1 - 48))), some (vi 0)] 127 dX10_takesAge_125 rfl (Nat.le_of_ble_eq_true rfl) rfl rfl ?_
          refine ex_aload_n 128 dX10_takesAge_127 rfl rfl ?_
          obtain ⟨r35, f36, hyp⟩ := hyp
          refine q_getR 10 16 131 dX10_takesAge_128 rfl fiX10_40 rfl f20 f36 ?_
          refine ex_iload_n 132 dX10_takesAge_131 rfl rfl ?_
          refine ex_iload 134 dX10_takesAge_132 rfl rfl ?_
          refine ex_if_eq 142 137 dX10_takesAge_134 (by decide) rfl ⟨by decide, by decide⟩ (fun _ => ?_) (fun c => absurd c (by decide))
          refine ex_aload_n 143 dX10_takesAge_142 rfl rfl ?_
          refine q_getR 10 16 146 dX10_takesAge_143 rfl fiX10_40 rfl f20 f36 ?_
          refine ex_iload_n 147 dX10_takesAge_146 rfl rfl ?_
          obtain ⟨o37, hyp⟩ := hyp
          refine ex_iald 148 dX10_takesAge_147 rfl o37 ?_
          refine ex_iast 149 dX10_takesAge_148 rfl o37 (fun h38 e39 => ?_)
          have hyp := hyp h38 e39
          refine ex_aload_n 150 dX10_takesAge_149 rfl rfl ?_
          refine ex_iload 152 dX10_takesAge_150 rfl rfl ?_
          refine ex_bipush 154 dX10_takesAge_152 rfl ⟨by decide, by decide⟩ ?_
          have f40 := OB.of (KI e39) f20
          refine q_callVi [vi 0, vi 10] 157 dX10_takesAge_154 rfl cvX10_90 rfl rfl ⟨Nat.le_of_ble_eq_true rfl, Nat.le_of_ble_eq_true rfl⟩ (Nat.le_of_ble_eq_true rfl) f40 hyp (fun y43 h41 k42 hyp => ?_)
          exact ex_iret dX10_takesAge_157 (Or.inr ⟨rfl, hyp.1⟩) ⟨_, rfl, hyp.2⟩
        · have hyp := hf c53
          clear ht hf
          refine ex_iconst 121 dX10_takesAge_120 rfl ?_
          refine ex_goto 125 dX10_takesAge_121 (by decide) ?_
          refine q_istore [some (vr a0), some (vi x1), some (vi x2), some (vi (x1 - 48)), some (vi ((10 * (h0.2.1 r3 (x2).toNat)) + (x1 - 48))), some (vi 1)] 127 dX10_takesAge_125 rfl (Nat.le_of_ble_eq_true rfl) rfl rfl ?_
          refine ex_aload_n 128 dX10_takesAge_127 rfl rfl ?_
          obtain ⟨r44, f45, hyp⟩ := hyp
          refine q_getR 10 16 131 dX10_takesAge_128 rfl fiX10_40 rfl f20 f45 ?_
          refine ex_iload_n 132 dX10_takesAge_131 rfl rfl ?_
          refine ex_iload 134 dX10_takesAge_132 rfl rfl ?_
          refine ex_if_eq 142 137 dX10_takesAge_134 (by decide) rfl ⟨by decide, by decide⟩ (fun c => absurd c (by decide)) (fun _ => ?_)
          refine ex_iload 139 dX10_takesAge_137 rfl rfl ?_
          refine ex_goto 148 dX10_takesAge_139 (by decide) ?_
          obtain ⟨o46, hyp⟩ := hyp
          refine ex_iast 149 dX10_takesAge_148 rfl o46 (fun h47 e48 => ?_)
          have hyp := hyp h47 e48
          refine ex_aload_n 150 dX10_takesAge_149 rfl rfl ?_
          refine ex_iload 152 dX10_takesAge_150 rfl rfl ?_
          refine ex_bipush 154 dX10_takesAge_152 rfl ⟨by decide, by decide⟩ ?_
          have f49 := OB.of (KI e48) f20
          refine q_callVi [vi 1, vi 10] 157 dX10_takesAge_154 rfl cvX10_90 rfl rfl ⟨Nat.le_of_ble_eq_true rfl, Nat.le_of_ble_eq_true rfl⟩ (Nat.le_of_ble_eq_true rfl) f49 hyp (fun y52 h50 k51 hyp => ?_)
          exact ex_iret dX10_takesAge_157 (Or.inr ⟨rfl, hyp.1⟩) ⟨_, rfl, hyp.2⟩
  · have hyp := hf c67
    clear ht hf
    refine ex_aload_n 15 dX10_takesAge_14 rfl rfl ?_
    obtain ⟨r56, f57, hyp⟩ := hyp
    refine q_getR 10 16 18 dX10_takesAge_15 rfl fiX10_40 rfl o1 f57 ?_
    refine ex_iload_n 19 dX10_takesAge_18 rfl rfl ?_
    refine ex_iload_n 20 dX10_takesAge_19 rfl rfl ?_
    obtain ⟨o58, hyp⟩ := hyp
    refine ex_iast 21 dX10_takesAge_20 rfl o58 (fun h59 e60 => ?_)
    have hyp := hyp h59 e60
    refine ex_aload_n 22 dX10_takesAge_21 rfl rfl ?_
    have f61 := OB.of (KI e60) o1
    obtain ⟨r62, f63, hyp⟩ := hyp
    refine q_getR 10 14 25 dX10_takesAge_22 rfl fiX10_34 rfl f61 f63 ?_
    refine ex_iload_n 26 dX10_takesAge_25 rfl rfl ?_
    obtain ⟨o64, hyp⟩ := hyp
    refine ex_iald 27 dX10_takesAge_26 rfl o64 ?_
    refine ex_iconst 28 dX10_takesAge_27 rfl ?_
    obtain ⟨o65, hyp⟩ := hyp
    obtain ⟨ht, hf⟩ := hyp
    refine ex_icmp_ne 35 31 dX10_takesAge_28 (by decide) rfl o65 ⟨by decide, by decide⟩ (fun c66 => ?_) (fun c66 => ?_)
    · have hyp := ht c66
      clear ht hf
      refine ex_iconst 36 dX10_takesAge_35 rfl ?_
      refine ex_dropL (ls' := [some (vr a0), none, some (vi x2), some (vi (x1 - 48)), none, none]) 1 rfl ?_
      refine ex_dropL (ls' := [some (vr a0), none, none, some (vi (x1 - 48)), none, none]) 2 rfl ?_
      exact hyp
    · have hyp := hf c66
      clear ht hf
      refine ex_iconst 32 dX10_takesAge_31 rfl ?_
      refine ex_goto 36 dX10_takesAge_32 (by decide) ?_
      refine ex_dropL (ls' := [some (vr a0), none, some (vi x2), some (vi (x1 - 48)), none, none]) 1 rfl ?_
      refine ex_dropL (ls' := [some (vr a0), none, none, some (vi (x1 - 48)), none, none]) 2 rfl ?_
      exact hyp
set_option maxRecDepth 4000 in
theorem tX10_takesAge_36 {P : Int → PH → Prop} (h0 : PH) (a0 : Nat) (x3 : Int) (xs0 : Int) (hyp : rng xs0 ∧ (xs0 = 0 → (METi mX10_within [vi x3, vi 0, vi 9] h0 (fun y4 h2 => h2.1 = h0.1 → ((xs0 = 0 → (rng x3 ∧ (¬ x3 = 0 → (OB h2 10 a0 ∧ METi mX10_goes [vr a0, vi y4, vi 11] h2 (fun y9 h7 => h7.1 = h2.1 → ((y9 = 0 ∨ y9 = 1) ∧ P y9 h7)))) ∧ (x3 = 0 → (OB h2 10 a0 ∧ METi mX10_goes [vr a0, vi y4, vi 10] h2 (fun y13 h11 => h11.1 = h2.1 → ((y13 = 0 ∨ y13 = 1) ∧ P y13 h11)))))) ∧ (¬ xs0 = 0 → (OB h2 10 a0 ∧ METi mX10_goes [vr a0, vi y4, vi 9] h2 (fun y18 h16 => h16.1 = h2.1 → ((y18 = 0 ∨ y18 = 1) ∧ P y18 h16)))))))) ∧ (¬ xs0 = 0 → (METi mX10_within [vi x3, vi 1, vi 9] h0 (fun y22 h20 => h20.1 = h0.1 → ((xs0 = 0 → (rng x3 ∧ (¬ x3 = 0 → (OB h20 10 a0 ∧ METi mX10_goes [vr a0, vi y22, vi 11] h20 (fun y27 h25 => h25.1 = h20.1 → ((y27 = 0 ∨ y27 = 1) ∧ P y27 h25)))) ∧ (x3 = 0 → (OB h20 10 a0 ∧ METi mX10_goes [vr a0, vi y22, vi 10] h20 (fun y31 h29 => h29.1 = h20.1 → ((y31 = 0 ∨ y31 = 1) ∧ P y31 h29)))))) ∧ (¬ xs0 = 0 → (OB h20 10 a0 ∧ METi mX10_goes [vr a0, vi y22, vi 9] h20 (fun y36 h34 => h34.1 = h20.1 → ((y36 = 0 ∨ y36 = 1) ∧ P y36 h34))))))))) : EXi mX10_takesAge 36 [some (vr a0), none, none, some (vi x3), none, none] [vi xs0] h0 P := by
  refine q_istore [some (vr a0), none, none, some (vi x3), some (vi xs0), none] 38 dX10_takesAge_36 rfl (Nat.le_of_ble_eq_true rfl) rfl rfl ?_
  refine ex_aload_n 39 dX10_takesAge_38 rfl rfl ?_
  refine ex_iload_n 40 dX10_takesAge_39 rfl rfl ?_
  refine ex_iload 42 dX10_takesAge_40 rfl rfl ?_
  obtain ⟨o1, hyp⟩ := hyp
  obtain ⟨ht, hf⟩ := hyp
  refine ex_if_eq 49 45 dX10_takesAge_42 (by decide) rfl o1 (fun c38 => ?_) (fun c38 => ?_)
  · have hyp := ht c38
    clear ht hf
    refine ex_iconst 50 dX10_takesAge_49 rfl ?_
    refine ex_bipush 52 dX10_takesAge_50 rfl ⟨by decide, by decide⟩ ?_
    refine q_callSi [vi x3, vi 0, vi 9] 55 dX10_takesAge_52 rfl cvX10_76 rfl rfl ⟨Nat.le_of_ble_eq_true rfl, Nat.le_of_ble_eq_true rfl⟩ (Nat.le_of_ble_eq_true rfl) hyp (fun y4 h2 k3 hyp => ?_)
    refine ex_iload 57 dX10_takesAge_55 rfl rfl ?_
    obtain ⟨ht, hf⟩ := hyp
    refine ex_if_eq 65 60 dX10_takesAge_57 (by decide) rfl o1 (fun c19 => ?_) (fun c19 => ?_)
    · have hyp := ht c19
      clear ht hf
      refine ex_iload_n 66 dX10_takesAge_65 rfl rfl ?_
      obtain ⟨o5, hyp⟩ := hyp
      obtain ⟨ht, hf⟩ := hyp
      refine ex_if_ne 74 69 dX10_takesAge_66 (by decide) rfl o5 (fun c14 => ?_) (fun c14 => ?_)
      · have hyp := ht c14
        clear ht hf
        refine ex_bipush 76 dX10_takesAge_74 rfl ⟨by decide, by decide⟩ ?_
        obtain ⟨o6, hyp⟩ := hyp
        refine q_callVi [vi y4, vi 11] 79 dX10_takesAge_76 rfl cvX10_90 rfl rfl ⟨Nat.le_of_ble_eq_true rfl, Nat.le_of_ble_eq_true rfl⟩ (Nat.le_of_ble_eq_true rfl) o6 hyp (fun y9 h7 k8 hyp => ?_)
        exact ex_iret dX10_takesAge_79 (Or.inr ⟨rfl, hyp.1⟩) ⟨_, rfl, hyp.2⟩
      · have hyp := hf c14
        clear ht hf
        refine ex_bipush 71 dX10_takesAge_69 rfl ⟨by decide, by decide⟩ ?_
        refine ex_goto 76 dX10_takesAge_71 (by decide) ?_
        obtain ⟨o10, hyp⟩ := hyp
        refine q_callVi [vi y4, vi 10] 79 dX10_takesAge_76 rfl cvX10_90 rfl rfl ⟨Nat.le_of_ble_eq_true rfl, Nat.le_of_ble_eq_true rfl⟩ (Nat.le_of_ble_eq_true rfl) o10 hyp (fun y13 h11 k12 hyp => ?_)
        exact ex_iret dX10_takesAge_79 (Or.inr ⟨rfl, hyp.1⟩) ⟨_, rfl, hyp.2⟩
    · have hyp := hf c19
      clear ht hf
      refine ex_bipush 62 dX10_takesAge_60 rfl ⟨by decide, by decide⟩ ?_
      refine ex_goto 76 dX10_takesAge_62 (by decide) ?_
      obtain ⟨o15, hyp⟩ := hyp
      refine q_callVi [vi y4, vi 9] 79 dX10_takesAge_76 rfl cvX10_90 rfl rfl ⟨Nat.le_of_ble_eq_true rfl, Nat.le_of_ble_eq_true rfl⟩ (Nat.le_of_ble_eq_true rfl) o15 hyp (fun y18 h16 k17 hyp => ?_)
      exact ex_iret dX10_takesAge_79 (Or.inr ⟨rfl, hyp.1⟩) ⟨_, rfl, hyp.2⟩
  · have hyp := hf c38
    clear ht hf
    refine ex_iconst 46 dX10_takesAge_45 rfl ?_
    refine ex_goto 50 dX10_takesAge_46 (by decide) ?_
    refine ex_bipush 52 dX10_takesAge_50 rfl ⟨by decide, by decide⟩ ?_
    refine q_callSi [vi x3, vi 1, vi 9] 55 dX10_takesAge_52 rfl cvX10_76 rfl rfl ⟨Nat.le_of_ble_eq_true rfl, Nat.le_of_ble_eq_true rfl⟩ (Nat.le_of_ble_eq_true rfl) hyp (fun y22 h20 k21 hyp => ?_)
    refine ex_iload 57 dX10_takesAge_55 rfl rfl ?_
    obtain ⟨ht, hf⟩ := hyp
    refine ex_if_eq 65 60 dX10_takesAge_57 (by decide) rfl o1 (fun c37 => ?_) (fun c37 => ?_)
    · have hyp := ht c37
      clear ht hf
      refine ex_iload_n 66 dX10_takesAge_65 rfl rfl ?_
      obtain ⟨o23, hyp⟩ := hyp
      obtain ⟨ht, hf⟩ := hyp
      refine ex_if_ne 74 69 dX10_takesAge_66 (by decide) rfl o23 (fun c32 => ?_) (fun c32 => ?_)
      · have hyp := ht c32
        clear ht hf
        refine ex_bipush 76 dX10_takesAge_74 rfl ⟨by decide, by decide⟩ ?_
        obtain ⟨o24, hyp⟩ := hyp
        refine q_callVi [vi y22, vi 11] 79 dX10_takesAge_76 rfl cvX10_90 rfl rfl ⟨Nat.le_of_ble_eq_true rfl, Nat.le_of_ble_eq_true rfl⟩ (Nat.le_of_ble_eq_true rfl) o24 hyp (fun y27 h25 k26 hyp => ?_)
        exact ex_iret dX10_takesAge_79 (Or.inr ⟨rfl, hyp.1⟩) ⟨_, rfl, hyp.2⟩
      · have hyp := hf c32
        clear ht hf
        refine ex_bipush 71 dX10_takesAge_69 rfl ⟨by decide, by decide⟩ ?_
        refine ex_goto 76 dX10_takesAge_71 (by decide) ?_
        obtain ⟨o28, hyp⟩ := hyp
        refine q_callVi [vi y22, vi 10] 79 dX10_takesAge_76 rfl cvX10_90 rfl rfl ⟨Nat.le_of_ble_eq_true rfl, Nat.le_of_ble_eq_true rfl⟩ (Nat.le_of_ble_eq_true rfl) o28 hyp (fun y31 h29 k30 hyp => ?_)
        exact ex_iret dX10_takesAge_79 (Or.inr ⟨rfl, hyp.1⟩) ⟨_, rfl, hyp.2⟩
    · have hyp := hf c37
      clear ht hf
      refine ex_bipush 62 dX10_takesAge_60 rfl ⟨by decide, by decide⟩ ?_
      refine ex_goto 76 dX10_takesAge_62 (by decide) ?_
      obtain ⟨o33, hyp⟩ := hyp
      refine q_callVi [vi y22, vi 9] 79 dX10_takesAge_76 rfl cvX10_90 rfl rfl ⟨Nat.le_of_ble_eq_true rfl, Nat.le_of_ble_eq_true rfl⟩ (Nat.le_of_ble_eq_true rfl) o33 hyp (fun y36 h34 k35 hyp => ?_)
      exact ex_iret dX10_takesAge_79 (Or.inr ⟨rfl, hyp.1⟩) ⟨_, rfl, hyp.2⟩
set_option maxRecDepth 4000 in
theorem tX10_takesEnd {P : Int → PH → Prop} (h0 : PH) (a0 : Nat) (x1 : Int) (x2 : Int) (hyp : rng x1 ∧ (¬ x1 = 59 → (OB h0 10 a0 ∧ rng (h0.2.1 a0 12) ∧ (¬ h0.2.1 a0 12 = 7 → ((¬ h0.2.1 a0 12 = 11 → (P 0 h0)) ∧ (h0.2.1 a0 12 = 11 → (METi mX10_takesAge [vr a0, vi x1, vi x2] h0 (fun y6 h4 => h4.1 = h0.1 → (rng y6 ∧ (y6 = 0 → (P 0 h4)) ∧ (¬ y6 = 0 → (P 1 h4)))))))) ∧ (h0.2.1 a0 12 = 7 → ((¬ x1 = 46 → (METi mX10_goes [vr a0, vi 0, vi 8] h0 (fun y12 h10 => h10.1 = h0.1 → ((y12 = 0 ∨ y12 = 1) ∧ P y12 h10)))) ∧ (x1 = 46 → (∃ r13 : Nat, h0.2.2 a0 14 = some r13 ∧ AI h0 20 r13 x2 ∧ rng (h0.2.1 r13 (x2).toNat) ∧ (h0.2.1 r13 (x2).toNat = 0 → (METi mX10_goes [vr a0, vi 0, vi 8] h0 (fun y19 h17 => h17.1 = h0.1 → ((y19 = 0 ∨ y19 = 1) ∧ P y19 h17)))) ∧ (¬ h0.2.1 r13 (x2).toNat = 0 → (METi mX10_goes [vr a0, vi 1, vi 8] h0 (fun y22 h20 => h20.1 = h0.1 → ((y22 = 0 ∨ y22 = 1) ∧ P y22 h20)))))))))) ∧ (x1 = 59 → (OB h0 10 a0 ∧ METi mX10_goes [vr a0, vi 1, vi 0] h0 (fun y29 h27 => h27.1 = h0.1 → ((y29 = 0 ∨ y29 = 1) ∧ P y29 h27))))) : METi mX10_takesEnd [vr a0, vi x1, vi x2] h0 P := by
  refine met_of_ex (by decide +kernel) (Nat.le_of_ble_eq_true rfl) ?_
  show EX mX10_takesEnd 0 [some (vr a0), some (vi x1), some (vi x2)] [] h0 (0, 0) _
  refine ex_iload_n 1 dX10_takesEnd_0 rfl rfl ?_
  refine ex_bipush 3 dX10_takesEnd_1 rfl ⟨by decide, by decide⟩ ?_
  obtain ⟨o1, hyp⟩ := hyp
  obtain ⟨ht, hf⟩ := hyp
  refine ex_icmp_ne 13 6 dX10_takesEnd_3 (by decide) rfl o1 ⟨by decide, by decide⟩ (fun c30 => ?_) (fun c30 => ?_)
  · have hyp := ht c30
    clear ht hf
    refine ex_aload_n 14 dX10_takesEnd_13 rfl rfl ?_
    obtain ⟨o2, hyp⟩ := hyp
    refine q_getI 10 12 17 dX10_takesEnd_14 rfl fiX10_84 (Or.inl rfl) o2 ?_
    refine ex_bipush 19 dX10_takesEnd_17 rfl ⟨by decide, by decide⟩ ?_
    obtain ⟨o3, hyp⟩ := hyp
    obtain ⟨ht, hf⟩ := hyp
    refine ex_icmp_ne 49 22 dX10_takesEnd_19 (by decide) rfl o3 ⟨by decide, by decide⟩ (fun c25 => ?_) (fun c25 => ?_)
    · have hyp := ht c25
      clear ht hf
      refine ex_aload_n 50 dX10_takesEnd_49 rfl rfl ?_
      refine q_getI 10 12 53 dX10_takesEnd_50 rfl fiX10_84 (Or.inl rfl) o2 ?_
      refine ex_bipush 55 dX10_takesEnd_53 rfl ⟨by decide, by decide⟩ ?_
      obtain ⟨ht, hf⟩ := hyp
      refine ex_icmp_ne 71 58 dX10_takesEnd_55 (by decide) rfl o3 ⟨by decide, by decide⟩ (fun c9 => ?_) (fun c9 => ?_)
      · have hyp := ht c9
        clear ht hf
        refine ex_iconst 72 dX10_takesEnd_71 rfl ?_
        exact ex_iret dX10_takesEnd_72 (Or.inr ⟨rfl, Or.inl rfl⟩) ⟨_, rfl, hyp⟩
      · have hyp := hf c9
        clear ht hf
        refine ex_aload_n 59 dX10_takesEnd_58 rfl rfl ?_
        refine ex_iload_n 60 dX10_takesEnd_59 rfl rfl ?_
        refine ex_iload_n 61 dX10_takesEnd_60 rfl rfl ?_
        refine q_callVi [vi x1, vi x2] 64 dX10_takesEnd_61 rfl cvX10_94 rfl rfl ⟨Nat.le_of_ble_eq_true rfl, Nat.le_of_ble_eq_true rfl⟩ (Nat.le_of_ble_eq_true rfl) o2 hyp (fun y6 h4 k5 hyp => ?_)
        obtain ⟨o7, hyp⟩ := hyp
        obtain ⟨ht, hf⟩ := hyp
        refine ex_if_eq 71 67 dX10_takesEnd_64 (by decide) rfl o7 (fun c8 => ?_) (fun c8 => ?_)
        · have hyp := ht c8
          clear ht hf
          refine ex_iconst 72 dX10_takesEnd_71 rfl ?_
          exact ex_iret dX10_takesEnd_72 (Or.inr ⟨rfl, Or.inl rfl⟩) ⟨_, rfl, hyp⟩
        · have hyp := hf c8
          clear ht hf
          refine ex_iconst 68 dX10_takesEnd_67 rfl ?_
          refine ex_goto 72 dX10_takesEnd_68 (by decide) ?_
          exact ex_iret dX10_takesEnd_72 (Or.inr ⟨rfl, Or.inr rfl⟩) ⟨_, rfl, hyp⟩
    · have hyp := hf c25
      clear ht hf
      refine ex_aload_n 23 dX10_takesEnd_22 rfl rfl ?_
      refine ex_iload_n 24 dX10_takesEnd_23 rfl rfl ?_
      refine ex_bipush 26 dX10_takesEnd_24 rfl ⟨by decide, by decide⟩ ?_
      obtain ⟨ht, hf⟩ := hyp
      refine ex_icmp_ne 42 29 dX10_takesEnd_26 (by decide) rfl o1 ⟨by decide, by decide⟩ (fun c24 => ?_) (fun c24 => ?_)
      · have hyp := ht c24
        clear ht hf
        refine ex_iconst 43 dX10_takesEnd_42 rfl ?_
        refine ex_bipush 45 dX10_takesEnd_43 rfl ⟨by decide, by decide⟩ ?_
        refine q_callVi [vi 0, vi 8] 48 dX10_takesEnd_45 rfl cvX10_90 rfl rfl ⟨Nat.le_of_ble_eq_true rfl, Nat.le_of_ble_eq_true rfl⟩ (Nat.le_of_ble_eq_true rfl) o2 hyp (fun y12 h10 k11 hyp => ?_)
        exact ex_iret dX10_takesEnd_48 (Or.inr ⟨rfl, hyp.1⟩) ⟨_, rfl, hyp.2⟩
      · have hyp := hf c24
        clear ht hf
        refine ex_aload_n 30 dX10_takesEnd_29 rfl rfl ?_
        obtain ⟨r13, f14, hyp⟩ := hyp
        refine q_getR 10 14 33 dX10_takesEnd_30 rfl fiX10_34 rfl o2 f14 ?_
        refine ex_iload_n 34 dX10_takesEnd_33 rfl rfl ?_
        obtain ⟨o15, hyp⟩ := hyp
        refine ex_iald 35 dX10_takesEnd_34 rfl o15 ?_
        obtain ⟨o16, hyp⟩ := hyp
        obtain ⟨ht, hf⟩ := hyp
        refine ex_if_eq 42 38 dX10_takesEnd_35 (by decide) rfl o16 (fun c23 => ?_) (fun c23 => ?_)
        · have hyp := ht c23
          clear ht hf
          refine ex_iconst 43 dX10_takesEnd_42 rfl ?_
          refine ex_bipush 45 dX10_takesEnd_43 rfl ⟨by decide, by decide⟩ ?_
          refine q_callVi [vi 0, vi 8] 48 dX10_takesEnd_45 rfl cvX10_90 rfl rfl ⟨Nat.le_of_ble_eq_true rfl, Nat.le_of_ble_eq_true rfl⟩ (Nat.le_of_ble_eq_true rfl) o2 hyp (fun y19 h17 k18 hyp => ?_)
          exact ex_iret dX10_takesEnd_48 (Or.inr ⟨rfl, hyp.1⟩) ⟨_, rfl, hyp.2⟩
        · have hyp := hf c23
          clear ht hf
          refine ex_iconst 39 dX10_takesEnd_38 rfl ?_
          refine ex_goto 43 dX10_takesEnd_39 (by decide) ?_
          refine ex_bipush 45 dX10_takesEnd_43 rfl ⟨by decide, by decide⟩ ?_
          refine q_callVi [vi 1, vi 8] 48 dX10_takesEnd_45 rfl cvX10_90 rfl rfl ⟨Nat.le_of_ble_eq_true rfl, Nat.le_of_ble_eq_true rfl⟩ (Nat.le_of_ble_eq_true rfl) o2 hyp (fun y22 h20 k21 hyp => ?_)
          exact ex_iret dX10_takesEnd_48 (Or.inr ⟨rfl, hyp.1⟩) ⟨_, rfl, hyp.2⟩
  · have hyp := hf c30
    clear ht hf
    refine ex_aload_n 7 dX10_takesEnd_6 rfl rfl ?_
    refine ex_iconst 8 dX10_takesEnd_7 rfl ?_
    refine ex_iconst 9 dX10_takesEnd_8 rfl ?_
    obtain ⟨o26, hyp⟩ := hyp
    refine q_callVi [vi 1, vi 0] 12 dX10_takesEnd_9 rfl cvX10_90 rfl rfl ⟨Nat.le_of_ble_eq_true rfl, Nat.le_of_ble_eq_true rfl⟩ (Nat.le_of_ble_eq_true rfl) o26 hyp (fun y29 h27 k28 hyp => ?_)
    exact ex_iret dX10_takesEnd_12 (Or.inr ⟨rfl, hyp.1⟩) ⟨_, rfl, hyp.2⟩
set_option maxRecDepth 4000 in
theorem tX10_takes {P : Int → PH → Prop} (h0 : PH) (a0 : Nat) (x1 : Int) (hyp : OB h0 10 a0 ∧ rng (h0.2.1 a0 12) ∧ (h0.2.1 a0 12 < 0 ∨ 9 < h0.2.1 a0 12 → (METi mX10_takesEnd [vr a0, vi x1, vi ((h0.2.1 a0 13) - 1)] h0 (fun y5 h3 => h3.1 = h0.1 → ((y5 = 0 ∨ y5 = 1) ∧ P y5 h3)))) ∧ (h0.2.1 a0 12 = 0 → (METi mX10_takesKind [vr a0, vi x1] h0 (fun y8 h6 => h6.1 = h0.1 → ((y8 = 0 ∨ y8 = 1) ∧ P y8 h6)))) ∧ (h0.2.1 a0 12 = 1 → (METi mX10_takesName [vr a0, vi x1, vi ((h0.2.1 a0 13) - 1)] h0 (fun y11 h9 => h9.1 = h0.1 → ((y11 = 0 ∨ y11 = 1) ∧ P y11 h9)))) ∧ (h0.2.1 a0 12 = 2 → (METi mX10_takesName [vr a0, vi x1, vi ((h0.2.1 a0 13) - 1)] h0 (fun y14 h12 => h12.1 = h0.1 → ((y14 = 0 ∨ y14 = 1) ∧ P y14 h12)))) ∧ (h0.2.1 a0 12 = 3 → (METi mX10_takesYear [vr a0, vi x1, vi ((h0.2.1 a0 13) - 1)] h0 (fun y17 h15 => h15.1 = h0.1 → ((y17 = 0 ∨ y17 = 1) ∧ P y17 h15)))) ∧ (h0.2.1 a0 12 = 4 → (METi mX10_takesYear [vr a0, vi x1, vi ((h0.2.1 a0 13) - 1)] h0 (fun y20 h18 => h18.1 = h0.1 → ((y20 = 0 ∨ y20 = 1) ∧ P y20 h18)))) ∧ (h0.2.1 a0 12 = 5 → (METi mX10_takesYear [vr a0, vi x1, vi ((h0.2.1 a0 13) - 1)] h0 (fun y23 h21 => h21.1 = h0.1 → ((y23 = 0 ∨ y23 = 1) ∧ P y23 h21)))) ∧ (h0.2.1 a0 12 = 6 → (METi mX10_takesYear [vr a0, vi x1, vi ((h0.2.1 a0 13) - 1)] h0 (fun y26 h24 => h24.1 = h0.1 → ((y26 = 0 ∨ y26 = 1) ∧ P y26 h24)))) ∧ (h0.2.1 a0 12 = 7 → (METi mX10_takesEnd [vr a0, vi x1, vi ((h0.2.1 a0 13) - 1)] h0 (fun y29 h27 => h27.1 = h0.1 → ((y29 = 0 ∨ y29 = 1) ∧ P y29 h27)))) ∧ (h0.2.1 a0 12 = 8 → (METi mX10_takesAge [vr a0, vi x1, vi ((h0.2.1 a0 13) - 1)] h0 (fun y32 h30 => h30.1 = h0.1 → ((y32 = 0 ∨ y32 = 1) ∧ P y32 h30)))) ∧ (h0.2.1 a0 12 = 9 → (METi mX10_takesAge [vr a0, vi x1, vi ((h0.2.1 a0 13) - 1)] h0 (fun y35 h33 => h33.1 = h0.1 → ((y35 = 0 ∨ y35 = 1) ∧ P y35 h33))))) : METi mX10_takes [vr a0, vi x1] h0 P := by
  refine met_of_ex (by decide +kernel) (Nat.le_of_ble_eq_true rfl) ?_
  show EX mX10_takes 0 [some (vr a0), some (vi x1), none] [] h0 (0, 0) _
  refine ex_aload_n 1 dX10_takes_0 rfl rfl ?_
  obtain ⟨o1, hyp⟩ := hyp
  refine q_getI 10 13 4 dX10_takes_1 rfl fiX10_87 (Or.inl rfl) o1 ?_
  refine ex_iconst 5 dX10_takes_4 rfl ?_
  refine ex_isub 6 dX10_takes_5 rfl ?_
  refine q_istore_n [some (vr a0), some (vi x1), some (vi ((h0.2.1 a0 13) - 1))] 7 dX10_takes_6 rfl (Nat.le_of_ble_eq_true rfl) rfl rfl ?_
  refine ex_aload_n 8 dX10_takes_7 rfl rfl ?_
  refine q_getI 10 12 11 dX10_takes_8 rfl fiX10_84 (Or.inl rfl) o1 ?_
  obtain ⟨o2, hyp⟩ := hyp
  obtain ⟨hd, hv0, hv1, hv2, hv3, hv4, hv5, hv6, hv7, hv8, hv9⟩ := hyp
  rcases (show (h0.2.1 a0 12 < 0 ∨ 9 < h0.2.1 a0 12) ∨ h0.2.1 a0 12 = 0 ∨ h0.2.1 a0 12 = 1 ∨ h0.2.1 a0 12 = 2 ∨ h0.2.1 a0 12 = 3 ∨ h0.2.1 a0 12 = 4 ∨ h0.2.1 a0 12 = 5 ∨ h0.2.1 a0 12 = 6 ∨ h0.2.1 a0 12 = 7 ∨ h0.2.1 a0 12 = 8 ∨ h0.2.1 a0 12 = 9 by omega) with c | c | c | c | c | c | c | c | c | c | c
  · refine ex_tswOut 91 dX10_takes_11 o2 c (by decide) ?_
    have hyp := hd c
    refine ex_aload_n 92 dX10_takes_91 rfl rfl ?_
    refine ex_iload_n 93 dX10_takes_92 rfl rfl ?_
    refine ex_iload_n 94 dX10_takes_93 rfl rfl ?_
    refine q_callVi [vi x1, vi ((h0.2.1 a0 13) - 1)] 97 dX10_takes_94 rfl cvX10_108 rfl rfl ⟨Nat.le_of_ble_eq_true rfl, Nat.le_of_ble_eq_true rfl⟩ (Nat.le_of_ble_eq_true rfl) o1 hyp (fun y5 h3 k4 hyp => ?_)
    exact ex_iret dX10_takes_97 (Or.inr ⟨rfl, hyp.1⟩) ⟨_, rfl, hyp.2⟩
  · refine ex_tswIn 0 64 dX10_takes_11 c ⟨by decide, by decide⟩ (by decide) (by decide) rfl (by decide) ?_
    have hyp := hv0 c
    refine ex_aload_n 65 dX10_takes_64 rfl rfl ?_
    refine ex_iload_n 66 dX10_takes_65 rfl rfl ?_
    refine q_callVi [vi x1] 69 dX10_takes_66 rfl cvX10_98 rfl rfl ⟨Nat.le_of_ble_eq_true rfl, Nat.le_of_ble_eq_true rfl⟩ (Nat.le_of_ble_eq_true rfl) o1 hyp (fun y8 h6 k7 hyp => ?_)
    exact ex_iret dX10_takes_69 (Or.inr ⟨rfl, hyp.1⟩) ⟨_, rfl, hyp.2⟩
  · refine ex_tswIn 1 70 dX10_takes_11 c ⟨by decide, by decide⟩ (by decide) (by decide) rfl (by decide) ?_
    have hyp := hv1 c
    refine ex_aload_n 71 dX10_takes_70 rfl rfl ?_
    refine ex_iload_n 72 dX10_takes_71 rfl rfl ?_
    refine ex_iload_n 73 dX10_takes_72 rfl rfl ?_
    refine q_callVi [vi x1, vi ((h0.2.1 a0 13) - 1)] 76 dX10_takes_73 rfl cvX10_102 rfl rfl ⟨Nat.le_of_ble_eq_true rfl, Nat.le_of_ble_eq_true rfl⟩ (Nat.le_of_ble_eq_true rfl) o1 hyp (fun y11 h9 k10 hyp => ?_)
    exact ex_iret dX10_takes_76 (Or.inr ⟨rfl, hyp.1⟩) ⟨_, rfl, hyp.2⟩
  · refine ex_tswIn 2 70 dX10_takes_11 c ⟨by decide, by decide⟩ (by decide) (by decide) rfl (by decide) ?_
    have hyp := hv2 c
    refine ex_aload_n 71 dX10_takes_70 rfl rfl ?_
    refine ex_iload_n 72 dX10_takes_71 rfl rfl ?_
    refine ex_iload_n 73 dX10_takes_72 rfl rfl ?_
    refine q_callVi [vi x1, vi ((h0.2.1 a0 13) - 1)] 76 dX10_takes_73 rfl cvX10_102 rfl rfl ⟨Nat.le_of_ble_eq_true rfl, Nat.le_of_ble_eq_true rfl⟩ (Nat.le_of_ble_eq_true rfl) o1 hyp (fun y14 h12 k13 hyp => ?_)
    exact ex_iret dX10_takes_76 (Or.inr ⟨rfl, hyp.1⟩) ⟨_, rfl, hyp.2⟩
  · refine ex_tswIn 3 77 dX10_takes_11 c ⟨by decide, by decide⟩ (by decide) (by decide) rfl (by decide) ?_
    have hyp := hv3 c
    refine ex_aload_n 78 dX10_takes_77 rfl rfl ?_
    refine ex_iload_n 79 dX10_takes_78 rfl rfl ?_
    refine ex_iload_n 80 dX10_takes_79 rfl rfl ?_
    refine q_callVi [vi x1, vi ((h0.2.1 a0 13) - 1)] 83 dX10_takes_80 rfl cvX10_105 rfl rfl ⟨Nat.le_of_ble_eq_true rfl, Nat.le_of_ble_eq_true rfl⟩ (Nat.le_of_ble_eq_true rfl) o1 hyp (fun y17 h15 k16 hyp => ?_)
    exact ex_iret dX10_takes_83 (Or.inr ⟨rfl, hyp.1⟩) ⟨_, rfl, hyp.2⟩
  · refine ex_tswIn 4 77 dX10_takes_11 c ⟨by decide, by decide⟩ (by decide) (by decide) rfl (by decide) ?_
    have hyp := hv4 c
    refine ex_aload_n 78 dX10_takes_77 rfl rfl ?_
    refine ex_iload_n 79 dX10_takes_78 rfl rfl ?_
    refine ex_iload_n 80 dX10_takes_79 rfl rfl ?_
    refine q_callVi [vi x1, vi ((h0.2.1 a0 13) - 1)] 83 dX10_takes_80 rfl cvX10_105 rfl rfl ⟨Nat.le_of_ble_eq_true rfl, Nat.le_of_ble_eq_true rfl⟩ (Nat.le_of_ble_eq_true rfl) o1 hyp (fun y20 h18 k19 hyp => ?_)
    exact ex_iret dX10_takes_83 (Or.inr ⟨rfl, hyp.1⟩) ⟨_, rfl, hyp.2⟩
  · refine ex_tswIn 5 77 dX10_takes_11 c ⟨by decide, by decide⟩ (by decide) (by decide) rfl (by decide) ?_
    have hyp := hv5 c
    refine ex_aload_n 78 dX10_takes_77 rfl rfl ?_
    refine ex_iload_n 79 dX10_takes_78 rfl rfl ?_
    refine ex_iload_n 80 dX10_takes_79 rfl rfl ?_
    refine q_callVi [vi x1, vi ((h0.2.1 a0 13) - 1)] 83 dX10_takes_80 rfl cvX10_105 rfl rfl ⟨Nat.le_of_ble_eq_true rfl, Nat.le_of_ble_eq_true rfl⟩ (Nat.le_of_ble_eq_true rfl) o1 hyp (fun y23 h21 k22 hyp => ?_)
    exact ex_iret dX10_takes_83 (Or.inr ⟨rfl, hyp.1⟩) ⟨_, rfl, hyp.2⟩
  · refine ex_tswIn 6 77 dX10_takes_11 c ⟨by decide, by decide⟩ (by decide) (by decide) rfl (by decide) ?_
    have hyp := hv6 c
    refine ex_aload_n 78 dX10_takes_77 rfl rfl ?_
    refine ex_iload_n 79 dX10_takes_78 rfl rfl ?_
    refine ex_iload_n 80 dX10_takes_79 rfl rfl ?_
    refine q_callVi [vi x1, vi ((h0.2.1 a0 13) - 1)] 83 dX10_takes_80 rfl cvX10_105 rfl rfl ⟨Nat.le_of_ble_eq_true rfl, Nat.le_of_ble_eq_true rfl⟩ (Nat.le_of_ble_eq_true rfl) o1 hyp (fun y26 h24 k25 hyp => ?_)
    exact ex_iret dX10_takes_83 (Or.inr ⟨rfl, hyp.1⟩) ⟨_, rfl, hyp.2⟩
  · refine ex_tswIn 7 91 dX10_takes_11 c ⟨by decide, by decide⟩ (by decide) (by decide) rfl (by decide) ?_
    have hyp := hv7 c
    refine ex_aload_n 92 dX10_takes_91 rfl rfl ?_
    refine ex_iload_n 93 dX10_takes_92 rfl rfl ?_
    refine ex_iload_n 94 dX10_takes_93 rfl rfl ?_
    refine q_callVi [vi x1, vi ((h0.2.1 a0 13) - 1)] 97 dX10_takes_94 rfl cvX10_108 rfl rfl ⟨Nat.le_of_ble_eq_true rfl, Nat.le_of_ble_eq_true rfl⟩ (Nat.le_of_ble_eq_true rfl) o1 hyp (fun y29 h27 k28 hyp => ?_)
    exact ex_iret dX10_takes_97 (Or.inr ⟨rfl, hyp.1⟩) ⟨_, rfl, hyp.2⟩
  · refine ex_tswIn 8 84 dX10_takes_11 c ⟨by decide, by decide⟩ (by decide) (by decide) rfl (by decide) ?_
    have hyp := hv8 c
    refine ex_aload_n 85 dX10_takes_84 rfl rfl ?_
    refine ex_iload_n 86 dX10_takes_85 rfl rfl ?_
    refine ex_iload_n 87 dX10_takes_86 rfl rfl ?_
    refine q_callVi [vi x1, vi ((h0.2.1 a0 13) - 1)] 90 dX10_takes_87 rfl cvX10_94 rfl rfl ⟨Nat.le_of_ble_eq_true rfl, Nat.le_of_ble_eq_true rfl⟩ (Nat.le_of_ble_eq_true rfl) o1 hyp (fun y32 h30 k31 hyp => ?_)
    exact ex_iret dX10_takes_90 (Or.inr ⟨rfl, hyp.1⟩) ⟨_, rfl, hyp.2⟩
  · refine ex_tswIn 9 84 dX10_takes_11 c ⟨by decide, by decide⟩ (by decide) (by decide) rfl (by decide) ?_
    have hyp := hv9 c
    refine ex_aload_n 85 dX10_takes_84 rfl rfl ?_
    refine ex_iload_n 86 dX10_takes_85 rfl rfl ?_
    refine ex_iload_n 87 dX10_takes_86 rfl rfl ?_
    refine q_callVi [vi x1, vi ((h0.2.1 a0 13) - 1)] 90 dX10_takes_87 rfl cvX10_94 rfl rfl ⟨Nat.le_of_ble_eq_true rfl, Nat.le_of_ble_eq_true rfl⟩ (Nat.le_of_ble_eq_true rfl) o1 hyp (fun y35 h33 k34 hyp => ?_)
    exact ex_iret dX10_takes_90 (Or.inr ⟨rfl, hyp.1⟩) ⟨_, rfl, hyp.2⟩
set_option maxRecDepth 4000 in
theorem tX10_read {P : Int → PH → Prop} (h0 : PH) (a0 : Nat) (hyp : OB h0 10 a0 ∧ ∀ h2 : PH, h2 = px_upI h0 a0 12 0 → (∀ h5 : PH, h5 = px_upI h2 a0 13 0 → (EXi mX10_read 12 [some (vr a0), some (vi 0)] [] h5 P))) : METi mX10_read [vr a0] h0 P := by
  refine met_of_ex (by decide +kernel) (Nat.le_of_ble_eq_true rfl) ?_
  show EX mX10_read 0 [some (vr a0), none] [] h0 (0, 0) _
  refine ex_aload_n 1 dX10_read_0 rfl rfl ?_
  refine ex_iconst 2 dX10_read_1 rfl ?_
  obtain ⟨o1, hyp⟩ := hyp
  refine q_putI 10 12 5 dX10_read_2 rfl fiX10_84 ff10_12 rfl o1 (fun h2 e3 => ?_)
  have hyp := hyp h2 e3
  refine ex_aload_n 6 dX10_read_5 rfl rfl ?_
  refine ex_iconst 7 dX10_read_6 rfl ?_
  have f4 := OB.of (KI e3) o1
  refine q_putI 10 13 10 dX10_read_7 rfl fiX10_87 ff10_13 rfl f4 (fun h5 e6 => ?_)
  have hyp := hyp h5 e6
  refine ex_iconst 11 dX10_read_10 rfl ?_
  refine q_istore_n [some (vr a0), some (vi 0)] 12 dX10_read_11 rfl (Nat.le_of_ble_eq_true rfl) rfl rfl ?_
  exact hyp
set_option maxRecDepth 4000 in
theorem tX10_read_12 {P : Int → PH → Prop} (h0 : PH) (a0 : Nat) (x1 : Int) (hyp : OB h0 10 a0 ∧ rng x1 ∧ rng (h0.2.1 a0 0) ∧ (h0.2.1 a0 0 ≤ x1 → (P x1 h0)) ∧ (x1 < h0.2.1 a0 0 → (∃ r4 : Nat, h0.2.2 a0 1 = some r4 ∧ AI h0 20 r4 x1 ∧ METi mX10_takes [vr a0, vi (h0.2.1 r4 (x1).toNat)] h0 (fun y9 h7 => h7.1 = h0.1 → (rng y9 ∧ (y9 = 0 → (P x1 h7)) ∧ (¬ y9 = 0 → (EXi mX10_read 12 [some (vr a0), some (vi (x1 + 1))] [] h7 P))))))) : EXi mX10_read 12 [some (vr a0), some (vi x1)] [] h0 P := by
  refine ex_iload_n 13 dX10_read_12 rfl rfl ?_
  refine ex_aload_n 14 dX10_read_13 rfl rfl ?_
  obtain ⟨o1, hyp⟩ := hyp
  refine q_getI 10 0 17 dX10_read_14 rfl fiX10_80 (Or.inl rfl) o1 ?_
  obtain ⟨o2, hyp⟩ := hyp
  obtain ⟨o3, hyp⟩ := hyp
  obtain ⟨ht, hf⟩ := hyp
  refine ex_icmp_ge 39 20 dX10_read_17 (by decide) rfl o2 o3 (fun c12 => ?_) (fun c12 => ?_)
  · have hyp := ht c12
    clear ht hf
    refine ex_iload_n 40 dX10_read_39 rfl rfl ?_
    exact ex_iret dX10_read_40 (Or.inl rfl) ⟨_, rfl, hyp⟩
  · have hyp := hf c12
    clear ht hf
    refine ex_aload_n 21 dX10_read_20 rfl rfl ?_
    refine ex_aload_n 22 dX10_read_21 rfl rfl ?_
    obtain ⟨r4, f5, hyp⟩ := hyp
    refine q_getR 10 1 25 dX10_read_22 rfl fiX10_7 rfl o1 f5 ?_
    refine ex_iload_n 26 dX10_read_25 rfl rfl ?_
    obtain ⟨o6, hyp⟩ := hyp
    refine ex_iald 27 dX10_read_26 rfl o6 ?_
    refine q_callVi [vi (h0.2.1 r4 (x1).toNat)] 30 dX10_read_27 rfl cvX10_111 rfl rfl ⟨Nat.le_of_ble_eq_true rfl, Nat.le_of_ble_eq_true rfl⟩ (Nat.le_of_ble_eq_true rfl) o1 hyp (fun y9 h7 k8 hyp => ?_)
    obtain ⟨o10, hyp⟩ := hyp
    obtain ⟨ht, hf⟩ := hyp
    refine ex_if_eq 39 33 dX10_read_30 (by decide) rfl o10 (fun c11 => ?_) (fun c11 => ?_)
    · have hyp := ht c11
      clear ht hf
      refine ex_iload_n 40 dX10_read_39 rfl rfl ?_
      exact ex_iret dX10_read_40 (Or.inl rfl) ⟨_, rfl, hyp⟩
    · have hyp := hf c11
      clear ht hf
      refine q_iinc [some (vr a0), some (vi (x1 + 1))] 36 dX10_read_33 rfl rfl (Nat.le_of_ble_eq_true rfl) rfl rfl ?_
      refine ex_goto 12 dX10_read_36 (by decide) ?_
      exact hyp
set_option maxRecDepth 4000 in
theorem tX10_fault {P : Int → PH → Prop} (h0 : PH) (a0 : Nat) (hyp : OB h0 10 a0 ∧ METi mX10_read [vr a0] h0 (fun y4 h2 => h2.1 = h0.1 → (P y4 h2))) : METi mX10_fault [vr a0] h0 P := by
  refine met_of_ex (by decide +kernel) (Nat.le_of_ble_eq_true rfl) ?_
  show EX mX10_fault 0 [some (vr a0)] [] h0 (0, 0) _
  refine ex_aload_n 1 dX10_fault_0 rfl rfl ?_
  obtain ⟨o1, hyp⟩ := hyp
  refine q_callVi [] 4 dX10_fault_1 rfl cvX10_114 rfl rfl ⟨Nat.le_of_ble_eq_true rfl, Nat.le_of_ble_eq_true rfl⟩ (Nat.le_of_ble_eq_true rfl) o1 hyp (fun y4 h2 k3 hyp => ?_)
  exact ex_iret dX10_fault_4 (Or.inl rfl) ⟨_, rfl, hyp⟩
set_option maxRecDepth 4000 in
theorem tX10_ofKind {P : Int → PH → Prop} (h0 : PH) (a0 : Nat) (x1 : Int) (hyp : EXi mX10_ofKind 4 [some (vr a0), some (vi x1), some (vi 0), some (vi 0)] [] h0 P) : METi mX10_ofKind [vr a0, vi x1] h0 P := by
  refine met_of_ex (by decide +kernel) (Nat.le_of_ble_eq_true rfl) ?_
  show EX mX10_ofKind 0 [some (vr a0), some (vi x1), none, none] [] h0 (0, 0) _
  refine ex_iconst 1 dX10_ofKind_0 rfl ?_
  refine q_istore_n [some (vr a0), some (vi x1), some (vi 0), none] 2 dX10_ofKind_1 rfl (Nat.le_of_ble_eq_true rfl) rfl rfl ?_
  refine ex_iconst 3 dX10_ofKind_2 rfl ?_
  refine q_istore_n [some (vr a0), some (vi x1), some (vi 0), some (vi 0)] 4 dX10_ofKind_3 rfl (Nat.le_of_ble_eq_true rfl) rfl rfl ?_
  exact hyp
set_option maxRecDepth 4000 in
theorem tX10_ofKind_4 {P : Int → PH → Prop} (h0 : PH) (a0 : Nat) (x1 : Int) (x2 : Int) (x3 : Int) (hyp : OB h0 10 a0 ∧ rng x3 ∧ rng (h0.2.1 a0 2) ∧ (h0.2.1 a0 2 ≤ x3 → (P x2 h0)) ∧ (x3 < h0.2.1 a0 2 → (∃ r4 : Nat, h0.2.2 a0 3 = some r4 ∧ AI h0 20 r4 x3 ∧ rng (h0.2.1 r4 (x3).toNat) ∧ rng x1 ∧ (¬ h0.2.1 r4 (x3).toNat = x1 → (EXi mX10_ofKind 4 [some (vr a0), some (vi x1), some (vi (x2 + 0)), some (vi (x3 + 1))] [] h0 P)) ∧ (h0.2.1 r4 (x3).toNat = x1 → (EXi mX10_ofKind 4 [some (vr a0), some (vi x1), some (vi (x2 + 1)), some (vi (x3 + 1))] [] h0 P))))) : EXi mX10_ofKind 4 [some (vr a0), some (vi x1), some (vi x2), some (vi x3)] [] h0 P := by
  refine ex_iload_n 5 dX10_ofKind_4 rfl rfl ?_
  refine ex_aload_n 6 dX10_ofKind_5 rfl rfl ?_
  obtain ⟨o1, hyp⟩ := hyp
  refine q_getI 10 2 9 dX10_ofKind_6 rfl fiX10_118 (Or.inl rfl) o1 ?_
  obtain ⟨o2, hyp⟩ := hyp
  obtain ⟨o3, hyp⟩ := hyp
  obtain ⟨ht, hf⟩ := hyp
  refine ex_icmp_ge 36 12 dX10_ofKind_9 (by decide) rfl o2 o3 (fun c10 => ?_) (fun c10 => ?_)
  · have hyp := ht c10
    clear ht hf
    refine ex_iload_n 37 dX10_ofKind_36 rfl rfl ?_
    exact ex_iret dX10_ofKind_37 (Or.inl rfl) ⟨_, rfl, hyp⟩
  · have hyp := hf c10
    clear ht hf
    refine ex_iload_n 13 dX10_ofKind_12 rfl rfl ?_
    refine ex_aload_n 14 dX10_ofKind_13 rfl rfl ?_
    obtain ⟨r4, f5, hyp⟩ := hyp
    refine q_getR 10 3 17 dX10_ofKind_14 rfl fiX10_13 rfl o1 f5 ?_
    refine ex_iload_n 18 dX10_ofKind_17 rfl rfl ?_
    obtain ⟨o6, hyp⟩ := hyp
    refine ex_iald 19 dX10_ofKind_18 rfl o6 ?_
    refine ex_iload_n 20 dX10_ofKind_19 rfl rfl ?_
    obtain ⟨o7, hyp⟩ := hyp
    obtain ⟨o8, hyp⟩ := hyp
    obtain ⟨ht, hf⟩ := hyp
    refine ex_icmp_ne 27 23 dX10_ofKind_20 (by decide) rfl o7 o8 (fun c9 => ?_) (fun c9 => ?_)
    · have hyp := ht c9
      clear ht hf
      refine ex_iconst 28 dX10_ofKind_27 rfl ?_
      refine ex_iadd 29 dX10_ofKind_28 rfl ?_
      refine q_istore_n [some (vr a0), some (vi x1), some (vi (x2 + 0)), some (vi x3)] 30 dX10_ofKind_29 rfl (Nat.le_of_ble_eq_true rfl) rfl rfl ?_
      refine q_iinc [some (vr a0), some (vi x1), some (vi (x2 + 0)), some (vi (x3 + 1))] 33 dX10_ofKind_30 rfl rfl (Nat.le_of_ble_eq_true rfl) rfl rfl ?_
      refine ex_goto 4 dX10_ofKind_33 (by decide) ?_
      exact hyp
    · have hyp := hf c9
      clear ht hf
      refine ex_iconst 24 dX10_ofKind_23 rfl ?_
      refine ex_goto 28 dX10_ofKind_24 (by decide) ?_
      refine ex_iadd 29 dX10_ofKind_28 rfl ?_
      refine q_istore_n [some (vr a0), some (vi x1), some (vi (x2 + 1)), some (vi x3)] 30 dX10_ofKind_29 rfl (Nat.le_of_ble_eq_true rfl) rfl rfl ?_
      refine q_iinc [some (vr a0), some (vi x1), some (vi (x2 + 1)), some (vi (x3 + 1))] 33 dX10_ofKind_30 rfl rfl (Nat.le_of_ble_eq_true rfl) rfl rfl ?_
      refine ex_goto 4 dX10_ofKind_33 (by decide) ?_
      exact hyp
set_option maxRecDepth 4000 in
theorem tX10_newOfKind {P : Int → PH → Prop} (h0 : PH) (a0 : Nat) (x1 : Int) (hyp : EXi mX10_newOfKind 4 [some (vr a0), some (vi x1), some (vi 0), some (vi 0)] [] h0 P) : METi mX10_newOfKind [vr a0, vi x1] h0 P := by
  refine met_of_ex (by decide +kernel) (Nat.le_of_ble_eq_true rfl) ?_
  show EX mX10_newOfKind 0 [some (vr a0), some (vi x1), none, none] [] h0 (0, 0) _
  refine ex_iconst 1 dX10_newOfKind_0 rfl ?_
  refine q_istore_n [some (vr a0), some (vi x1), some (vi 0), none] 2 dX10_newOfKind_1 rfl (Nat.le_of_ble_eq_true rfl) rfl rfl ?_
  refine ex_iconst 3 dX10_newOfKind_2 rfl ?_
  refine q_istore_n [some (vr a0), some (vi x1), some (vi 0), some (vi 0)] 4 dX10_newOfKind_3 rfl (Nat.le_of_ble_eq_true rfl) rfl rfl ?_
  exact hyp
set_option maxRecDepth 4000 in
theorem tX10_newOfKind_4 {P : Int → PH → Prop} (h0 : PH) (a0 : Nat) (x1 : Int) (x2 : Int) (x3 : Int) (hyp : OB h0 10 a0 ∧ rng x3 ∧ rng (h0.2.1 a0 13) ∧ (h0.2.1 a0 13 ≤ x3 → (P x2 h0)) ∧ (x3 < h0.2.1 a0 13 → (∃ r4 : Nat, h0.2.2 a0 14 = some r4 ∧ AI h0 20 r4 x3 ∧ rng (h0.2.1 r4 (x3).toNat) ∧ rng x1 ∧ (¬ h0.2.1 r4 (x3).toNat = x1 → (EXi mX10_newOfKind 4 [some (vr a0), some (vi x1), some (vi (x2 + 0)), some (vi (x3 + 1))] [] h0 P)) ∧ (h0.2.1 r4 (x3).toNat = x1 → (EXi mX10_newOfKind 4 [some (vr a0), some (vi x1), some (vi (x2 + 1)), some (vi (x3 + 1))] [] h0 P))))) : EXi mX10_newOfKind 4 [some (vr a0), some (vi x1), some (vi x2), some (vi x3)] [] h0 P := by
  refine ex_iload_n 5 dX10_newOfKind_4 rfl rfl ?_
  refine ex_aload_n 6 dX10_newOfKind_5 rfl rfl ?_
  obtain ⟨o1, hyp⟩ := hyp
  refine q_getI 10 13 9 dX10_newOfKind_6 rfl fiX10_87 (Or.inl rfl) o1 ?_
  obtain ⟨o2, hyp⟩ := hyp
  obtain ⟨o3, hyp⟩ := hyp
  obtain ⟨ht, hf⟩ := hyp
  refine ex_icmp_ge 36 12 dX10_newOfKind_9 (by decide) rfl o2 o3 (fun c10 => ?_) (fun c10 => ?_)
  · have hyp := ht c10
    clear ht hf
    refine ex_iload_n 37 dX10_newOfKind_36 rfl rfl ?_
    exact ex_iret dX10_newOfKind_37 (Or.inl rfl) ⟨_, rfl, hyp⟩
  · have hyp := hf c10
    clear ht hf
    refine ex_iload_n 13 dX10_newOfKind_12 rfl rfl ?_
    refine ex_aload_n 14 dX10_newOfKind_13 rfl rfl ?_
    obtain ⟨r4, f5, hyp⟩ := hyp
    refine q_getR 10 14 17 dX10_newOfKind_14 rfl fiX10_34 rfl o1 f5 ?_
    refine ex_iload_n 18 dX10_newOfKind_17 rfl rfl ?_
    obtain ⟨o6, hyp⟩ := hyp
    refine ex_iald 19 dX10_newOfKind_18 rfl o6 ?_
    refine ex_iload_n 20 dX10_newOfKind_19 rfl rfl ?_
    obtain ⟨o7, hyp⟩ := hyp
    obtain ⟨o8, hyp⟩ := hyp
    obtain ⟨ht, hf⟩ := hyp
    refine ex_icmp_ne 27 23 dX10_newOfKind_20 (by decide) rfl o7 o8 (fun c9 => ?_) (fun c9 => ?_)
    · have hyp := ht c9
      clear ht hf
      refine ex_iconst 28 dX10_newOfKind_27 rfl ?_
      refine ex_iadd 29 dX10_newOfKind_28 rfl ?_
      refine q_istore_n [some (vr a0), some (vi x1), some (vi (x2 + 0)), some (vi x3)] 30 dX10_newOfKind_29 rfl (Nat.le_of_ble_eq_true rfl) rfl rfl ?_
      refine q_iinc [some (vr a0), some (vi x1), some (vi (x2 + 0)), some (vi (x3 + 1))] 33 dX10_newOfKind_30 rfl rfl (Nat.le_of_ble_eq_true rfl) rfl rfl ?_
      refine ex_goto 4 dX10_newOfKind_33 (by decide) ?_
      exact hyp
    · have hyp := hf c9
      clear ht hf
      refine ex_iconst 24 dX10_newOfKind_23 rfl ?_
      refine ex_goto 28 dX10_newOfKind_24 (by decide) ?_
      refine ex_iadd 29 dX10_newOfKind_28 rfl ?_
      refine q_istore_n [some (vr a0), some (vi x1), some (vi (x2 + 1)), some (vi x3)] 30 dX10_newOfKind_29 rfl (Nat.le_of_ble_eq_true rfl) rfl rfl ?_
      refine q_iinc [some (vr a0), some (vi x1), some (vi (x2 + 1)), some (vi (x3 + 1))] 33 dX10_newOfKind_30 rfl rfl (Nat.le_of_ble_eq_true rfl) rfl rfl ?_
      refine ex_goto 4 dX10_newOfKind_33 (by decide) ?_
      exact hyp
set_option maxRecDepth 4000 in
theorem tX10_isRoom {P : Int → PH → Prop} (h0 : PH) (a0 : Nat) (hyp : OB h0 10 a0 ∧ rng ((h0.2.1 a0 2) + (h0.2.1 a0 13)) ∧ (18 < (h0.2.1 a0 2) + (h0.2.1 a0 13) → (EXi mX10_isRoom 22 [some (vr a0), some (vi 0), some (vi 0)] [] h0 P)) ∧ ((h0.2.1 a0 2) + (h0.2.1 a0 13) ≤ 18 → (EXi mX10_isRoom 22 [some (vr a0), some (vi 1), some (vi 0)] [] h0 P))) : METi mX10_isRoom [vr a0] h0 P := by
  refine met_of_ex (by decide +kernel) (Nat.le_of_ble_eq_true rfl) ?_
  show EX mX10_isRoom 0 [some (vr a0), none, none] [] h0 (0, 0) _
  refine ex_aload_n 1 dX10_isRoom_0 rfl rfl ?_
  obtain ⟨o1, hyp⟩ := hyp
  refine q_getI 10 2 4 dX10_isRoom_1 rfl fiX10_118 (Or.inl rfl) o1 ?_
  refine ex_aload_n 5 dX10_isRoom_4 rfl rfl ?_
  refine q_getI 10 13 8 dX10_isRoom_5 rfl fiX10_87 (Or.inl rfl) o1 ?_
  refine ex_iadd 9 dX10_isRoom_8 rfl ?_
  refine ex_bipush 11 dX10_isRoom_9 rfl ⟨by decide, by decide⟩ ?_
  obtain ⟨o2, hyp⟩ := hyp
  obtain ⟨ht, hf⟩ := hyp
  refine ex_icmp_gt 18 14 dX10_isRoom_11 (by decide) rfl o2 ⟨by decide, by decide⟩ (fun c3 => ?_) (fun c3 => ?_)
  · have hyp := ht c3
    clear ht hf
    refine ex_iconst 19 dX10_isRoom_18 rfl ?_
    refine q_istore_n [some (vr a0), some (vi 0), none] 20 dX10_isRoom_19 rfl (Nat.le_of_ble_eq_true rfl) rfl rfl ?_
    refine ex_iconst 21 dX10_isRoom_20 rfl ?_
    refine q_istore_n [some (vr a0), some (vi 0), some (vi 0)] 22 dX10_isRoom_21 rfl (Nat.le_of_ble_eq_true rfl) rfl rfl ?_
    exact hyp
  · have hyp := hf c3
    clear ht hf
    refine ex_iconst 15 dX10_isRoom_14 rfl ?_
    refine ex_goto 19 dX10_isRoom_15 (by decide) ?_
    refine q_istore_n [some (vr a0), some (vi 1), none] 20 dX10_isRoom_19 rfl (Nat.le_of_ble_eq_true rfl) rfl rfl ?_
    refine ex_iconst 21 dX10_isRoom_20 rfl ?_
    refine q_istore_n [some (vr a0), some (vi 1), some (vi 0)] 22 dX10_isRoom_21 rfl (Nat.le_of_ble_eq_true rfl) rfl rfl ?_
    exact hyp
set_option maxRecDepth 4000 in
theorem tX10_isRoom_22 {P : Int → PH → Prop} (h0 : PH) (a0 : Nat) (x1 : Int) (x2 : Int) (hyp : rng x2 ∧ (3 ≤ x2 → ((x1 = 0 ∨ x1 = 1) ∧ P x1 h0)) ∧ (x2 < 3 → (rng x1 ∧ (x1 = 0 → (EXi mX10_isRoom 22 [some (vr a0), some (vi 0), some (vi (x2 + 1))] [] h0 P)) ∧ (¬ x1 = 0 → (OB h0 10 a0 ∧ METi mX10_ofKind [vr a0, vi x2] h0 (fun y6 h4 => h4.1 = h0.1 → (METi mX10_newOfKind [vr a0, vi x2] h4 (fun y10 h8 => h8.1 = h4.1 → (rng (y6 + y10) ∧ (7 < y6 + y10 → (EXi mX10_isRoom 22 [some (vr a0), some (vi 0), some (vi (x2 + 1))] [] h8 P)) ∧ (y6 + y10 ≤ 7 → (EXi mX10_isRoom 22 [some (vr a0), some (vi 1), some (vi (x2 + 1))] [] h8 P))))))))))) : EXi mX10_isRoom 22 [some (vr a0), some (vi x1), some (vi x2)] [] h0 P := by
  refine ex_iload_n 23 dX10_isRoom_22 rfl rfl ?_
  refine ex_iconst 24 dX10_isRoom_23 rfl ?_
  obtain ⟨o1, hyp⟩ := hyp
  obtain ⟨ht, hf⟩ := hyp
  refine ex_icmp_ge 59 27 dX10_isRoom_24 (by decide) rfl o1 ⟨by decide, by decide⟩ (fun c14 => ?_) (fun c14 => ?_)
  · have hyp := ht c14
    clear ht hf
    refine ex_iload_n 60 dX10_isRoom_59 rfl rfl ?_
    exact ex_iret dX10_isRoom_60 (Or.inr ⟨rfl, hyp.1⟩) ⟨_, rfl, hyp.2⟩
  · have hyp := hf c14
    clear ht hf
    refine ex_iload_n 28 dX10_isRoom_27 rfl rfl ?_
    obtain ⟨o2, hyp⟩ := hyp
    obtain ⟨ht, hf⟩ := hyp
    refine ex_if_eq 51 31 dX10_isRoom_28 (by decide) rfl o2 (fun c13 => ?_) (fun c13 => ?_)
    · have hyp := ht c13
      clear ht hf
      refine ex_iconst 52 dX10_isRoom_51 rfl ?_
      refine q_istore_n [some (vr a0), some (vi 0), some (vi x2)] 53 dX10_isRoom_52 rfl (Nat.le_of_ble_eq_true rfl) rfl rfl ?_
      refine q_iinc [some (vr a0), some (vi 0), some (vi (x2 + 1))] 56 dX10_isRoom_53 rfl rfl (Nat.le_of_ble_eq_true rfl) rfl rfl ?_
      refine ex_goto 22 dX10_isRoom_56 (by decide) ?_
      exact hyp
    · have hyp := hf c13
      clear ht hf
      refine ex_aload_n 32 dX10_isRoom_31 rfl rfl ?_
      refine ex_iload_n 33 dX10_isRoom_32 rfl rfl ?_
      obtain ⟨o3, hyp⟩ := hyp
      refine q_callVi [vi x2] 36 dX10_isRoom_33 rfl cvX10_121 rfl rfl ⟨Nat.le_of_ble_eq_true rfl, Nat.le_of_ble_eq_true rfl⟩ (Nat.le_of_ble_eq_true rfl) o3 hyp (fun y6 h4 k5 hyp => ?_)
      refine ex_aload_n 37 dX10_isRoom_36 rfl rfl ?_
      refine ex_iload_n 38 dX10_isRoom_37 rfl rfl ?_
      have f7 := OB.of k5 o3
      refine q_callVi [vi x2] 41 dX10_isRoom_38 rfl cvX10_125 rfl rfl ⟨Nat.le_of_ble_eq_true rfl, Nat.le_of_ble_eq_true rfl⟩ (Nat.le_of_ble_eq_true rfl) f7 hyp (fun y10 h8 k9 hyp => ?_)
      refine ex_iadd 42 dX10_isRoom_41 rfl ?_
      refine ex_bipush 44 dX10_isRoom_42 rfl ⟨by decide, by decide⟩ ?_
      obtain ⟨o11, hyp⟩ := hyp
      obtain ⟨ht, hf⟩ := hyp
      refine ex_icmp_gt 51 47 dX10_isRoom_44 (by decide) rfl o11 ⟨by decide, by decide⟩ (fun c12 => ?_) (fun c12 => ?_)
      · have hyp := ht c12
        clear ht hf
        refine ex_iconst 52 dX10_isRoom_51 rfl ?_
        refine q_istore_n [some (vr a0), some (vi 0), some (vi x2)] 53 dX10_isRoom_52 rfl (Nat.le_of_ble_eq_true rfl) rfl rfl ?_
        refine q_iinc [some (vr a0), some (vi 0), some (vi (x2 + 1))] 56 dX10_isRoom_53 rfl rfl (Nat.le_of_ble_eq_true rfl) rfl rfl ?_
        refine ex_goto 22 dX10_isRoom_56 (by decide) ?_
        exact hyp
      · have hyp := hf c12
        clear ht hf
        refine ex_iconst 48 dX10_isRoom_47 rfl ?_
        refine ex_goto 52 dX10_isRoom_48 (by decide) ?_
        refine q_istore_n [some (vr a0), some (vi 1), some (vi x2)] 53 dX10_isRoom_52 rfl (Nat.le_of_ble_eq_true rfl) rfl rfl ?_
        refine q_iinc [some (vr a0), some (vi 1), some (vi (x2 + 1))] 56 dX10_isRoom_53 rfl rfl (Nat.le_of_ble_eq_true rfl) rfl rfl ?_
        refine ex_goto 22 dX10_isRoom_56 (by decide) ?_
        exact hyp
set_option maxRecDepth 4000 in
theorem tX10_enter {P : Int → PH → Prop} (h0 : PH) (a0 : Nat) (hyp : OB h0 10 a0 ∧ METi mX10_read [vr a0] h0 (fun y4 h2 => h2.1 = h0.1 → (rng y4 ∧ rng (h2.2.1 a0 0) ∧ (¬ y4 = h2.2.1 a0 0 → (P (-103) h2)) ∧ (y4 = h2.2.1 a0 0 → (rng (h2.2.1 a0 12) ∧ (h2.2.1 a0 12 = 7 → (METi mX10_isRoom [vr a0] h2 (fun y11 h9 => h9.1 = h2.1 → (rng y11 ∧ (¬ y11 = 0 → (EXi mX10_enter 54 [some (vr a0), none, some (vi 0), none, none] [] h9 P)) ∧ (y11 = 0 → (P (-104) h9)))))) ∧ (¬ h2.2.1 a0 12 = 7 → ((h2.2.1 a0 12 ≤ 9 → (P (-103) h2)) ∧ (9 < h2.2.1 a0 12 → (METi mX10_isRoom [vr a0] h2 (fun y16 h14 => h14.1 = h2.1 → (rng y16 ∧ (¬ y16 = 0 → (EXi mX10_enter 54 [some (vr a0), none, some (vi 0), none, none] [] h14 P)) ∧ (y16 = 0 → (P (-104) h14))))))))))))) : METi mX10_enter [vr a0] h0 P := by
  refine met_of_ex (by decide +kernel) (Nat.le_of_ble_eq_true rfl) ?_
  show EX mX10_enter 0 [some (vr a0), none, none, none, none] [] h0 (0, 0) _
  refine ex_aload_n 1 dX10_enter_0 rfl rfl ?_
  obtain ⟨o1, hyp⟩ := hyp
  refine q_callVi [] 4 dX10_enter_1 rfl cvX10_114 rfl rfl ⟨Nat.le_of_ble_eq_true rfl, Nat.le_of_ble_eq_true rfl⟩ (Nat.le_of_ble_eq_true rfl) o1 hyp (fun y4 h2 k3 hyp => ?_)
  refine ex_aload_n 5 dX10_enter_4 rfl rfl ?_
  have f5 := OB.of k3 o1
  refine q_getI 10 0 8 dX10_enter_5 rfl fiX10_80 (Or.inl rfl) f5 ?_
  obtain ⟨o6, hyp⟩ := hyp
  obtain ⟨o7, hyp⟩ := hyp
  obtain ⟨ht, hf⟩ := hyp
  refine ex_icmp_ne 33 11 dX10_enter_8 (by decide) rfl o6 o7 (fun c21 => ?_) (fun c21 => ?_)
  · have hyp := ht c21
    clear ht hf
    refine ex_iconst 34 dX10_enter_33 rfl ?_
    refine q_istore_n [some (vr a0), some (vi 0), none, none, none] 35 dX10_enter_34 rfl (Nat.le_of_ble_eq_true rfl) rfl rfl ?_
    refine ex_iload_n 36 dX10_enter_35 rfl rfl ?_
    refine ex_if_ne 42 39 dX10_enter_36 (by decide) rfl ⟨by decide, by decide⟩ (fun c => absurd c (by decide)) (fun _ => ?_)
    refine ex_bipush 41 dX10_enter_39 rfl ⟨by decide, by decide⟩ ?_
    exact ex_iret dX10_enter_41 (Or.inl rfl) ⟨_, rfl, hyp⟩
  · have hyp := hf c21
    clear ht hf
    refine ex_aload_n 12 dX10_enter_11 rfl rfl ?_
    refine q_getI 10 12 15 dX10_enter_12 rfl fiX10_84 (Or.inl rfl) f5 ?_
    refine ex_bipush 17 dX10_enter_15 rfl ⟨by decide, by decide⟩ ?_
    obtain ⟨o8, hyp⟩ := hyp
    obtain ⟨ht, hf⟩ := hyp
    refine ex_icmp_eq 29 20 dX10_enter_17 (by decide) rfl o8 ⟨by decide, by decide⟩ (fun c20 => ?_) (fun c20 => ?_)
    · have hyp := ht c20
      clear ht hf
      refine ex_iconst 30 dX10_enter_29 rfl ?_
      refine ex_goto 34 dX10_enter_30 (by decide) ?_
      refine q_istore_n [some (vr a0), some (vi 1), none, none, none] 35 dX10_enter_34 rfl (Nat.le_of_ble_eq_true rfl) rfl rfl ?_
      refine ex_iload_n 36 dX10_enter_35 rfl rfl ?_
      refine ex_if_ne 42 39 dX10_enter_36 (by decide) rfl ⟨by decide, by decide⟩ (fun _ => ?_) (fun c => absurd c (by decide))
      refine ex_aload_n 43 dX10_enter_42 rfl rfl ?_
      refine q_callVi [] 46 dX10_enter_43 rfl cvX10_128 rfl rfl ⟨Nat.le_of_ble_eq_true rfl, Nat.le_of_ble_eq_true rfl⟩ (Nat.le_of_ble_eq_true rfl) f5 hyp (fun y11 h9 k10 hyp => ?_)
      obtain ⟨o12, hyp⟩ := hyp
      obtain ⟨ht, hf⟩ := hyp
      refine ex_if_ne 52 49 dX10_enter_46 (by decide) rfl o12 (fun c13 => ?_) (fun c13 => ?_)
      · have hyp := ht c13
        clear ht hf
        refine ex_iconst 53 dX10_enter_52 rfl ?_
        refine q_istore_n [some (vr a0), some (vi 1), some (vi 0), none, none] 54 dX10_enter_53 rfl (Nat.le_of_ble_eq_true rfl) rfl rfl ?_
        refine ex_dropL (ls' := [some (vr a0), none, some (vi 0), none, none]) 1 rfl ?_
        exact hyp
      · have hyp := hf c13
        clear ht hf
        refine ex_bipush 51 dX10_enter_49 rfl ⟨by decide, by decide⟩ ?_
        exact ex_iret dX10_enter_51 (Or.inl rfl) ⟨_, rfl, hyp⟩
    · have hyp := hf c20
      clear ht hf
      refine ex_aload_n 21 dX10_enter_20 rfl rfl ?_
      refine q_getI 10 12 24 dX10_enter_21 rfl fiX10_84 (Or.inl rfl) f5 ?_
      refine ex_bipush 26 dX10_enter_24 rfl ⟨by decide, by decide⟩ ?_
      obtain ⟨ht, hf⟩ := hyp
      refine ex_icmp_le 33 29 dX10_enter_26 (by decide) rfl o8 ⟨by decide, by decide⟩ (fun c19 => ?_) (fun c19 => ?_)
      · have hyp := ht c19
        clear ht hf
        refine ex_iconst 34 dX10_enter_33 rfl ?_
        refine q_istore_n [some (vr a0), some (vi 0), none, none, none] 35 dX10_enter_34 rfl (Nat.le_of_ble_eq_true rfl) rfl rfl ?_
        refine ex_iload_n 36 dX10_enter_35 rfl rfl ?_
        refine ex_if_ne 42 39 dX10_enter_36 (by decide) rfl ⟨by decide, by decide⟩ (fun c => absurd c (by decide)) (fun _ => ?_)
        refine ex_bipush 41 dX10_enter_39 rfl ⟨by decide, by decide⟩ ?_
        exact ex_iret dX10_enter_41 (Or.inl rfl) ⟨_, rfl, hyp⟩
      · have hyp := hf c19
        clear ht hf
        refine ex_iconst 30 dX10_enter_29 rfl ?_
        refine ex_goto 34 dX10_enter_30 (by decide) ?_
        refine q_istore_n [some (vr a0), some (vi 1), none, none, none] 35 dX10_enter_34 rfl (Nat.le_of_ble_eq_true rfl) rfl rfl ?_
        refine ex_iload_n 36 dX10_enter_35 rfl rfl ?_
        refine ex_if_ne 42 39 dX10_enter_36 (by decide) rfl ⟨by decide, by decide⟩ (fun _ => ?_) (fun c => absurd c (by decide))
        refine ex_aload_n 43 dX10_enter_42 rfl rfl ?_
        refine q_callVi [] 46 dX10_enter_43 rfl cvX10_128 rfl rfl ⟨Nat.le_of_ble_eq_true rfl, Nat.le_of_ble_eq_true rfl⟩ (Nat.le_of_ble_eq_true rfl) f5 hyp (fun y16 h14 k15 hyp => ?_)
        obtain ⟨o17, hyp⟩ := hyp
        obtain ⟨ht, hf⟩ := hyp
        refine ex_if_ne 52 49 dX10_enter_46 (by decide) rfl o17 (fun c18 => ?_) (fun c18 => ?_)
        · have hyp := ht c18
          clear ht hf
          refine ex_iconst 53 dX10_enter_52 rfl ?_
          refine q_istore_n [some (vr a0), some (vi 1), some (vi 0), none, none] 54 dX10_enter_53 rfl (Nat.le_of_ble_eq_true rfl) rfl rfl ?_
          refine ex_dropL (ls' := [some (vr a0), none, some (vi 0), none, none]) 1 rfl ?_
          exact hyp
        · have hyp := hf c18
          clear ht hf
          refine ex_bipush 51 dX10_enter_49 rfl ⟨by decide, by decide⟩ ?_
          exact ex_iret dX10_enter_51 (Or.inl rfl) ⟨_, rfl, hyp⟩
set_option maxRecDepth 4000 in
theorem tX10_enter_54 {P : Int → PH → Prop} (h0 : PH) (a0 : Nat) (x2 : Int) (hyp : OB h0 10 a0 ∧ rng x2 ∧ rng (h0.2.1 a0 13) ∧ (h0.2.1 a0 13 ≤ x2 → (∀ h4 : PH, h4 = px_upI h0 a0 2 ((h0.2.1 a0 2) + (h0.2.1 a0 13)) → (∀ h7 : PH, h7 = px_upI h4 a0 10 ((h4.2.1 a0 10) + 1) → (∀ h10 : PH, h10 = px_upI h7 a0 0 0 → (P (h10.2.1 a0 13) h10))))) ∧ (x2 < h0.2.1 a0 13 → (∃ r13 : Nat, h0.2.2 a0 3 = some r13 ∧ ∃ r15 : Nat, h0.2.2 a0 14 = some r15 ∧ AI h0 20 r15 x2 ∧ AI h0 20 r13 ((h0.2.1 a0 2) + x2) ∧ ∀ h19 : PH, h19 = px_upI h0 r13 ((h0.2.1 a0 2) + x2).toNat (h0.2.1 r15 (x2).toNat) → (∃ r22 : Nat, h19.2.2 a0 4 = some r22 ∧ ∃ r24 : Nat, h19.2.2 a0 15 = some r24 ∧ AI h19 20 r24 x2 ∧ AI h19 20 r22 ((h0.2.1 a0 2) + x2) ∧ ∀ h28 : PH, h28 = px_upI h19 r22 ((h0.2.1 a0 2) + x2).toNat (h19.2.1 r24 (x2).toNat) → (∃ r31 : Nat, h28.2.2 a0 5 = some r31 ∧ ∃ r33 : Nat, h28.2.2 a0 16 = some r33 ∧ AI h28 20 r33 x2 ∧ AI h28 20 r31 ((h0.2.1 a0 2) + x2) ∧ ∀ h37 : PH, h37 = px_upI h28 r31 ((h0.2.1 a0 2) + x2).toNat (h28.2.1 r33 (x2).toNat) → (∃ r40 : Nat, h37.2.2 a0 6 = some r40 ∧ ∃ r42 : Nat, h37.2.2 a0 17 = some r42 ∧ AI h37 20 r42 x2 ∧ AI h37 20 r40 ((h0.2.1 a0 2) + x2) ∧ ∀ h46 : PH, h46 = px_upI h37 r40 ((h0.2.1 a0 2) + x2).toNat (h37.2.1 r42 (x2).toNat) → (∃ r49 : Nat, h46.2.2 a0 8 = some r49 ∧ AI h46 20 r49 ((h0.2.1 a0 2) + x2) ∧ ∀ h52 : PH, h52 = px_upI h46 r49 ((h0.2.1 a0 2) + x2).toNat 0 → (EXi mX10_enter 127 [some (vr a0), none, some (vi x2), some (vi ((h0.2.1 a0 2) + x2)), some (vi 0)] [] h52 P)))))))) : EXi mX10_enter 54 [some (vr a0), none, some (vi x2), none, none] [] h0 P := by
  refine ex_iload_n 55 dX10_enter_54 rfl rfl ?_
  refine ex_aload_n 56 dX10_enter_55 rfl rfl ?_
  obtain ⟨o1, hyp⟩ := hyp
  refine q_getI 10 13 59 dX10_enter_56 rfl fiX10_87 (Or.inl rfl) o1 ?_
  obtain ⟨o2, hyp⟩ := hyp
  obtain ⟨o3, hyp⟩ := hyp
  obtain ⟨ht, hf⟩ := hyp
  refine ex_icmp_ge 170 62 dX10_enter_59 (by decide) rfl o2 o3 (fun c54 => ?_) (fun c54 => ?_)
  · have hyp := ht c54
    clear ht hf
    refine ex_aload_n 171 dX10_enter_170 rfl rfl ?_
    refine ex_dup 172 dX10_enter_171 rfl rfl ?_
    refine q_getI 10 2 175 dX10_enter_172 rfl fiX10_118 (Or.inl rfl) o1 ?_
    refine ex_aload_n 176 dX10_enter_175 rfl rfl ?_
    refine q_getI 10 13 179 dX10_enter_176 rfl fiX10_87 (Or.inl rfl) o1 ?_
    refine ex_iadd 180 dX10_enter_179 rfl ?_
    refine q_putI 10 2 183 dX10_enter_180 rfl fiX10_118 ff10_2 rfl o1 (fun h4 e5 => ?_)
    have hyp := hyp h4 e5
    refine ex_aload_n 184 dX10_enter_183 rfl rfl ?_
    refine ex_dup 185 dX10_enter_184 rfl rfl ?_
    have f6 := OB.of (KI e5) o1
    refine q_getI 10 10 188 dX10_enter_185 rfl fiX10_132 (Or.inl rfl) f6 ?_
    refine ex_iconst 189 dX10_enter_188 rfl ?_
    refine ex_iadd 190 dX10_enter_189 rfl ?_
    refine q_putI 10 10 193 dX10_enter_190 rfl fiX10_132 ff10_10 rfl f6 (fun h7 e8 => ?_)
    have hyp := hyp h7 e8
    refine ex_aload_n 194 dX10_enter_193 rfl rfl ?_
    refine ex_iconst 195 dX10_enter_194 rfl ?_
    have f9 := OB.of (KI e8) f6
    refine q_putI 10 0 198 dX10_enter_195 rfl fiX10_80 ff10_0 rfl f9 (fun h10 e11 => ?_)
    have hyp := hyp h10 e11
    refine ex_aload_n 199 dX10_enter_198 rfl rfl ?_
    have f12 := OB.of (KI e11) f9
    refine q_getI 10 13 202 dX10_enter_199 rfl fiX10_87 (Or.inl rfl) f12 ?_
    exact ex_iret dX10_enter_202 (Or.inl rfl) ⟨_, rfl, hyp⟩
  · have hyp := hf c54
    clear ht hf
    refine ex_aload_n 63 dX10_enter_62 rfl rfl ?_
    refine q_getI 10 2 66 dX10_enter_63 rfl fiX10_118 (Or.inl rfl) o1 ?_
    refine ex_iload_n 67 dX10_enter_66 rfl rfl ?_
    refine ex_iadd 68 dX10_enter_67 rfl ?_
    refine q_istore_n [some (vr a0), none, some (vi x2), some (vi ((h0.2.1 a0 2) + x2)), none] 69 dX10_enter_68 rfl (Nat.le_of_ble_eq_true rfl) rfl rfl ?_
    refine ex_aload_n 70 dX10_enter_69 rfl rfl ?_
    obtain ⟨r13, f14, hyp⟩ := hyp
    refine q_getR 10 3 73 dX10_enter_70 rfl fiX10_13 rfl o1 f14 ?_
    refine ex_iload_n 74 dX10_enter_73 rfl rfl ?_
    refine ex_aload_n 75 dX10_enter_74 rfl rfl ?_
    obtain ⟨r15, f16, hyp⟩ := hyp
    refine q_getR 10 14 78 dX10_enter_75 rfl fiX10_34 rfl o1 f16 ?_
    refine ex_iload_n 79 dX10_enter_78 rfl rfl ?_
    obtain ⟨o17, hyp⟩ := hyp
    refine ex_iald 80 dX10_enter_79 rfl o17 ?_
    obtain ⟨o18, hyp⟩ := hyp
    refine ex_iast 81 dX10_enter_80 rfl o18 (fun h19 e20 => ?_)
    have hyp := hyp h19 e20
    refine ex_aload_n 82 dX10_enter_81 rfl rfl ?_
    have f21 := OB.of (KI e20) o1
    obtain ⟨r22, f23, hyp⟩ := hyp
    refine q_getR 10 4 85 dX10_enter_82 rfl fiX10_16 rfl f21 f23 ?_
    refine ex_iload_n 86 dX10_enter_85 rfl rfl ?_
    refine ex_aload_n 87 dX10_enter_86 rfl rfl ?_
    obtain ⟨r24, f25, hyp⟩ := hyp
    refine q_getR 10 15 90 dX10_enter_87 rfl fiX10_37 rfl f21 f25 ?_
    refine ex_iload_n 91 dX10_enter_90 rfl rfl ?_
    obtain ⟨o26, hyp⟩ := hyp
    refine ex_iald 92 dX10_enter_91 rfl o26 ?_
    obtain ⟨o27, hyp⟩ := hyp
    refine ex_iast 93 dX10_enter_92 rfl o27 (fun h28 e29 => ?_)
    have hyp := hyp h28 e29
    refine ex_aload_n 94 dX10_enter_93 rfl rfl ?_
    have f30 := OB.of (KI e29) f21
    obtain ⟨r31, f32, hyp⟩ := hyp
    refine q_getR 10 5 97 dX10_enter_94 rfl fiX10_19 rfl f30 f32 ?_
    refine ex_iload_n 98 dX10_enter_97 rfl rfl ?_
    refine ex_aload_n 99 dX10_enter_98 rfl rfl ?_
    obtain ⟨r33, f34, hyp⟩ := hyp
    refine q_getR 10 16 102 dX10_enter_99 rfl fiX10_40 rfl f30 f34 ?_
    refine ex_iload_n 103 dX10_enter_102 rfl rfl ?_
    obtain ⟨o35, hyp⟩ := hyp
    refine ex_iald 104 dX10_enter_103 rfl o35 ?_
    obtain ⟨o36, hyp⟩ := hyp
    refine ex_iast 105 dX10_enter_104 rfl o36 (fun h37 e38 => ?_)
    have hyp := hyp h37 e38
    refine ex_aload_n 106 dX10_enter_105 rfl rfl ?_
    have f39 := OB.of (KI e38) f30
    obtain ⟨r40, f41, hyp⟩ := hyp
    refine q_getR 10 6 109 dX10_enter_106 rfl fiX10_22 rfl f39 f41 ?_
    refine ex_iload_n 110 dX10_enter_109 rfl rfl ?_
    refine ex_aload_n 111 dX10_enter_110 rfl rfl ?_
    obtain ⟨r42, f43, hyp⟩ := hyp
    refine q_getR 10 17 114 dX10_enter_111 rfl fiX10_43 rfl f39 f43 ?_
    refine ex_iload_n 115 dX10_enter_114 rfl rfl ?_
    obtain ⟨o44, hyp⟩ := hyp
    refine ex_iald 116 dX10_enter_115 rfl o44 ?_
    obtain ⟨o45, hyp⟩ := hyp
    refine ex_iast 117 dX10_enter_116 rfl o45 (fun h46 e47 => ?_)
    have hyp := hyp h46 e47
    refine ex_aload_n 118 dX10_enter_117 rfl rfl ?_
    have f48 := OB.of (KI e47) f39
    obtain ⟨r49, f50, hyp⟩ := hyp
    refine q_getR 10 8 121 dX10_enter_118 rfl fiX10_28 rfl f48 f50 ?_
    refine ex_iload_n 122 dX10_enter_121 rfl rfl ?_
    refine ex_iconst 123 dX10_enter_122 rfl ?_
    obtain ⟨o51, hyp⟩ := hyp
    refine ex_iast 124 dX10_enter_123 rfl o51 (fun h52 e53 => ?_)
    have hyp := hyp h52 e53
    refine ex_iconst 125 dX10_enter_124 rfl ?_
    refine q_istore [some (vr a0), none, some (vi x2), some (vi ((h0.2.1 a0 2) + x2)), some (vi 0)] 127 dX10_enter_125 rfl (Nat.le_of_ble_eq_true rfl) rfl rfl ?_
    exact hyp
set_option maxRecDepth 4000 in
theorem tX10_enter_127 {P : Int → PH → Prop} (h0 : PH) (a0 : Nat) (x2 : Int) (x3 : Int) (x4 : Int) (hyp : rng x4 ∧ (8 ≤ x4 → (EXi mX10_enter 54 [some (vr a0), none, some (vi (x2 + 1)), none, none] [] h0 P)) ∧ (x4 < 8 → (OB h0 10 a0 ∧ ∃ r3 : Nat, h0.2.2 a0 7 = some r3 ∧ ∃ r5 : Nat, h0.2.2 a0 18 = some r5 ∧ AI h0 20 r5 ((8 * x2) + x4) ∧ AI h0 20 r3 ((8 * x3) + x4) ∧ ∀ h9 : PH, h9 = px_upI h0 r3 ((8 * x3) + x4).toNat (h0.2.1 r5 ((8 * x2) + x4).toNat) → (EXi mX10_enter 127 [some (vr a0), none, some (vi x2), some (vi x3), some (vi (x4 + 1))] [] h9 P)))) : EXi mX10_enter 127 [some (vr a0), none, some (vi x2), some (vi x3), some (vi x4)] [] h0 P := by
  refine ex_iload 129 dX10_enter_127 rfl rfl ?_
  refine ex_bipush 131 dX10_enter_129 rfl ⟨by decide, by decide⟩ ?_
  obtain ⟨o1, hyp⟩ := hyp
  obtain ⟨ht, hf⟩ := hyp
  refine ex_icmp_ge 164 134 dX10_enter_131 (by decide) rfl o1 ⟨by decide, by decide⟩ (fun c11 => ?_) (fun c11 => ?_)
  · have hyp := ht c11
    clear ht hf
    refine q_iinc [some (vr a0), none, some (vi (x2 + 1)), some (vi x3), some (vi x4)] 167 dX10_enter_164 rfl rfl (Nat.le_of_ble_eq_true rfl) rfl rfl ?_
    refine ex_goto 54 dX10_enter_167 (by decide) ?_
    refine ex_dropL (ls' := [some (vr a0), none, some (vi (x2 + 1)), none, some (vi x4)]) 3 rfl ?_
    refine ex_dropL (ls' := [some (vr a0), none, some (vi (x2 + 1)), none, none]) 4 rfl ?_
    exact hyp
  · have hyp := hf c11
    clear ht hf
    refine ex_aload_n 135 dX10_enter_134 rfl rfl ?_
    obtain ⟨o2, hyp⟩ := hyp
    obtain ⟨r3, f4, hyp⟩ := hyp
    refine q_getR 10 7 138 dX10_enter_135 rfl fiX10_25 rfl o2 f4 ?_
    refine ex_bipush 140 dX10_enter_138 rfl ⟨by decide, by decide⟩ ?_
    refine ex_iload_n 141 dX10_enter_140 rfl rfl ?_
    refine ex_imul 142 dX10_enter_141 rfl ?_
    refine ex_iload 144 dX10_enter_142 rfl rfl ?_
    refine ex_iadd 145 dX10_enter_144 rfl ?_
    refine ex_aload_n 146 dX10_enter_145 rfl rfl ?_
    obtain ⟨r5, f6, hyp⟩ := hyp
    refine q_getR 10 18 149 dX10_enter_146 rfl fiX10_46 rfl o2 f6 ?_
    refine ex_bipush 151 dX10_enter_149 rfl ⟨by decide, by decide⟩ ?_
    refine ex_iload_n 152 dX10_enter_151 rfl rfl ?_
    refine ex_imul 153 dX10_enter_152 rfl ?_
    refine ex_iload 155 dX10_enter_153 rfl rfl ?_
    refine ex_iadd 156 dX10_enter_155 rfl ?_
    obtain ⟨o7, hyp⟩ := hyp
    refine ex_iald 157 dX10_enter_156 rfl o7 ?_
    obtain ⟨o8, hyp⟩ := hyp
    refine ex_iast 158 dX10_enter_157 rfl o8 (fun h9 e10 => ?_)
    have hyp := hyp h9 e10
    refine q_iinc [some (vr a0), none, some (vi x2), some (vi x3), some (vi (x4 + 1))] 161 dX10_enter_158 rfl rfl (Nat.le_of_ble_eq_true rfl) rfl rfl ?_
    refine ex_goto 127 dX10_enter_161 (by decide) ?_
    exact hyp
set_option maxRecDepth 4000 in
theorem tX10_groupOf {P : Int → PH → Prop} (h0 : PH) (x0 : Int) (hyp : rng x0 ∧ (x0 < 97 ∨ 122 < x0 → (P x0 h0)) ∧ (x0 = 97 → (P 9 h0)) ∧ (x0 = 98 → (P 1 h0)) ∧ (x0 = 99 → (P 2 h0)) ∧ (x0 = 100 → (P 3 h0)) ∧ (x0 = 101 → (P 9 h0)) ∧ (x0 = 102 → (P 4 h0)) ∧ (x0 = 103 → (P 5 h0)) ∧ (x0 = 104 → (P x0 h0)) ∧ (x0 = 105 → (P 6 h0)) ∧ (x0 = 106 → (P 5 h0)) ∧ (x0 = 107 → (P 2 h0)) ∧ (x0 = 108 → (P x0 h0)) ∧ (x0 = 109 → (P 7 h0)) ∧ (x0 = 110 → (P 7 h0)) ∧ (x0 = 111 → (P 9 h0)) ∧ (x0 = 112 → (P 1 h0)) ∧ (x0 = 113 → (P 2 h0)) ∧ (x0 = 114 → (P x0 h0)) ∧ (x0 = 115 → (P 8 h0)) ∧ (x0 = 116 → (P 3 h0)) ∧ (x0 = 117 → (P 9 h0)) ∧ (x0 = 118 → (P 4 h0)) ∧ (x0 = 119 → (P 4 h0)) ∧ (x0 = 120 → (P 8 h0)) ∧ (x0 = 121 → (P 6 h0)) ∧ (x0 = 122 → (P 8 h0))) : METi mX10_groupOf [vi x0] h0 P := by
  refine met_of_ex (by decide +kernel) (Nat.le_of_ble_eq_true rfl) ?_
  show EX mX10_groupOf 0 [some (vi x0)] [] h0 (0, 0) _
  refine ex_iload_n 1 dX10_groupOf_0 rfl rfl ?_
  obtain ⟨o1, hyp⟩ := hyp
  obtain ⟨hd, hv0, hv1, hv2, hv3, hv4, hv5, hv6, hv7, hv8, hv9, hv10, hv11, hv12, hv13, hv14, hv15, hv16, hv17, hv18, hv19, hv20, hv21, hv22, hv23, hv24, hv25⟩ := hyp
  rcases (show (x0 < 97 ∨ 122 < x0) ∨ x0 = 97 ∨ x0 = 98 ∨ x0 = 99 ∨ x0 = 100 ∨ x0 = 101 ∨ x0 = 102 ∨ x0 = 103 ∨ x0 = 104 ∨ x0 = 105 ∨ x0 = 106 ∨ x0 = 107 ∨ x0 = 108 ∨ x0 = 109 ∨ x0 = 110 ∨ x0 = 111 ∨ x0 = 112 ∨ x0 = 113 ∨ x0 = 114 ∨ x0 = 115 ∨ x0 = 116 ∨ x0 = 117 ∨ x0 = 118 ∨ x0 = 119 ∨ x0 = 120 ∨ x0 = 121 ∨ x0 = 122 by omega) with c | c | c | c | c | c | c | c | c | c | c | c | c | c | c | c | c | c | c | c | c | c | c | c | c | c | c
  · refine ex_tswOut 142 dX10_groupOf_1 o1 c (by decide) ?_
    have hyp := hd c
    refine ex_iload_n 143 dX10_groupOf_142 rfl rfl ?_
    exact ex_iret dX10_groupOf_143 (Or.inl rfl) ⟨_, rfl, hyp⟩
  · refine ex_tswIn 97 139 dX10_groupOf_1 c ⟨by decide, by decide⟩ (by decide) (by decide) rfl (by decide) ?_
    have hyp := hv0 c
    refine ex_bipush 141 dX10_groupOf_139 rfl ⟨by decide, by decide⟩ ?_
    exact ex_iret dX10_groupOf_141 (Or.inl rfl) ⟨_, rfl, hyp⟩
  · refine ex_tswIn 98 120 dX10_groupOf_1 c ⟨by decide, by decide⟩ (by decide) (by decide) rfl (by decide) ?_
    have hyp := hv1 c
    refine ex_iconst 121 dX10_groupOf_120 rfl ?_
    exact ex_iret dX10_groupOf_121 (Or.inl rfl) ⟨_, rfl, hyp⟩
  · refine ex_tswIn 99 122 dX10_groupOf_1 c ⟨by decide, by decide⟩ (by decide) (by decide) rfl (by decide) ?_
    have hyp := hv2 c
    refine ex_iconst 123 dX10_groupOf_122 rfl ?_
    exact ex_iret dX10_groupOf_123 (Or.inl rfl) ⟨_, rfl, hyp⟩
  · refine ex_tswIn 100 124 dX10_groupOf_1 c ⟨by decide, by decide⟩ (by decide) (by decide) rfl (by decide) ?_
    have hyp := hv3 c
    refine ex_iconst 125 dX10_groupOf_124 rfl ?_
    exact ex_iret dX10_groupOf_125 (Or.inl rfl) ⟨_, rfl, hyp⟩
  · refine ex_tswIn 101 139 dX10_groupOf_1 c ⟨by decide, by decide⟩ (by decide) (by decide) rfl (by decide) ?_
    have hyp := hv4 c
    refine ex_bipush 141 dX10_groupOf_139 rfl ⟨by decide, by decide⟩ ?_
    exact ex_iret dX10_groupOf_141 (Or.inl rfl) ⟨_, rfl, hyp⟩
  · refine ex_tswIn 102 126 dX10_groupOf_1 c ⟨by decide, by decide⟩ (by decide) (by decide) rfl (by decide) ?_
    have hyp := hv5 c
    refine ex_iconst 127 dX10_groupOf_126 rfl ?_
    exact ex_iret dX10_groupOf_127 (Or.inl rfl) ⟨_, rfl, hyp⟩
  · refine ex_tswIn 103 128 dX10_groupOf_1 c ⟨by decide, by decide⟩ (by decide) (by decide) rfl (by decide) ?_
    have hyp := hv6 c
    refine ex_iconst 129 dX10_groupOf_128 rfl ?_
    exact ex_iret dX10_groupOf_129 (Or.inl rfl) ⟨_, rfl, hyp⟩
  · refine ex_tswIn 104 142 dX10_groupOf_1 c ⟨by decide, by decide⟩ (by decide) (by decide) rfl (by decide) ?_
    have hyp := hv7 c
    refine ex_iload_n 143 dX10_groupOf_142 rfl rfl ?_
    exact ex_iret dX10_groupOf_143 (Or.inl rfl) ⟨_, rfl, hyp⟩
  · refine ex_tswIn 105 130 dX10_groupOf_1 c ⟨by decide, by decide⟩ (by decide) (by decide) rfl (by decide) ?_
    have hyp := hv8 c
    refine ex_bipush 132 dX10_groupOf_130 rfl ⟨by decide, by decide⟩ ?_
    exact ex_iret dX10_groupOf_132 (Or.inl rfl) ⟨_, rfl, hyp⟩
  · refine ex_tswIn 106 128 dX10_groupOf_1 c ⟨by decide, by decide⟩ (by decide) (by decide) rfl (by decide) ?_
    have hyp := hv9 c
    refine ex_iconst 129 dX10_groupOf_128 rfl ?_
    exact ex_iret dX10_groupOf_129 (Or.inl rfl) ⟨_, rfl, hyp⟩
  · refine ex_tswIn 107 122 dX10_groupOf_1 c ⟨by decide, by decide⟩ (by decide) (by decide) rfl (by decide) ?_
    have hyp := hv10 c
    refine ex_iconst 123 dX10_groupOf_122 rfl ?_
    exact ex_iret dX10_groupOf_123 (Or.inl rfl) ⟨_, rfl, hyp⟩
  · refine ex_tswIn 108 142 dX10_groupOf_1 c ⟨by decide, by decide⟩ (by decide) (by decide) rfl (by decide) ?_
    have hyp := hv11 c
    refine ex_iload_n 143 dX10_groupOf_142 rfl rfl ?_
    exact ex_iret dX10_groupOf_143 (Or.inl rfl) ⟨_, rfl, hyp⟩
  · refine ex_tswIn 109 133 dX10_groupOf_1 c ⟨by decide, by decide⟩ (by decide) (by decide) rfl (by decide) ?_
    have hyp := hv12 c
    refine ex_bipush 135 dX10_groupOf_133 rfl ⟨by decide, by decide⟩ ?_
    exact ex_iret dX10_groupOf_135 (Or.inl rfl) ⟨_, rfl, hyp⟩
  · refine ex_tswIn 110 133 dX10_groupOf_1 c ⟨by decide, by decide⟩ (by decide) (by decide) rfl (by decide) ?_
    have hyp := hv13 c
    refine ex_bipush 135 dX10_groupOf_133 rfl ⟨by decide, by decide⟩ ?_
    exact ex_iret dX10_groupOf_135 (Or.inl rfl) ⟨_, rfl, hyp⟩
  · refine ex_tswIn 111 139 dX10_groupOf_1 c ⟨by decide, by decide⟩ (by decide) (by decide) rfl (by decide) ?_
    have hyp := hv14 c
    refine ex_bipush 141 dX10_groupOf_139 rfl ⟨by decide, by decide⟩ ?_
    exact ex_iret dX10_groupOf_141 (Or.inl rfl) ⟨_, rfl, hyp⟩
  · refine ex_tswIn 112 120 dX10_groupOf_1 c ⟨by decide, by decide⟩ (by decide) (by decide) rfl (by decide) ?_
    have hyp := hv15 c
    refine ex_iconst 121 dX10_groupOf_120 rfl ?_
    exact ex_iret dX10_groupOf_121 (Or.inl rfl) ⟨_, rfl, hyp⟩
  · refine ex_tswIn 113 122 dX10_groupOf_1 c ⟨by decide, by decide⟩ (by decide) (by decide) rfl (by decide) ?_
    have hyp := hv16 c
    refine ex_iconst 123 dX10_groupOf_122 rfl ?_
    exact ex_iret dX10_groupOf_123 (Or.inl rfl) ⟨_, rfl, hyp⟩
  · refine ex_tswIn 114 142 dX10_groupOf_1 c ⟨by decide, by decide⟩ (by decide) (by decide) rfl (by decide) ?_
    have hyp := hv17 c
    refine ex_iload_n 143 dX10_groupOf_142 rfl rfl ?_
    exact ex_iret dX10_groupOf_143 (Or.inl rfl) ⟨_, rfl, hyp⟩
  · refine ex_tswIn 115 136 dX10_groupOf_1 c ⟨by decide, by decide⟩ (by decide) (by decide) rfl (by decide) ?_
    have hyp := hv18 c
    refine ex_bipush 138 dX10_groupOf_136 rfl ⟨by decide, by decide⟩ ?_
    exact ex_iret dX10_groupOf_138 (Or.inl rfl) ⟨_, rfl, hyp⟩
  · refine ex_tswIn 116 124 dX10_groupOf_1 c ⟨by decide, by decide⟩ (by decide) (by decide) rfl (by decide) ?_
    have hyp := hv19 c
    refine ex_iconst 125 dX10_groupOf_124 rfl ?_
    exact ex_iret dX10_groupOf_125 (Or.inl rfl) ⟨_, rfl, hyp⟩
  · refine ex_tswIn 117 139 dX10_groupOf_1 c ⟨by decide, by decide⟩ (by decide) (by decide) rfl (by decide) ?_
    have hyp := hv20 c
    refine ex_bipush 141 dX10_groupOf_139 rfl ⟨by decide, by decide⟩ ?_
    exact ex_iret dX10_groupOf_141 (Or.inl rfl) ⟨_, rfl, hyp⟩
  · refine ex_tswIn 118 126 dX10_groupOf_1 c ⟨by decide, by decide⟩ (by decide) (by decide) rfl (by decide) ?_
    have hyp := hv21 c
    refine ex_iconst 127 dX10_groupOf_126 rfl ?_
    exact ex_iret dX10_groupOf_127 (Or.inl rfl) ⟨_, rfl, hyp⟩
  · refine ex_tswIn 119 126 dX10_groupOf_1 c ⟨by decide, by decide⟩ (by decide) (by decide) rfl (by decide) ?_
    have hyp := hv22 c
    refine ex_iconst 127 dX10_groupOf_126 rfl ?_
    exact ex_iret dX10_groupOf_127 (Or.inl rfl) ⟨_, rfl, hyp⟩
  · refine ex_tswIn 120 136 dX10_groupOf_1 c ⟨by decide, by decide⟩ (by decide) (by decide) rfl (by decide) ?_
    have hyp := hv23 c
    refine ex_bipush 138 dX10_groupOf_136 rfl ⟨by decide, by decide⟩ ?_
    exact ex_iret dX10_groupOf_138 (Or.inl rfl) ⟨_, rfl, hyp⟩
  · refine ex_tswIn 121 130 dX10_groupOf_1 c ⟨by decide, by decide⟩ (by decide) (by decide) rfl (by decide) ?_
    have hyp := hv24 c
    refine ex_bipush 132 dX10_groupOf_130 rfl ⟨by decide, by decide⟩ ?_
    exact ex_iret dX10_groupOf_132 (Or.inl rfl) ⟨_, rfl, hyp⟩
  · refine ex_tswIn 122 136 dX10_groupOf_1 c ⟨by decide, by decide⟩ (by decide) (by decide) rfl (by decide) ?_
    have hyp := hv25 c
    refine ex_bipush 138 dX10_groupOf_136 rfl ⟨by decide, by decide⟩ ?_
    exact ex_iret dX10_groupOf_138 (Or.inl rfl) ⟨_, rfl, hyp⟩
set_option maxRecDepth 4000 in
theorem tX10_changeOf {P : Int → PH → Prop} (h0 : PH) (x0 : Int) (x1 : Int) (hyp : rng x0 ∧ rng x1 ∧ (¬ x0 = x1 → (METi mX10_groupOf [vi x0] h0 (fun y5 h3 => h3.1 = h0.1 → (METi mX10_groupOf [vi x1] h3 (fun y8 h6 => h6.1 = h3.1 → (rng y5 ∧ rng y8 ∧ (¬ y5 = y8 → (P 2 h6)) ∧ (y5 = y8 → (P 1 h6)))))))) ∧ (x0 = x1 → (P 0 h0))) : METi mX10_changeOf [vi x0, vi x1] h0 P := by
  refine met_of_ex (by decide +kernel) (Nat.le_of_ble_eq_true rfl) ?_
  show EX mX10_changeOf 0 [some (vi x0), some (vi x1)] [] h0 (0, 0) _
  refine ex_iload_n 1 dX10_changeOf_0 rfl rfl ?_
  refine ex_iload_n 2 dX10_changeOf_1 rfl rfl ?_
  obtain ⟨o1, hyp⟩ := hyp
  obtain ⟨o2, hyp⟩ := hyp
  obtain ⟨ht, hf⟩ := hyp
  refine ex_icmp_ne 9 5 dX10_changeOf_2 (by decide) rfl o1 o2 (fun c12 => ?_) (fun c12 => ?_)
  · have hyp := ht c12
    clear ht hf
    refine ex_iload_n 10 dX10_changeOf_9 rfl rfl ?_
    refine q_callSi [vi x0] 13 dX10_changeOf_10 rfl cvX10_135 rfl rfl ⟨Nat.le_of_ble_eq_true rfl, Nat.le_of_ble_eq_true rfl⟩ (Nat.le_of_ble_eq_true rfl) hyp (fun y5 h3 k4 hyp => ?_)
    refine ex_iload_n 14 dX10_changeOf_13 rfl rfl ?_
    refine q_callSi [vi x1] 17 dX10_changeOf_14 rfl cvX10_135 rfl rfl ⟨Nat.le_of_ble_eq_true rfl, Nat.le_of_ble_eq_true rfl⟩ (Nat.le_of_ble_eq_true rfl) hyp (fun y8 h6 k7 hyp => ?_)
    obtain ⟨o9, hyp⟩ := hyp
    obtain ⟨o10, hyp⟩ := hyp
    obtain ⟨ht, hf⟩ := hyp
    refine ex_icmp_ne 24 20 dX10_changeOf_17 (by decide) rfl o9 o10 (fun c11 => ?_) (fun c11 => ?_)
    · have hyp := ht c11
      clear ht hf
      refine ex_iconst 25 dX10_changeOf_24 rfl ?_
      exact ex_iret dX10_changeOf_25 (Or.inl rfl) ⟨_, rfl, hyp⟩
    · have hyp := hf c11
      clear ht hf
      refine ex_iconst 21 dX10_changeOf_20 rfl ?_
      refine ex_goto 25 dX10_changeOf_21 (by decide) ?_
      exact ex_iret dX10_changeOf_25 (Or.inl rfl) ⟨_, rfl, hyp⟩
  · have hyp := hf c12
    clear ht hf
    refine ex_iconst 6 dX10_changeOf_5 rfl ?_
    refine ex_goto 25 dX10_changeOf_6 (by decide) ?_
    exact ex_iret dX10_changeOf_25 (Or.inl rfl) ⟨_, rfl, hyp⟩
set_option maxRecDepth 4000 in
theorem tX10_lesser {P : Int → PH → Prop} (h0 : PH) (x0 : Int) (x1 : Int) (hyp : rng x0 ∧ rng x1 ∧ (x1 ≤ x0 → (P x1 h0)) ∧ (x0 < x1 → (P x0 h0))) : METi mX10_lesser [vi x0, vi x1] h0 P := by
  refine met_of_ex (by decide +kernel) (Nat.le_of_ble_eq_true rfl) ?_
  show EX mX10_lesser 0 [some (vi x0), some (vi x1)] [] h0 (0, 0) _
  refine ex_iload_n 1 dX10_lesser_0 rfl rfl ?_
  refine ex_iload_n 2 dX10_lesser_1 rfl rfl ?_
  obtain ⟨o1, hyp⟩ := hyp
  obtain ⟨o2, hyp⟩ := hyp
  obtain ⟨ht, hf⟩ := hyp
  refine ex_icmp_ge 9 5 dX10_lesser_2 (by decide) rfl o1 o2 (fun c3 => ?_) (fun c3 => ?_)
  · have hyp := ht c3
    clear ht hf
    refine ex_iload_n 10 dX10_lesser_9 rfl rfl ?_
    exact ex_iret dX10_lesser_10 (Or.inl rfl) ⟨_, rfl, hyp⟩
  · have hyp := hf c3
    clear ht hf
    refine ex_iload_n 6 dX10_lesser_5 rfl rfl ?_
    refine ex_goto 10 dX10_lesser_6 (by decide) ?_
    exact ex_iret dX10_lesser_10 (Or.inl rfl) ⟨_, rfl, hyp⟩
set_option maxRecDepth 4000 in
theorem tX10_greater {P : Int → PH → Prop} (h0 : PH) (x0 : Int) (x1 : Int) (hyp : rng x0 ∧ rng x1 ∧ (x0 ≤ x1 → (P x1 h0)) ∧ (x1 < x0 → (P x0 h0))) : METi mX10_greater [vi x0, vi x1] h0 P := by
  refine met_of_ex (by decide +kernel) (Nat.le_of_ble_eq_true rfl) ?_
  show EX mX10_greater 0 [some (vi x0), some (vi x1)] [] h0 (0, 0) _
  refine ex_iload_n 1 dX10_greater_0 rfl rfl ?_
  refine ex_iload_n 2 dX10_greater_1 rfl rfl ?_
  obtain ⟨o1, hyp⟩ := hyp
  obtain ⟨o2, hyp⟩ := hyp
  obtain ⟨ht, hf⟩ := hyp
  refine ex_icmp_le 9 5 dX10_greater_2 (by decide) rfl o1 o2 (fun c3 => ?_) (fun c3 => ?_)
  · have hyp := ht c3
    clear ht hf
    refine ex_iload_n 10 dX10_greater_9 rfl rfl ?_
    exact ex_iret dX10_greater_10 (Or.inl rfl) ⟨_, rfl, hyp⟩
  · have hyp := hf c3
    clear ht hf
    refine ex_iload_n 6 dX10_greater_5 rfl rfl ?_
    refine ex_goto 10 dX10_greater_6 (by decide) ?_
    exact ex_iret dX10_greater_10 (Or.inl rfl) ⟨_, rfl, hyp⟩
set_option maxRecDepth 4000 in
theorem tX10_distance {P : Int → PH → Prop} (h0 : PH) (a0 : Nat) (x1 : Int) (x2 : Int) (hyp : EXi mX10_distance 2 [some (vr a0), some (vi x1), some (vi x2), some (vi 0), none, none, none] [] h0 P) : METi mX10_distance [vr a0, vi x1, vi x2] h0 P := by
  refine met_of_ex (by decide +kernel) (Nat.le_of_ble_eq_true rfl) ?_
  show EX mX10_distance 0 [some (vr a0), some (vi x1), some (vi x2), none, none, none, none] [] h0 (0, 0) _
  refine ex_iconst 1 dX10_distance_0 rfl ?_
  refine q_istore_n [some (vr a0), some (vi x1), some (vi x2), some (vi 0), none, none, none] 2 dX10_distance_1 rfl (Nat.le_of_ble_eq_true rfl) rfl rfl ?_
  exact hyp
set_option maxRecDepth 4000 in
theorem tX10_distance_2 {P : Int → PH → Prop} (h0 : PH) (a0 : Nat) (x1 : Int) (x2 : Int) (x3 : Int) (hyp : OB h0 10 a0 ∧ ∃ r2 : Nat, h0.2.2 a0 6 = some r2 ∧ AI h0 20 r2 x1 ∧ rng x3 ∧ rng (h0.2.1 r2 (x1).toNat) ∧ (h0.2.1 r2 (x1).toNat < x3 → (∃ r7 : Nat, h0.2.2 a0 19 = some r7 ∧ AI h0 20 r2 x2 ∧ AI h0 20 r7 ((9 * (h0.2.1 r2 (x1).toNat)) + (h0.2.1 r2 (x2).toNat)) ∧ P (h0.2.1 r7 ((9 * (h0.2.1 r2 (x1).toNat)) + (h0.2.1 r2 (x2).toNat)).toNat) h0)) ∧ (x3 ≤ h0.2.1 r2 (x1).toNat → (EXi mX10_distance 15 [some (vr a0), some (vi x1), some (vi x2), some (vi x3), some (vi 0), none, none] [] h0 P))) : EXi mX10_distance 2 [some (vr a0), some (vi x1), some (vi x2), some (vi x3), none, none, none] [] h0 P := by
  refine ex_iload_n 3 dX10_distance_2 rfl rfl ?_
  refine ex_aload_n 4 dX10_distance_3 rfl rfl ?_
  obtain ⟨o1, hyp⟩ := hyp
  obtain ⟨r2, f3, hyp⟩ := hyp
  refine q_getR 10 6 7 dX10_distance_4 rfl fiX10_22 rfl o1 f3 ?_
  refine ex_iload_n 8 dX10_distance_7 rfl rfl ?_
  obtain ⟨o4, hyp⟩ := hyp
  refine ex_iald 9 dX10_distance_8 rfl o4 ?_
  obtain ⟨o5, hyp⟩ := hyp
  obtain ⟨o6, hyp⟩ := hyp
  obtain ⟨ht, hf⟩ := hyp
  refine ex_icmp_gt 177 12 dX10_distance_9 (by decide) rfl o5 o6 (fun c11 => ?_) (fun c11 => ?_)
  · have hyp := ht c11
    clear ht hf
    refine ex_aload_n 178 dX10_distance_177 rfl rfl ?_
    obtain ⟨r7, f8, hyp⟩ := hyp
    refine q_getR 10 19 181 dX10_distance_178 rfl fiX10_49 rfl o1 f8 ?_
    refine ex_bipush 183 dX10_distance_181 rfl ⟨by decide, by decide⟩ ?_
    refine ex_aload_n 184 dX10_distance_183 rfl rfl ?_
    refine q_getR 10 6 187 dX10_distance_184 rfl fiX10_22 rfl o1 f3 ?_
    refine ex_iload_n 188 dX10_distance_187 rfl rfl ?_
    refine ex_iald 189 dX10_distance_188 rfl o4 ?_
    refine ex_imul 190 dX10_distance_189 rfl ?_
    refine ex_aload_n 191 dX10_distance_190 rfl rfl ?_
    refine q_getR 10 6 194 dX10_distance_191 rfl fiX10_22 rfl o1 f3 ?_
    refine ex_iload_n 195 dX10_distance_194 rfl rfl ?_
    obtain ⟨o9, hyp⟩ := hyp
    refine ex_iald 196 dX10_distance_195 rfl o9 ?_
    refine ex_iadd 197 dX10_distance_196 rfl ?_
    obtain ⟨o10, hyp⟩ := hyp
    refine ex_iald 198 dX10_distance_197 rfl o10 ?_
    exact ex_iret dX10_distance_198 (Or.inl rfl) ⟨_, rfl, hyp⟩
  · have hyp := hf c11
    clear ht hf
    refine ex_iconst 13 dX10_distance_12 rfl ?_
    refine q_istore [some (vr a0), some (vi x1), some (vi x2), some (vi x3), some (vi 0), none, none] 15 dX10_distance_13 rfl (Nat.le_of_ble_eq_true rfl) rfl rfl ?_
    exact hyp
set_option maxRecDepth 4000 in
theorem tX10_distance_15 {P : Int → PH → Prop} (h0 : PH) (a0 : Nat) (x1 : Int) (x2 : Int) (x3 : Int) (x4 : Int) (hyp : OB h0 10 a0 ∧ ∃ r2 : Nat, h0.2.2 a0 6 = some r2 ∧ AI h0 20 r2 x2 ∧ rng x4 ∧ rng (h0.2.1 r2 (x2).toNat) ∧ (h0.2.1 r2 (x2).toNat < x4 → (EXi mX10_distance 2 [some (vr a0), some (vi x1), some (vi x2), some (vi (x3 + 1)), none, none, none] [] h0 P)) ∧ (x4 ≤ h0.2.1 r2 (x2).toNat → (rng x3 ∧ (¬ x3 = 0 → ((¬ x4 = 0 → (∃ r8 : Nat, h0.2.2 a0 19 = some r8 ∧ AI h0 20 r8 ((9 * (x3 - 1)) + x4) ∧ AI h0 20 r8 (((9 * x3) + x4) - 1) ∧ METi mX10_lesser [vi (h0.2.1 r8 ((9 * (x3 - 1)) + x4).toNat), vi (h0.2.1 r8 (((9 * x3) + x4) - 1).toNat)] h0 (fun y14 h12 => h12.1 = h0.1 → (EXi mX10_distance 81 [some (vr a0), some (vi x1), some (vi x2), some (vi x3), some (vi x4), none, none] [vi (y14 + 2)] h12 P)))) ∧ (x4 = 0 → (EXi mX10_distance 81 [some (vr a0), some (vi x1), some (vi x2), some (vi x3), some (vi x4), none, none] [vi (2 * x3)] h0 P)))) ∧ (x3 = 0 → (EXi mX10_distance 81 [some (vr a0), some (vi x1), some (vi x2), some (vi x3), some (vi x4), none, none] [vi (2 * x4)] h0 P))))) : EXi mX10_distance 15 [some (vr a0), some (vi x1), some (vi x2), some (vi x3), some (vi x4), none, none] [] h0 P := by
  refine ex_iload 17 dX10_distance_15 rfl rfl ?_
  refine ex_aload_n 18 dX10_distance_17 rfl rfl ?_
  obtain ⟨o1, hyp⟩ := hyp
  obtain ⟨r2, f3, hyp⟩ := hyp
  refine q_getR 10 6 21 dX10_distance_18 rfl fiX10_22 rfl o1 f3 ?_
  refine ex_iload_n 22 dX10_distance_21 rfl rfl ?_
  obtain ⟨o4, hyp⟩ := hyp
  refine ex_iald 23 dX10_distance_22 rfl o4 ?_
  obtain ⟨o5, hyp⟩ := hyp
  obtain ⟨o6, hyp⟩ := hyp
  obtain ⟨ht, hf⟩ := hyp
  refine ex_icmp_gt 171 26 dX10_distance_23 (by decide) rfl o5 o6 (fun c17 => ?_) (fun c17 => ?_)
  · have hyp := ht c17
    clear ht hf
    refine q_iinc [some (vr a0), some (vi x1), some (vi x2), some (vi (x3 + 1)), some (vi x4), none, none] 174 dX10_distance_171 rfl rfl (Nat.le_of_ble_eq_true rfl) rfl rfl ?_
    refine ex_goto 2 dX10_distance_174 (by decide) ?_
    refine ex_dropL (ls' := [some (vr a0), some (vi x1), some (vi x2), some (vi (x3 + 1)), none, none, none]) 4 rfl ?_
    exact hyp
  · have hyp := hf c17
    clear ht hf
    refine ex_iload_n 27 dX10_distance_26 rfl rfl ?_
    obtain ⟨o7, hyp⟩ := hyp
    obtain ⟨ht, hf⟩ := hyp
    refine ex_if_ne 37 30 dX10_distance_27 (by decide) rfl o7 (fun c16 => ?_) (fun c16 => ?_)
    · have hyp := ht c16
      clear ht hf
      refine ex_iload 39 dX10_distance_37 rfl rfl ?_
      obtain ⟨ht, hf⟩ := hyp
      refine ex_if_ne 48 42 dX10_distance_39 (by decide) rfl o5 (fun c15 => ?_) (fun c15 => ?_)
      · have hyp := ht c15
        clear ht hf
        refine ex_aload_n 49 dX10_distance_48 rfl rfl ?_
        obtain ⟨r8, f9, hyp⟩ := hyp
        refine q_getR 10 19 52 dX10_distance_49 rfl fiX10_49 rfl o1 f9 ?_
        refine ex_bipush 54 dX10_distance_52 rfl ⟨by decide, by decide⟩ ?_
        refine ex_iload_n 55 dX10_distance_54 rfl rfl ?_
        refine ex_iconst 56 dX10_distance_55 rfl ?_
        refine ex_isub 57 dX10_distance_56 rfl ?_
        refine ex_imul 58 dX10_distance_57 rfl ?_
        refine ex_iload 60 dX10_distance_58 rfl rfl ?_
        refine ex_iadd 61 dX10_distance_60 rfl ?_
        obtain ⟨o10, hyp⟩ := hyp
        refine ex_iald 62 dX10_distance_61 rfl o10 ?_
        refine ex_aload_n 63 dX10_distance_62 rfl rfl ?_
        refine q_getR 10 19 66 dX10_distance_63 rfl fiX10_49 rfl o1 f9 ?_
        refine ex_bipush 68 dX10_distance_66 rfl ⟨by decide, by decide⟩ ?_
        refine ex_iload_n 69 dX10_distance_68 rfl rfl ?_
        refine ex_imul 70 dX10_distance_69 rfl ?_
        refine ex_iload 72 dX10_distance_70 rfl rfl ?_
        refine ex_iadd 73 dX10_distance_72 rfl ?_
        refine ex_iconst 74 dX10_distance_73 rfl ?_
        refine ex_isub 75 dX10_distance_74 rfl ?_
        obtain ⟨o11, hyp⟩ := hyp
        refine ex_iald 76 dX10_distance_75 rfl o11 ?_
        refine q_callSi [vi (h0.2.1 r8 ((9 * (x3 - 1)) + x4).toNat), vi (h0.2.1 r8 (((9 * x3) + x4) - 1).toNat)] 79 dX10_distance_76 rfl cvX10_138 rfl rfl ⟨Nat.le_of_ble_eq_true rfl, Nat.le_of_ble_eq_true rfl⟩ (Nat.le_of_ble_eq_true rfl) hyp (fun y14 h12 k13 hyp => ?_)
        refine ex_iconst 80 dX10_distance_79 rfl ?_
        refine ex_iadd 81 dX10_distance_80 rfl ?_
        exact hyp
      · have hyp := hf c15
        clear ht hf
        refine ex_iconst 43 dX10_distance_42 rfl ?_
        refine ex_iload_n 44 dX10_distance_43 rfl rfl ?_
        refine ex_imul 45 dX10_distance_44 rfl ?_
        refine ex_goto 81 dX10_distance_45 (by decide) ?_
        exact hyp
    · have hyp := hf c16
      clear ht hf
      refine ex_iconst 31 dX10_distance_30 rfl ?_
      refine ex_iload 33 dX10_distance_31 rfl rfl ?_
      refine ex_imul 34 dX10_distance_33 rfl ?_
      refine ex_goto 81 dX10_distance_34 (by decide) ?_
      exact hyp
set_option maxRecDepth 4000 in
theorem tX10_distance_81 {P : Int → PH → Prop} (h0 : PH) (a0 : Nat) (x1 : Int) (x2 : Int) (x3 : Int) (x4 : Int) (xs0 : Int) (hyp : rng x3 ∧ (x3 ≤ 0 → (OB h0 10 a0 ∧ ∃ r3 : Nat, h0.2.2 a0 19 = some r3 ∧ METi mX10_lesser [vi xs0, vi xs0] h0 (fun y7 h5 => h5.1 = h0.1 → (AI h5 20 r3 ((9 * x3) + x4) ∧ ∀ h9 : PH, h9 = px_upI h5 r3 ((9 * x3) + x4).toNat y7 → (EXi mX10_distance 15 [some (vr a0), some (vi x1), some (vi x2), some (vi x3), some (vi (x4 + 1)), none, none] [] h9 P))))) ∧ (0 < x3 → (rng x4 ∧ (x4 ≤ 0 → (OB h0 10 a0 ∧ ∃ r13 : Nat, h0.2.2 a0 19 = some r13 ∧ METi mX10_lesser [vi xs0, vi xs0] h0 (fun y17 h15 => h15.1 = h0.1 → (AI h15 20 r13 ((9 * x3) + x4) ∧ ∀ h19 : PH, h19 = px_upI h15 r13 ((9 * x3) + x4).toNat y17 → (EXi mX10_distance 15 [some (vr a0), some (vi x1), some (vi x2), some (vi x3), some (vi (x4 + 1)), none, none] [] h19 P))))) ∧ (0 < x4 → (OB h0 10 a0 ∧ ∃ r22 : Nat, h0.2.2 a0 19 = some r22 ∧ AI h0 20 r22 (((9 * (x3 - 1)) + x4) - 1) ∧ ∃ r25 : Nat, h0.2.2 a0 7 = some r25 ∧ AI h0 20 r25 (((8 * x1) + x3) - 1) ∧ AI h0 20 r25 (((8 * x2) + x4) - 1) ∧ METi mX10_changeOf [vi (h0.2.1 r25 (((8 * x1) + x3) - 1).toNat), vi (h0.2.1 r25 (((8 * x2) + x4) - 1).toNat)] h0 (fun y31 h29 => h29.1 = h0.1 → (∃ r33 : Nat, h29.2.2 a0 19 = some r33 ∧ METi mX10_lesser [vi xs0, vi ((h0.2.1 r22 (((9 * (x3 - 1)) + x4) - 1).toNat) + y31)] h29 (fun y37 h35 => h35.1 = h29.1 → (AI h35 20 r33 ((9 * x3) + x4) ∧ ∀ h39 : PH, h39 = px_upI h35 r33 ((9 * x3) + x4).toNat y37 → (EXi mX10_distance 15 [some (vr a0), some (vi x1), some (vi x2), some (vi x3), some (vi (x4 + 1)), none, none] [] h39 P)))))))))) : EXi mX10_distance 81 [some (vr a0), some (vi x1), some (vi x2), some (vi x3), some (vi x4), none, none] [vi xs0] h0 P := by
  refine q_istore [some (vr a0), some (vi x1), some (vi x2), some (vi x3), some (vi x4), some (vi xs0), none] 83 dX10_distance_81 rfl (Nat.le_of_ble_eq_true rfl) rfl rfl ?_
  refine ex_iload_n 84 dX10_distance_83 rfl rfl ?_
  obtain ⟨o1, hyp⟩ := hyp
  obtain ⟨ht, hf⟩ := hyp
  refine ex_if_le 142 87 dX10_distance_84 (by decide) rfl o1 (fun c42 => ?_) (fun c42 => ?_)
  · have hyp := ht c42
    clear ht hf
    refine ex_iload 144 dX10_distance_142 rfl rfl ?_
    refine q_istore [some (vr a0), some (vi x1), some (vi x2), some (vi x3), some (vi x4), some (vi xs0), some (vi xs0)] 146 dX10_distance_144 rfl (Nat.le_of_ble_eq_true rfl) rfl rfl ?_
    refine ex_aload_n 147 dX10_distance_146 rfl rfl ?_
    obtain ⟨o2, hyp⟩ := hyp
    obtain ⟨r3, f4, hyp⟩ := hyp
    refine q_getR 10 19 150 dX10_distance_147 rfl fiX10_49 rfl o2 f4 ?_
    refine ex_bipush 152 dX10_distance_150 rfl ⟨by decide, by decide⟩ ?_
    refine ex_iload_n 153 dX10_distance_152 rfl rfl ?_
    refine ex_imul 154 dX10_distance_153 rfl ?_
    refine ex_iload 156 dX10_distance_154 rfl rfl ?_
    refine ex_iadd 157 dX10_distance_156 rfl ?_
    refine ex_iload 159 dX10_distance_157 rfl rfl ?_
    refine ex_iload 161 dX10_distance_159 rfl rfl ?_
    refine q_callSi [vi xs0, vi xs0] 164 dX10_distance_161 rfl cvX10_138 rfl rfl ⟨Nat.le_of_ble_eq_true rfl, Nat.le_of_ble_eq_true rfl⟩ (Nat.le_of_ble_eq_true rfl) hyp (fun y7 h5 k6 hyp => ?_)
    obtain ⟨o8, hyp⟩ := hyp
    refine ex_iast 165 dX10_distance_164 rfl o8 (fun h9 e10 => ?_)
    have hyp := hyp h9 e10
    refine q_iinc [some (vr a0), some (vi x1), some (vi x2), some (vi x3), some (vi (x4 + 1)), some (vi xs0), some (vi xs0)] 168 dX10_distance_165 rfl rfl (Nat.le_of_ble_eq_true rfl) rfl rfl ?_
    refine ex_goto 15 dX10_distance_168 (by decide) ?_
    refine ex_dropL (ls' := [some (vr a0), some (vi x1), some (vi x2), some (vi x3), some (vi (x4 + 1)), none, some (vi xs0)]) 5 rfl ?_
    refine ex_dropL (ls' := [some (vr a0), some (vi x1), some (vi x2), some (vi x3), some (vi (x4 + 1)), none, none]) 6 rfl ?_
    exact hyp
  · have hyp := hf c42
    clear ht hf
    refine ex_iload 89 dX10_distance_87 rfl rfl ?_
    obtain ⟨o11, hyp⟩ := hyp
    obtain ⟨ht, hf⟩ := hyp
    refine ex_if_le 142 92 dX10_distance_89 (by decide) rfl o11 (fun c41 => ?_) (fun c41 => ?_)
    · have hyp := ht c41
      clear ht hf
      refine ex_iload 144 dX10_distance_142 rfl rfl ?_
      refine q_istore [some (vr a0), some (vi x1), some (vi x2), some (vi x3), some (vi x4), some (vi xs0), some (vi xs0)] 146 dX10_distance_144 rfl (Nat.le_of_ble_eq_true rfl) rfl rfl ?_
      refine ex_aload_n 147 dX10_distance_146 rfl rfl ?_
      obtain ⟨o12, hyp⟩ := hyp
      obtain ⟨r13, f14, hyp⟩ := hyp
      refine q_getR 10 19 150 dX10_distance_147 rfl fiX10_49 rfl o12 f14 ?_
      refine ex_bipush 152 dX10_distance_150 rfl ⟨by decide, by decide⟩ ?_
      refine ex_iload_n 153 dX10_distance_152 rfl rfl ?_
      refine ex_imul 154 dX10_distance_153 rfl ?_
      refine ex_iload 156 dX10_distance_154 rfl rfl ?_
      refine ex_iadd 157 dX10_distance_156 rfl ?_
      refine ex_iload 159 dX10_distance_157 rfl rfl ?_
      refine ex_iload 161 dX10_distance_159 rfl rfl ?_
      refine q_callSi [vi xs0, vi xs0] 164 dX10_distance_161 rfl cvX10_138 rfl rfl ⟨Nat.le_of_ble_eq_true rfl, Nat.le_of_ble_eq_true rfl⟩ (Nat.le_of_ble_eq_true rfl) hyp (fun y17 h15 k16 hyp => ?_)
      obtain ⟨o18, hyp⟩ := hyp
      refine ex_iast 165 dX10_distance_164 rfl o18 (fun h19 e20 => ?_)
      have hyp := hyp h19 e20
      refine q_iinc [some (vr a0), some (vi x1), some (vi x2), some (vi x3), some (vi (x4 + 1)), some (vi xs0), some (vi xs0)] 168 dX10_distance_165 rfl rfl (Nat.le_of_ble_eq_true rfl) rfl rfl ?_
      refine ex_goto 15 dX10_distance_168 (by decide) ?_
      refine ex_dropL (ls' := [some (vr a0), some (vi x1), some (vi x2), some (vi x3), some (vi (x4 + 1)), none, some (vi xs0)]) 5 rfl ?_
      refine ex_dropL (ls' := [some (vr a0), some (vi x1), some (vi x2), some (vi x3), some (vi (x4 + 1)), none, none]) 6 rfl ?_
      exact hyp
    · have hyp := hf c41
      clear ht hf
      refine ex_aload_n 93 dX10_distance_92 rfl rfl ?_
      obtain ⟨o21, hyp⟩ := hyp
      obtain ⟨r22, f23, hyp⟩ := hyp
      refine q_getR 10 19 96 dX10_distance_93 rfl fiX10_49 rfl o21 f23 ?_
      refine ex_bipush 98 dX10_distance_96 rfl ⟨by decide, by decide⟩ ?_
      refine ex_iload_n 99 dX10_distance_98 rfl rfl ?_
      refine ex_iconst 100 dX10_distance_99 rfl ?_
      refine ex_isub 101 dX10_distance_100 rfl ?_
      refine ex_imul 102 dX10_distance_101 rfl ?_
      refine ex_iload 104 dX10_distance_102 rfl rfl ?_
      refine ex_iadd 105 dX10_distance_104 rfl ?_
      refine ex_iconst 106 dX10_distance_105 rfl ?_
      refine ex_isub 107 dX10_distance_106 rfl ?_
      obtain ⟨o24, hyp⟩ := hyp
      refine ex_iald 108 dX10_distance_107 rfl o24 ?_
      refine ex_aload_n 109 dX10_distance_108 rfl rfl ?_
      obtain ⟨r25, f26, hyp⟩ := hyp
      refine q_getR 10 7 112 dX10_distance_109 rfl fiX10_25 rfl o21 f26 ?_
      refine ex_bipush 114 dX10_distance_112 rfl ⟨by decide, by decide⟩ ?_
      refine ex_iload_n 115 dX10_distance_114 rfl rfl ?_
      refine ex_imul 116 dX10_distance_115 rfl ?_
      refine ex_iload_n 117 dX10_distance_116 rfl rfl ?_
      refine ex_iadd 118 dX10_distance_117 rfl ?_
      refine ex_iconst 119 dX10_distance_118 rfl ?_
      refine ex_isub 120 dX10_distance_119 rfl ?_
      obtain ⟨o27, hyp⟩ := hyp
      refine ex_iald 121 dX10_distance_120 rfl o27 ?_
      refine ex_aload_n 122 dX10_distance_121 rfl rfl ?_
      refine q_getR 10 7 125 dX10_distance_122 rfl fiX10_25 rfl o21 f26 ?_
      refine ex_bipush 127 dX10_distance_125 rfl ⟨by decide, by decide⟩ ?_
      refine ex_iload_n 128 dX10_distance_127 rfl rfl ?_
      refine ex_imul 129 dX10_distance_128 rfl ?_
      refine ex_iload 131 dX10_distance_129 rfl rfl ?_
      refine ex_iadd 132 dX10_distance_131 rfl ?_
      refine ex_iconst 133 dX10_distance_132 rfl ?_
      refine ex_isub 134 dX10_distance_133 rfl ?_
      obtain ⟨o28, hyp⟩ := hyp
      refine ex_iald 135 dX10_distance_134 rfl o28 ?_
      refine q_callSi [vi (h0.2.1 r25 (((8 * x1) + x3) - 1).toNat), vi (h0.2.1 r25 (((8 * x2) + x4) - 1).toNat)] 138 dX10_distance_135 rfl cvX10_142 rfl rfl ⟨Nat.le_of_ble_eq_true rfl, Nat.le_of_ble_eq_true rfl⟩ (Nat.le_of_ble_eq_true rfl) hyp (fun y31 h29 k30 hyp => ?_)
      refine ex_iadd 139 dX10_distance_138 rfl ?_
      refine ex_goto 144 dX10_distance_139 (by decide) ?_
      refine q_istore [some (vr a0), some (vi x1), some (vi x2), some (vi x3), some (vi x4), some (vi xs0), some (vi ((h0.2.1 r22 (((9 * (x3 - 1)) + x4) - 1).toNat) + y31))] 146 dX10_distance_144 rfl (Nat.le_of_ble_eq_true rfl) rfl rfl ?_
      refine ex_aload_n 147 dX10_distance_146 rfl rfl ?_
      have f32 := OB.of k30 o21
      obtain ⟨r33, f34, hyp⟩ := hyp
      refine q_getR 10 19 150 dX10_distance_147 rfl fiX10_49 rfl f32 f34 ?_
      refine ex_bipush 152 dX10_distance_150 rfl ⟨by decide, by decide⟩ ?_
      refine ex_iload_n 153 dX10_distance_152 rfl rfl ?_
      refine ex_imul 154 dX10_distance_153 rfl ?_
      refine ex_iload 156 dX10_distance_154 rfl rfl ?_
      refine ex_iadd 157 dX10_distance_156 rfl ?_
      refine ex_iload 159 dX10_distance_157 rfl rfl ?_
      refine ex_iload 161 dX10_distance_159 rfl rfl ?_
      refine q_callSi [vi xs0, vi ((h0.2.1 r22 (((9 * (x3 - 1)) + x4) - 1).toNat) + y31)] 164 dX10_distance_161 rfl cvX10_138 rfl rfl ⟨Nat.le_of_ble_eq_true rfl, Nat.le_of_ble_eq_true rfl⟩ (Nat.le_of_ble_eq_true rfl) hyp (fun y37 h35 k36 hyp => ?_)
      obtain ⟨o38, hyp⟩ := hyp
      refine ex_iast 165 dX10_distance_164 rfl o38 (fun h39 e40 => ?_)
      have hyp := hyp h39 e40
      refine q_iinc [some (vr a0), some (vi x1), some (vi x2), some (vi x3), some (vi (x4 + 1)), some (vi xs0), some (vi ((h0.2.1 r22 (((9 * (x3 - 1)) + x4) - 1).toNat) + y31))] 168 dX10_distance_165 rfl rfl (Nat.le_of_ble_eq_true rfl) rfl rfl ?_
      refine ex_goto 15 dX10_distance_168 (by decide) ?_
      refine ex_dropL (ls' := [some (vr a0), some (vi x1), some (vi x2), some (vi x3), some (vi (x4 + 1)), none, some (vi ((h0.2.1 r22 (((9 * (x3 - 1)) + x4) - 1).toNat) + y31))]) 5 rfl ?_
      refine ex_dropL (ls' := [some (vr a0), some (vi x1), some (vi x2), some (vi x3), some (vi (x4 + 1)), none, none]) 6 rfl ?_
      exact hyp
set_option maxRecDepth 4000 in
theorem tX10_likeness {P : Int → PH → Prop} (h0 : PH) (a0 : Nat) (x1 : Int) (x2 : Int) (hyp : OB h0 10 a0 ∧ METi mX10_distance [vr a0, vi x1, vi x2] h0 (fun y4 h2 => h2.1 = h0.1 → (∃ r6 : Nat, h2.2.2 a0 6 = some r6 ∧ AI h2 20 r6 x1 ∧ AI h2 20 r6 x2 ∧ METi mX10_greater [vi (h2.2.1 r6 (x1).toNat), vi (h2.2.1 r6 (x2).toNat)] h2 (fun y12 h10 => h10.1 = h2.1 → (rng (1000 * y4) ∧ rng (2 * y12) ∧ ¬ 2 * y12 = 0 ∧ P (1000 - (Int.tdiv (1000 * y4) (2 * y12))) h10))))) : METi mX10_likeness [vr a0, vi x1, vi x2] h0 P := by
  refine met_of_ex (by decide +kernel) (Nat.le_of_ble_eq_true rfl) ?_
  show EX mX10_likeness 0 [some (vr a0), some (vi x1), some (vi x2)] [] h0 (0, 0) _
  refine ex_sipush 3 dX10_likeness_0 rfl ⟨by decide, by decide⟩ ?_
  refine ex_sipush 6 dX10_likeness_3 rfl ⟨by decide, by decide⟩ ?_
  refine ex_aload_n 7 dX10_likeness_6 rfl rfl ?_
  refine ex_iload_n 8 dX10_likeness_7 rfl rfl ?_
  refine ex_iload_n 9 dX10_likeness_8 rfl rfl ?_
  obtain ⟨o1, hyp⟩ := hyp
  refine q_callVi [vi x1, vi x2] 12 dX10_likeness_9 rfl cvX10_145 rfl rfl ⟨Nat.le_of_ble_eq_true rfl, Nat.le_of_ble_eq_true rfl⟩ (Nat.le_of_ble_eq_true rfl) o1 hyp (fun y4 h2 k3 hyp => ?_)
  refine ex_imul 13 dX10_likeness_12 rfl ?_
  refine ex_iconst 14 dX10_likeness_13 rfl ?_
  refine ex_aload_n 15 dX10_likeness_14 rfl rfl ?_
  have f5 := OB.of k3 o1
  obtain ⟨r6, f7, hyp⟩ := hyp
  refine q_getR 10 6 18 dX10_likeness_15 rfl fiX10_22 rfl f5 f7 ?_
  refine ex_iload_n 19 dX10_likeness_18 rfl rfl ?_
  obtain ⟨o8, hyp⟩ := hyp
  refine ex_iald 20 dX10_likeness_19 rfl o8 ?_
  refine ex_aload_n 21 dX10_likeness_20 rfl rfl ?_
  refine q_getR 10 6 24 dX10_likeness_21 rfl fiX10_22 rfl f5 f7 ?_
  refine ex_iload_n 25 dX10_likeness_24 rfl rfl ?_
  obtain ⟨o9, hyp⟩ := hyp
  refine ex_iald 26 dX10_likeness_25 rfl o9 ?_
  refine q_callSi [vi (h2.2.1 r6 (x1).toNat), vi (h2.2.1 r6 (x2).toNat)] 29 dX10_likeness_26 rfl cvX10_148 rfl rfl ⟨Nat.le_of_ble_eq_true rfl, Nat.le_of_ble_eq_true rfl⟩ (Nat.le_of_ble_eq_true rfl) hyp (fun y12 h10 k11 hyp => ?_)
  refine ex_imul 30 dX10_likeness_29 rfl ?_
  obtain ⟨o13, hyp⟩ := hyp
  obtain ⟨o14, hyp⟩ := hyp
  obtain ⟨o15, hyp⟩ := hyp
  refine ex_idiv 31 dX10_likeness_30 rfl o13 o14 o15 ?_
  refine ex_isub 32 dX10_likeness_31 rfl ?_
  exact ex_iret dX10_likeness_32 (Or.inl rfl) ⟨_, rfl, hyp⟩
set_option maxRecDepth 4000 in
theorem tX10_firstBorn {P : Int → PH → Prop} (h0 : PH) (a0 : Nat) (x1 : Int) (hyp : OB h0 10 a0 ∧ ∃ r2 : Nat, h0.2.2 a0 3 = some r2 ∧ AI h0 20 r2 x1 ∧ rng (h0.2.1 r2 (x1).toNat) ∧ (¬ h0.2.1 r2 (x1).toNat = 0 → (∃ r6 : Nat, h0.2.2 a0 5 = some r6 ∧ AI h0 20 r6 x1 ∧ rng (h0.2.1 r6 (x1).toNat) ∧ (h0.2.1 r6 (x1).toNat = (-1) → (∃ r10 : Nat, h0.2.2 a0 4 = some r10 ∧ AI h0 20 r10 x1 ∧ (¬ h0.2.1 r2 (x1).toNat = 1 → (P ((h0.2.1 r10 (x1).toNat) - 100) h0)) ∧ (h0.2.1 r2 (x1).toNat = 1 → (P ((h0.2.1 r10 (x1).toNat) - 60) h0)))) ∧ (¬ h0.2.1 r6 (x1).toNat = (-1) → (∃ r14 : Nat, h0.2.2 a0 4 = some r14 ∧ AI h0 20 r14 x1 ∧ ∃ r17 : Nat, h0.2.2 a0 9 = some r17 ∧ AI h0 20 r17 1 ∧ P ((((h0.2.1 r14 (x1).toNat) - (h0.2.1 r6 (x1).toNat)) - 1) - (h0.2.1 r17 (1 : Int).toNat)) h0)))) ∧ (h0.2.1 r2 (x1).toNat = 0 → (∃ r21 : Nat, h0.2.2 a0 4 = some r21 ∧ AI h0 20 r21 x1 ∧ P (h0.2.1 r21 (x1).toNat) h0))) : METi mX10_firstBorn [vr a0, vi x1] h0 P := by
  refine met_of_ex (by decide +kernel) (Nat.le_of_ble_eq_true rfl) ?_
  show EX mX10_firstBorn 0 [some (vr a0), some (vi x1)] [] h0 (0, 0) _
  refine ex_aload_n 1 dX10_firstBorn_0 rfl rfl ?_
  obtain ⟨o1, hyp⟩ := hyp
  obtain ⟨r2, f3, hyp⟩ := hyp
  refine q_getR 10 3 4 dX10_firstBorn_1 rfl fiX10_13 rfl o1 f3 ?_
  refine ex_iload_n 5 dX10_firstBorn_4 rfl rfl ?_
  obtain ⟨o4, hyp⟩ := hyp
  refine ex_iald 6 dX10_firstBorn_5 rfl o4 ?_
  obtain ⟨o5, hyp⟩ := hyp
  obtain ⟨ht, hf⟩ := hyp
  refine ex_if_ne 16 9 dX10_firstBorn_6 (by decide) rfl o5 (fun c24 => ?_) (fun c24 => ?_)
  · have hyp := ht c24
    clear ht hf
    refine ex_aload_n 17 dX10_firstBorn_16 rfl rfl ?_
    obtain ⟨r6, f7, hyp⟩ := hyp
    refine q_getR 10 5 20 dX10_firstBorn_17 rfl fiX10_19 rfl o1 f7 ?_
    refine ex_iload_n 21 dX10_firstBorn_20 rfl rfl ?_
    obtain ⟨o8, hyp⟩ := hyp
    refine ex_iald 22 dX10_firstBorn_21 rfl o8 ?_
    refine ex_iconst 23 dX10_firstBorn_22 rfl ?_
    obtain ⟨o9, hyp⟩ := hyp
    obtain ⟨ht, hf⟩ := hyp
    refine ex_icmp_eq 49 26 dX10_firstBorn_23 (by decide) rfl o9 ⟨by decide, by decide⟩ (fun c20 => ?_) (fun c20 => ?_)
    · have hyp := ht c20
      clear ht hf
      refine ex_aload_n 50 dX10_firstBorn_49 rfl rfl ?_
      obtain ⟨r10, f11, hyp⟩ := hyp
      refine q_getR 10 4 53 dX10_firstBorn_50 rfl fiX10_16 rfl o1 f11 ?_
      refine ex_iload_n 54 dX10_firstBorn_53 rfl rfl ?_
      obtain ⟨o12, hyp⟩ := hyp
      refine ex_iald 55 dX10_firstBorn_54 rfl o12 ?_
      refine ex_aload_n 56 dX10_firstBorn_55 rfl rfl ?_
      refine q_getR 10 3 59 dX10_firstBorn_56 rfl fiX10_13 rfl o1 f3 ?_
      refine ex_iload_n 60 dX10_firstBorn_59 rfl rfl ?_
      refine ex_iald 61 dX10_firstBorn_60 rfl o4 ?_
      refine ex_iconst 62 dX10_firstBorn_61 rfl ?_
      obtain ⟨ht, hf⟩ := hyp
      refine ex_icmp_ne 70 65 dX10_firstBorn_62 (by decide) rfl o5 ⟨by decide, by decide⟩ (fun c13 => ?_) (fun c13 => ?_)
      · have hyp := ht c13
        clear ht hf
        refine ex_bipush 72 dX10_firstBorn_70 rfl ⟨by decide, by decide⟩ ?_
        refine ex_isub 73 dX10_firstBorn_72 rfl ?_
        exact ex_iret dX10_firstBorn_73 (Or.inl rfl) ⟨_, rfl, hyp⟩
      · have hyp := hf c13
        clear ht hf
        refine ex_bipush 67 dX10_firstBorn_65 rfl ⟨by decide, by decide⟩ ?_
        refine ex_goto 72 dX10_firstBorn_67 (by decide) ?_
        refine ex_isub 73 dX10_firstBorn_72 rfl ?_
        exact ex_iret dX10_firstBorn_73 (Or.inl rfl) ⟨_, rfl, hyp⟩
    · have hyp := hf c20
      clear ht hf
      refine ex_aload_n 27 dX10_firstBorn_26 rfl rfl ?_
      obtain ⟨r14, f15, hyp⟩ := hyp
      refine q_getR 10 4 30 dX10_firstBorn_27 rfl fiX10_16 rfl o1 f15 ?_
      refine ex_iload_n 31 dX10_firstBorn_30 rfl rfl ?_
      obtain ⟨o16, hyp⟩ := hyp
      refine ex_iald 32 dX10_firstBorn_31 rfl o16 ?_
      refine ex_aload_n 33 dX10_firstBorn_32 rfl rfl ?_
      refine q_getR 10 5 36 dX10_firstBorn_33 rfl fiX10_19 rfl o1 f7 ?_
      refine ex_iload_n 37 dX10_firstBorn_36 rfl rfl ?_
      refine ex_iald 38 dX10_firstBorn_37 rfl o8 ?_
      refine ex_isub 39 dX10_firstBorn_38 rfl ?_
      refine ex_iconst 40 dX10_firstBorn_39 rfl ?_
      refine ex_isub 41 dX10_firstBorn_40 rfl ?_
      refine ex_aload_n 42 dX10_firstBorn_41 rfl rfl ?_
      obtain ⟨r17, f18, hyp⟩ := hyp
      refine q_getR 10 9 45 dX10_firstBorn_42 rfl fiX10_31 rfl o1 f18 ?_
      refine ex_iconst 46 dX10_firstBorn_45 rfl ?_
      obtain ⟨o19, hyp⟩ := hyp
      refine ex_iald 47 dX10_firstBorn_46 rfl o19 ?_
      refine ex_isub 48 dX10_firstBorn_47 rfl ?_
      exact ex_iret dX10_firstBorn_48 (Or.inl rfl) ⟨_, rfl, hyp⟩
  · have hyp := hf c24
    clear ht hf
    refine ex_aload_n 10 dX10_firstBorn_9 rfl rfl ?_
    obtain ⟨r21, f22, hyp⟩ := hyp
    refine q_getR 10 4 13 dX10_firstBorn_10 rfl fiX10_16 rfl o1 f22 ?_
    refine ex_iload_n 14 dX10_firstBorn_13 rfl rfl ?_
    obtain ⟨o23, hyp⟩ := hyp
    refine ex_iald 15 dX10_firstBorn_14 rfl o23 ?_
    exact ex_iret dX10_firstBorn_15 (Or.inl rfl) ⟨_, rfl, hyp⟩
set_option maxRecDepth 4000 in
theorem tX10_lastBorn {P : Int → PH → Prop} (h0 : PH) (a0 : Nat) (x1 : Int) (hyp : OB h0 10 a0 ∧ ∃ r2 : Nat, h0.2.2 a0 3 = some r2 ∧ AI h0 20 r2 x1 ∧ rng (h0.2.1 r2 (x1).toNat) ∧ (¬ h0.2.1 r2 (x1).toNat = 0 → (∃ r6 : Nat, h0.2.2 a0 5 = some r6 ∧ AI h0 20 r6 x1 ∧ rng (h0.2.1 r6 (x1).toNat) ∧ (h0.2.1 r6 (x1).toNat = (-1) → (∃ r10 : Nat, h0.2.2 a0 4 = some r10 ∧ AI h0 20 r10 x1 ∧ (¬ h0.2.1 r2 (x1).toNat = 1 → (P ((h0.2.1 r10 (x1).toNat) - 0) h0)) ∧ (h0.2.1 r2 (x1).toNat = 1 → (P ((h0.2.1 r10 (x1).toNat) - 14) h0)))) ∧ (¬ h0.2.1 r6 (x1).toNat = (-1) → (∃ r14 : Nat, h0.2.2 a0 4 = some r14 ∧ AI h0 20 r14 x1 ∧ ∃ r17 : Nat, h0.2.2 a0 9 = some r17 ∧ AI h0 20 r17 1 ∧ P (((h0.2.1 r14 (x1).toNat) - (h0.2.1 r6 (x1).toNat)) + (h0.2.1 r17 (1 : Int).toNat)) h0)))) ∧ (h0.2.1 r2 (x1).toNat = 0 → (∃ r21 : Nat, h0.2.2 a0 4 = some r21 ∧ AI h0 20 r21 x1 ∧ P (h0.2.1 r21 (x1).toNat) h0))) : METi mX10_lastBorn [vr a0, vi x1] h0 P := by
  refine met_of_ex (by decide +kernel) (Nat.le_of_ble_eq_true rfl) ?_
  show EX mX10_lastBorn 0 [some (vr a0), some (vi x1)] [] h0 (0, 0) _
  refine ex_aload_n 1 dX10_lastBorn_0 rfl rfl ?_
  obtain ⟨o1, hyp⟩ := hyp
  obtain ⟨r2, f3, hyp⟩ := hyp
  refine q_getR 10 3 4 dX10_lastBorn_1 rfl fiX10_13 rfl o1 f3 ?_
  refine ex_iload_n 5 dX10_lastBorn_4 rfl rfl ?_
  obtain ⟨o4, hyp⟩ := hyp
  refine ex_iald 6 dX10_lastBorn_5 rfl o4 ?_
  obtain ⟨o5, hyp⟩ := hyp
  obtain ⟨ht, hf⟩ := hyp
  refine ex_if_ne 16 9 dX10_lastBorn_6 (by decide) rfl o5 (fun c24 => ?_) (fun c24 => ?_)
  · have hyp := ht c24
    clear ht hf
    refine ex_aload_n 17 dX10_lastBorn_16 rfl rfl ?_
    obtain ⟨r6, f7, hyp⟩ := hyp
    refine q_getR 10 5 20 dX10_lastBorn_17 rfl fiX10_19 rfl o1 f7 ?_
    refine ex_iload_n 21 dX10_lastBorn_20 rfl rfl ?_
    obtain ⟨o8, hyp⟩ := hyp
    refine ex_iald 22 dX10_lastBorn_21 rfl o8 ?_
    refine ex_iconst 23 dX10_lastBorn_22 rfl ?_
    obtain ⟨o9, hyp⟩ := hyp
    obtain ⟨ht, hf⟩ := hyp
    refine ex_icmp_eq 47 26 dX10_lastBorn_23 (by decide) rfl o9 ⟨by decide, by decide⟩ (fun c20 => ?_) (fun c20 => ?_)
    · have hyp := ht c20
      clear ht hf
      refine ex_aload_n 48 dX10_lastBorn_47 rfl rfl ?_
      obtain ⟨r10, f11, hyp⟩ := hyp
      refine q_getR 10 4 51 dX10_lastBorn_48 rfl fiX10_16 rfl o1 f11 ?_
      refine ex_iload_n 52 dX10_lastBorn_51 rfl rfl ?_
      obtain ⟨o12, hyp⟩ := hyp
      refine ex_iald 53 dX10_lastBorn_52 rfl o12 ?_
      refine ex_aload_n 54 dX10_lastBorn_53 rfl rfl ?_
      refine q_getR 10 3 57 dX10_lastBorn_54 rfl fiX10_13 rfl o1 f3 ?_
      refine ex_iload_n 58 dX10_lastBorn_57 rfl rfl ?_
      refine ex_iald 59 dX10_lastBorn_58 rfl o4 ?_
      refine ex_iconst 60 dX10_lastBorn_59 rfl ?_
      obtain ⟨ht, hf⟩ := hyp
      refine ex_icmp_ne 68 63 dX10_lastBorn_60 (by decide) rfl o5 ⟨by decide, by decide⟩ (fun c13 => ?_) (fun c13 => ?_)
      · have hyp := ht c13
        clear ht hf
        refine ex_iconst 69 dX10_lastBorn_68 rfl ?_
        refine ex_isub 70 dX10_lastBorn_69 rfl ?_
        exact ex_iret dX10_lastBorn_70 (Or.inl rfl) ⟨_, rfl, hyp⟩
      · have hyp := hf c13
        clear ht hf
        refine ex_bipush 65 dX10_lastBorn_63 rfl ⟨by decide, by decide⟩ ?_
        refine ex_goto 69 dX10_lastBorn_65 (by decide) ?_
        refine ex_isub 70 dX10_lastBorn_69 rfl ?_
        exact ex_iret dX10_lastBorn_70 (Or.inl rfl) ⟨_, rfl, hyp⟩
    · have hyp := hf c20
      clear ht hf
      refine ex_aload_n 27 dX10_lastBorn_26 rfl rfl ?_
      obtain ⟨r14, f15, hyp⟩ := hyp
      refine q_getR 10 4 30 dX10_lastBorn_27 rfl fiX10_16 rfl o1 f15 ?_
      refine ex_iload_n 31 dX10_lastBorn_30 rfl rfl ?_
      obtain ⟨o16, hyp⟩ := hyp
      refine ex_iald 32 dX10_lastBorn_31 rfl o16 ?_
      refine ex_aload_n 33 dX10_lastBorn_32 rfl rfl ?_
      refine q_getR 10 5 36 dX10_lastBorn_33 rfl fiX10_19 rfl o1 f7 ?_
      refine ex_iload_n 37 dX10_lastBorn_36 rfl rfl ?_
      refine ex_iald 38 dX10_lastBorn_37 rfl o8 ?_
      refine ex_isub 39 dX10_lastBorn_38 rfl ?_
      refine ex_aload_n 40 dX10_lastBorn_39 rfl rfl ?_
      obtain ⟨r17, f18, hyp⟩ := hyp
      refine q_getR 10 9 43 dX10_lastBorn_40 rfl fiX10_31 rfl o1 f18 ?_
      refine ex_iconst 44 dX10_lastBorn_43 rfl ?_
      obtain ⟨o19, hyp⟩ := hyp
      refine ex_iald 45 dX10_lastBorn_44 rfl o19 ?_
      refine ex_iadd 46 dX10_lastBorn_45 rfl ?_
      exact ex_iret dX10_lastBorn_46 (Or.inl rfl) ⟨_, rfl, hyp⟩
  · have hyp := hf c24
    clear ht hf
    refine ex_aload_n 10 dX10_lastBorn_9 rfl rfl ?_
    obtain ⟨r21, f22, hyp⟩ := hyp
    refine q_getR 10 4 13 dX10_lastBorn_10 rfl fiX10_16 rfl o1 f22 ?_
    refine ex_iload_n 14 dX10_lastBorn_13 rfl rfl ?_
    obtain ⟨o23, hyp⟩ := hyp
    refine ex_iald 15 dX10_lastBorn_14 rfl o23 ?_
    exact ex_iret dX10_lastBorn_15 (Or.inl rfl) ⟨_, rfl, hyp⟩
set_option maxRecDepth 4000 in
theorem tX10_yearsOf {P : Int → PH → Prop} (h0 : PH) (a0 : Nat) (x1 : Int) (x2 : Int) (hyp : OB h0 10 a0 ∧ METi mX10_firstBorn [vr a0, vi x1] h0 (fun y4 h2 => h2.1 = h0.1 → (METi mX10_firstBorn [vr a0, vi x2] h2 (fun y8 h6 => h6.1 = h2.1 → (METi mX10_greater [vi y4, vi y8] h6 (fun y11 h9 => h9.1 = h6.1 → (METi mX10_lastBorn [vr a0, vi x1] h9 (fun y16 h14 => h14.1 = h9.1 → (METi mX10_lastBorn [vr a0, vi x2] h14 (fun y20 h18 => h18.1 = h14.1 → (METi mX10_lesser [vi y16, vi y20] h18 (fun y23 h21 => h21.1 = h18.1 → (rng y23 ∧ rng y11 ∧ (y11 ≤ y23 → (P ((y23 - y11) + 1) h21)) ∧ (y23 < y11 → (P 0 h21))))))))))))))) : METi mX10_yearsOf [vr a0, vi x1, vi x2] h0 P := by
  refine met_of_ex (by decide +kernel) (Nat.le_of_ble_eq_true rfl) ?_
  show EX mX10_yearsOf 0 [some (vr a0), some (vi x1), some (vi x2), none, none] [] h0 (0, 0) _
  refine ex_aload_n 1 dX10_yearsOf_0 rfl rfl ?_
  refine ex_iload_n 2 dX10_yearsOf_1 rfl rfl ?_
  obtain ⟨o1, hyp⟩ := hyp
  refine q_callVi [vi x1] 5 dX10_yearsOf_2 rfl cvX10_151 rfl rfl ⟨Nat.le_of_ble_eq_true rfl, Nat.le_of_ble_eq_true rfl⟩ (Nat.le_of_ble_eq_true rfl) o1 hyp (fun y4 h2 k3 hyp => ?_)
  refine ex_aload_n 6 dX10_yearsOf_5 rfl rfl ?_
  refine ex_iload_n 7 dX10_yearsOf_6 rfl rfl ?_
  have f5 := OB.of k3 o1
  refine q_callVi [vi x2] 10 dX10_yearsOf_7 rfl cvX10_151 rfl rfl ⟨Nat.le_of_ble_eq_true rfl, Nat.le_of_ble_eq_true rfl⟩ (Nat.le_of_ble_eq_true rfl) f5 hyp (fun y8 h6 k7 hyp => ?_)
  refine q_callSi [vi y4, vi y8] 13 dX10_yearsOf_10 rfl cvX10_148 rfl rfl ⟨Nat.le_of_ble_eq_true rfl, Nat.le_of_ble_eq_true rfl⟩ (Nat.le_of_ble_eq_true rfl) hyp (fun y11 h9 k10 hyp => ?_)
  refine q_istore_n [some (vr a0), some (vi x1), some (vi x2), some (vi y11), none] 14 dX10_yearsOf_13 rfl (Nat.le_of_ble_eq_true rfl) rfl rfl ?_
  refine ex_aload_n 15 dX10_yearsOf_14 rfl rfl ?_
  refine ex_iload_n 16 dX10_yearsOf_15 rfl rfl ?_
  have f12 := OB.of k7 f5
  have f13 := OB.of k10 f12
  refine q_callVi [vi x1] 19 dX10_yearsOf_16 rfl cvX10_154 rfl rfl ⟨Nat.le_of_ble_eq_true rfl, Nat.le_of_ble_eq_true rfl⟩ (Nat.le_of_ble_eq_true rfl) f13 hyp (fun y16 h14 k15 hyp => ?_)
  refine ex_aload_n 20 dX10_yearsOf_19 rfl rfl ?_
  refine ex_iload_n 21 dX10_yearsOf_20 rfl rfl ?_
  have f17 := OB.of k15 f13
  refine q_callVi [vi x2] 24 dX10_yearsOf_21 rfl cvX10_154 rfl rfl ⟨Nat.le_of_ble_eq_true rfl, Nat.le_of_ble_eq_true rfl⟩ (Nat.le_of_ble_eq_true rfl) f17 hyp (fun y20 h18 k19 hyp => ?_)
  refine q_callSi [vi y16, vi y20] 27 dX10_yearsOf_24 rfl cvX10_138 rfl rfl ⟨Nat.le_of_ble_eq_true rfl, Nat.le_of_ble_eq_true rfl⟩ (Nat.le_of_ble_eq_true rfl) hyp (fun y23 h21 k22 hyp => ?_)
  refine q_istore [some (vr a0), some (vi x1), some (vi x2), some (vi y11), some (vi y23)] 29 dX10_yearsOf_27 rfl (Nat.le_of_ble_eq_true rfl) rfl rfl ?_
  refine ex_iload 31 dX10_yearsOf_29 rfl rfl ?_
  refine ex_iload_n 32 dX10_yearsOf_31 rfl rfl ?_
  obtain ⟨o24, hyp⟩ := hyp
  obtain ⟨o25, hyp⟩ := hyp
  obtain ⟨ht, hf⟩ := hyp
  refine ex_icmp_ge 39 35 dX10_yearsOf_32 (by decide) rfl o24 o25 (fun c26 => ?_) (fun c26 => ?_)
  · have hyp := ht c26
    clear ht hf
    refine ex_iload 41 dX10_yearsOf_39 rfl rfl ?_
    refine ex_iload_n 42 dX10_yearsOf_41 rfl rfl ?_
    refine ex_isub 43 dX10_yearsOf_42 rfl ?_
    refine ex_iconst 44 dX10_yearsOf_43 rfl ?_
    refine ex_iadd 45 dX10_yearsOf_44 rfl ?_
    exact ex_iret dX10_yearsOf_45 (Or.inl rfl) ⟨_, rfl, hyp⟩
  · have hyp := hf c26
    clear ht hf
    refine ex_iconst 36 dX10_yearsOf_35 rfl ?_
    refine ex_goto 45 dX10_yearsOf_36 (by decide) ?_
    exact ex_iret dX10_yearsOf_45 (Or.inl rfl) ⟨_, rfl, hyp⟩
set_option maxRecDepth 4000 in
theorem tX10_isParted {P : Int → PH → Prop} (h0 : PH) (a0 : Nat) (x1 : Int) (x2 : Int) (hyp : OB h0 10 a0 ∧ ∃ r2 : Nat, h0.2.2 a0 8 = some r2 ∧ AI h0 20 r2 x1 ∧ rng (b_and (b_shr (h0.2.1 r2 (x1).toNat) x2) 1) ∧ (¬ b_and (b_shr (h0.2.1 r2 (x1).toNat) x2) 1 = 1 → (P 0 h0)) ∧ (b_and (b_shr (h0.2.1 r2 (x1).toNat) x2) 1 = 1 → (P 1 h0))) : METi mX10_isParted [vr a0, vi x1, vi x2] h0 P := by
  refine met_of_ex (by decide +kernel) (Nat.le_of_ble_eq_true rfl) ?_
  show EX mX10_isParted 0 [some (vr a0), some (vi x1), some (vi x2)] [] h0 (0, 0) _
  refine ex_aload_n 1 dX10_isParted_0 rfl rfl ?_
  obtain ⟨o1, hyp⟩ := hyp
  obtain ⟨r2, f3, hyp⟩ := hyp
  refine q_getR 10 8 4 dX10_isParted_1 rfl fiX10_28 rfl o1 f3 ?_
  refine ex_iload_n 5 dX10_isParted_4 rfl rfl ?_
  obtain ⟨o4, hyp⟩ := hyp
  refine ex_iald 6 dX10_isParted_5 rfl o4 ?_
  refine ex_iload_n 7 dX10_isParted_6 rfl rfl ?_
  refine ex_ishr 8 dX10_isParted_7 rfl ?_
  refine ex_iconst 9 dX10_isParted_8 rfl ?_
  refine ex_iand 10 dX10_isParted_9 rfl ?_
  refine ex_iconst 11 dX10_isParted_10 rfl ?_
  obtain ⟨o5, hyp⟩ := hyp
  obtain ⟨ht, hf⟩ := hyp
  refine ex_icmp_ne 18 14 dX10_isParted_11 (by decide) rfl o5 ⟨by decide, by decide⟩ (fun c6 => ?_) (fun c6 => ?_)
  · have hyp := ht c6
    clear ht hf
    refine ex_iconst 19 dX10_isParted_18 rfl ?_
    exact ex_iret dX10_isParted_19 (Or.inr ⟨rfl, Or.inl rfl⟩) ⟨_, rfl, hyp⟩
  · have hyp := hf c6
    clear ht hf
    refine ex_iconst 15 dX10_isParted_14 rfl ?_
    refine ex_goto 19 dX10_isParted_15 (by decide) ?_
    exact ex_iret dX10_isParted_19 (Or.inr ⟨rfl, Or.inr rfl⟩) ⟨_, rfl, hyp⟩
set_option maxRecDepth 4000 in
theorem tX10_isOutOfOrder {P : Int → PH → Prop} (h0 : PH) (a0 : Nat) (x1 : Int) (x2 : Int) (hyp : OB h0 10 a0 ∧ ∃ r2 : Nat, h0.2.2 a0 3 = some r2 ∧ AI h0 20 r2 x1 ∧ rng (h0.2.1 r2 (x1).toNat) ∧ (¬ h0.2.1 r2 (x1).toNat = 0 → (EXi mX10_isOutOfOrder 28 [some (vr a0), some (vi x1), some (vi x2), none, none] [] h0 P)) ∧ (h0.2.1 r2 (x1).toNat = 0 → (∃ r6 : Nat, h0.2.2 a0 4 = some r6 ∧ AI h0 20 r6 x1 ∧ AI h0 20 r6 x2 ∧ rng (h0.2.1 r6 (x1).toNat) ∧ rng (h0.2.1 r6 (x2).toNat) ∧ (h0.2.1 r6 (x1).toNat ≤ h0.2.1 r6 (x2).toNat → (EXi mX10_isOutOfOrder 28 [some (vr a0), some (vi x1), some (vi x2), none, none] [] h0 P)) ∧ (h0.2.1 r6 (x2).toNat < h0.2.1 r6 (x1).toNat → ((¬ h0.2.1 r2 (x1).toNat = 2 → (P 1 h0)) ∧ (h0.2.1 r2 (x1).toNat = 2 → ((h0.2.1 r6 (x2).toNat ≤ h0.2.1 r6 (x1).toNat → (P 1 h0)) ∧ (h0.2.1 r6 (x1).toNat < h0.2.1 r6 (x2).toNat → (P 1 h0))))))))) : METi mX10_isOutOfOrder [vr a0, vi x1, vi x2] h0 P := by
  refine met_of_ex (by decide +kernel) (Nat.le_of_ble_eq_true rfl) ?_
  show EX mX10_isOutOfOrder 0 [some (vr a0), some (vi x1), some (vi x2), none, none] [] h0 (0, 0) _
  refine ex_aload_n 1 dX10_isOutOfOrder_0 rfl rfl ?_
  obtain ⟨o1, hyp⟩ := hyp
  obtain ⟨r2, f3, hyp⟩ := hyp
  refine q_getR 10 3 4 dX10_isOutOfOrder_1 rfl fiX10_13 rfl o1 f3 ?_
  refine ex_iload_n 5 dX10_isOutOfOrder_4 rfl rfl ?_
  obtain ⟨o4, hyp⟩ := hyp
  refine ex_iald 6 dX10_isOutOfOrder_5 rfl o4 ?_
  obtain ⟨o5, hyp⟩ := hyp
  obtain ⟨ht, hf⟩ := hyp
  refine ex_if_ne 28 9 dX10_isOutOfOrder_6 (by decide) rfl o5 (fun c15 => ?_) (fun c15 => ?_)
  · have hyp := ht c15
    clear ht hf
    exact hyp
  · have hyp := hf c15
    clear ht hf
    refine ex_aload_n 10 dX10_isOutOfOrder_9 rfl rfl ?_
    obtain ⟨r6, f7, hyp⟩ := hyp
    refine q_getR 10 4 13 dX10_isOutOfOrder_10 rfl fiX10_16 rfl o1 f7 ?_
    refine ex_iload_n 14 dX10_isOutOfOrder_13 rfl rfl ?_
    obtain ⟨o8, hyp⟩ := hyp
    refine ex_iald 15 dX10_isOutOfOrder_14 rfl o8 ?_
    refine ex_aload_n 16 dX10_isOutOfOrder_15 rfl rfl ?_
    refine q_getR 10 4 19 dX10_isOutOfOrder_16 rfl fiX10_16 rfl o1 f7 ?_
    refine ex_iload_n 20 dX10_isOutOfOrder_19 rfl rfl ?_
    obtain ⟨o9, hyp⟩ := hyp
    refine ex_iald 21 dX10_isOutOfOrder_20 rfl o9 ?_
    obtain ⟨o10, hyp⟩ := hyp
    obtain ⟨o11, hyp⟩ := hyp
    obtain ⟨ht, hf⟩ := hyp
    refine ex_icmp_le 28 24 dX10_isOutOfOrder_21 (by decide) rfl o10 o11 (fun c14 => ?_) (fun c14 => ?_)
    · have hyp := ht c14
      clear ht hf
      exact hyp
    · have hyp := hf c14
      clear ht hf
      refine ex_iconst 25 dX10_isOutOfOrder_24 rfl ?_
      refine ex_goto 29 dX10_isOutOfOrder_25 (by decide) ?_
      refine q_istore_n [some (vr a0), some (vi x1), some (vi x2), some (vi 1), none] 30 dX10_isOutOfOrder_29 rfl (Nat.le_of_ble_eq_true rfl) rfl rfl ?_
      refine ex_aload_n 31 dX10_isOutOfOrder_30 rfl rfl ?_
      refine q_getR 10 3 34 dX10_isOutOfOrder_31 rfl fiX10_13 rfl o1 f3 ?_
      refine ex_iload_n 35 dX10_isOutOfOrder_34 rfl rfl ?_
      refine ex_iald 36 dX10_isOutOfOrder_35 rfl o4 ?_
      refine ex_iconst 37 dX10_isOutOfOrder_36 rfl ?_
      obtain ⟨ht, hf⟩ := hyp
      refine ex_icmp_ne 59 40 dX10_isOutOfOrder_37 (by decide) rfl o5 ⟨by decide, by decide⟩ (fun c13 => ?_) (fun c13 => ?_)
      · have hyp := ht c13
        clear ht hf
        refine ex_iconst 60 dX10_isOutOfOrder_59 rfl ?_
        refine q_istore [some (vr a0), some (vi x1), some (vi x2), some (vi 1), some (vi 0)] 62 dX10_isOutOfOrder_60 rfl (Nat.le_of_ble_eq_true rfl) rfl rfl ?_
        refine ex_iload_n 63 dX10_isOutOfOrder_62 rfl rfl ?_
        refine ex_if_ne 71 66 dX10_isOutOfOrder_63 (by decide) rfl ⟨by decide, by decide⟩ (fun _ => ?_) (fun c => absurd c (by decide))
        refine ex_iconst 72 dX10_isOutOfOrder_71 rfl ?_
        refine ex_goto 76 dX10_isOutOfOrder_72 (by decide) ?_
        exact ex_iret dX10_isOutOfOrder_76 (Or.inr ⟨rfl, Or.inr rfl⟩) ⟨_, rfl, hyp⟩
      · have hyp := hf c13
        clear ht hf
        refine ex_aload_n 41 dX10_isOutOfOrder_40 rfl rfl ?_
        refine q_getR 10 4 44 dX10_isOutOfOrder_41 rfl fiX10_16 rfl o1 f7 ?_
        refine ex_iload_n 45 dX10_isOutOfOrder_44 rfl rfl ?_
        refine ex_iald 46 dX10_isOutOfOrder_45 rfl o8 ?_
        refine ex_aload_n 47 dX10_isOutOfOrder_46 rfl rfl ?_
        refine q_getR 10 4 50 dX10_isOutOfOrder_47 rfl fiX10_16 rfl o1 f7 ?_
        refine ex_iload_n 51 dX10_isOutOfOrder_50 rfl rfl ?_
        refine ex_iald 52 dX10_isOutOfOrder_51 rfl o9 ?_
        obtain ⟨ht, hf⟩ := hyp
        refine ex_icmp_ge 59 55 dX10_isOutOfOrder_52 (by decide) rfl o10 o11 (fun c12 => ?_) (fun c12 => ?_)
        · have hyp := ht c12
          clear ht hf
          refine ex_iconst 60 dX10_isOutOfOrder_59 rfl ?_
          refine q_istore [some (vr a0), some (vi x1), some (vi x2), some (vi 1), some (vi 0)] 62 dX10_isOutOfOrder_60 rfl (Nat.le_of_ble_eq_true rfl) rfl rfl ?_
          refine ex_iload_n 63 dX10_isOutOfOrder_62 rfl rfl ?_
          refine ex_if_ne 71 66 dX10_isOutOfOrder_63 (by decide) rfl ⟨by decide, by decide⟩ (fun _ => ?_) (fun c => absurd c (by decide))
          refine ex_iconst 72 dX10_isOutOfOrder_71 rfl ?_
          refine ex_goto 76 dX10_isOutOfOrder_72 (by decide) ?_
          exact ex_iret dX10_isOutOfOrder_76 (Or.inr ⟨rfl, Or.inr rfl⟩) ⟨_, rfl, hyp⟩
        · have hyp := hf c12
          clear ht hf
          refine ex_iconst 56 dX10_isOutOfOrder_55 rfl ?_
          refine ex_goto 60 dX10_isOutOfOrder_56 (by decide) ?_
          refine q_istore [some (vr a0), some (vi x1), some (vi x2), some (vi 1), some (vi 1)] 62 dX10_isOutOfOrder_60 rfl (Nat.le_of_ble_eq_true rfl) rfl rfl ?_
          refine ex_iload_n 63 dX10_isOutOfOrder_62 rfl rfl ?_
          refine ex_if_ne 71 66 dX10_isOutOfOrder_63 (by decide) rfl ⟨by decide, by decide⟩ (fun _ => ?_) (fun c => absurd c (by decide))
          refine ex_iconst 72 dX10_isOutOfOrder_71 rfl ?_
          refine ex_goto 76 dX10_isOutOfOrder_72 (by decide) ?_
          exact ex_iret dX10_isOutOfOrder_76 (Or.inr ⟨rfl, Or.inr rfl⟩) ⟨_, rfl, hyp⟩
set_option maxRecDepth 4000 in
theorem tX10_isOutOfOrder_28 {P : Int → PH → Prop} (h0 : PH) (a0 : Nat) (x1 : Int) (x2 : Int) (hyp : OB h0 10 a0 ∧ ∃ r2 : Nat, h0.2.2 a0 3 = some r2 ∧ AI h0 20 r2 x1 ∧ rng (h0.2.1 r2 (x1).toNat) ∧ (¬ h0.2.1 r2 (x1).toNat = 2 → (P 0 h0)) ∧ (h0.2.1 r2 (x1).toNat = 2 → (∃ r6 : Nat, h0.2.2 a0 4 = some r6 ∧ AI h0 20 r6 x1 ∧ AI h0 20 r6 x2 ∧ rng (h0.2.1 r6 (x1).toNat) ∧ rng (h0.2.1 r6 (x2).toNat) ∧ (h0.2.1 r6 (x2).toNat ≤ h0.2.1 r6 (x1).toNat → (P 0 h0)) ∧ (h0.2.1 r6 (x1).toNat < h0.2.1 r6 (x2).toNat → (P 1 h0))))) : EXi mX10_isOutOfOrder 28 [some (vr a0), some (vi x1), some (vi x2), none, none] [] h0 P := by
  refine ex_iconst 29 dX10_isOutOfOrder_28 rfl ?_
  refine q_istore_n [some (vr a0), some (vi x1), some (vi x2), some (vi 0), none] 30 dX10_isOutOfOrder_29 rfl (Nat.le_of_ble_eq_true rfl) rfl rfl ?_
  refine ex_aload_n 31 dX10_isOutOfOrder_30 rfl rfl ?_
  obtain ⟨o1, hyp⟩ := hyp
  obtain ⟨r2, f3, hyp⟩ := hyp
  refine q_getR 10 3 34 dX10_isOutOfOrder_31 rfl fiX10_13 rfl o1 f3 ?_
  refine ex_iload_n 35 dX10_isOutOfOrder_34 rfl rfl ?_
  obtain ⟨o4, hyp⟩ := hyp
  refine ex_iald 36 dX10_isOutOfOrder_35 rfl o4 ?_
  refine ex_iconst 37 dX10_isOutOfOrder_36 rfl ?_
  obtain ⟨o5, hyp⟩ := hyp
  obtain ⟨ht, hf⟩ := hyp
  refine ex_icmp_ne 59 40 dX10_isOutOfOrder_37 (by decide) rfl o5 ⟨by decide, by decide⟩ (fun c13 => ?_) (fun c13 => ?_)
  · have hyp := ht c13
    clear ht hf
    refine ex_iconst 60 dX10_isOutOfOrder_59 rfl ?_
    refine q_istore [some (vr a0), some (vi x1), some (vi x2), some (vi 0), some (vi 0)] 62 dX10_isOutOfOrder_60 rfl (Nat.le_of_ble_eq_true rfl) rfl rfl ?_
    refine ex_iload_n 63 dX10_isOutOfOrder_62 rfl rfl ?_
    refine ex_if_ne 71 66 dX10_isOutOfOrder_63 (by decide) rfl ⟨by decide, by decide⟩ (fun c => absurd c (by decide)) (fun _ => ?_)
    refine ex_iload 68 dX10_isOutOfOrder_66 rfl rfl ?_
    refine ex_if_eq 75 71 dX10_isOutOfOrder_68 (by decide) rfl ⟨by decide, by decide⟩ (fun _ => ?_) (fun c => absurd c (by decide))
    refine ex_iconst 76 dX10_isOutOfOrder_75 rfl ?_
    exact ex_iret dX10_isOutOfOrder_76 (Or.inr ⟨rfl, Or.inl rfl⟩) ⟨_, rfl, hyp⟩
  · have hyp := hf c13
    clear ht hf
    refine ex_aload_n 41 dX10_isOutOfOrder_40 rfl rfl ?_
    obtain ⟨r6, f7, hyp⟩ := hyp
    refine q_getR 10 4 44 dX10_isOutOfOrder_41 rfl fiX10_16 rfl o1 f7 ?_
    refine ex_iload_n 45 dX10_isOutOfOrder_44 rfl rfl ?_
    obtain ⟨o8, hyp⟩ := hyp
    refine ex_iald 46 dX10_isOutOfOrder_45 rfl o8 ?_
    refine ex_aload_n 47 dX10_isOutOfOrder_46 rfl rfl ?_
    refine q_getR 10 4 50 dX10_isOutOfOrder_47 rfl fiX10_16 rfl o1 f7 ?_
    refine ex_iload_n 51 dX10_isOutOfOrder_50 rfl rfl ?_
    obtain ⟨o9, hyp⟩ := hyp
    refine ex_iald 52 dX10_isOutOfOrder_51 rfl o9 ?_
    obtain ⟨o10, hyp⟩ := hyp
    obtain ⟨o11, hyp⟩ := hyp
    obtain ⟨ht, hf⟩ := hyp
    refine ex_icmp_ge 59 55 dX10_isOutOfOrder_52 (by decide) rfl o10 o11 (fun c12 => ?_) (fun c12 => ?_)
    · have hyp := ht c12
      clear ht hf
      refine ex_iconst 60 dX10_isOutOfOrder_59 rfl ?_
      refine q_istore [some (vr a0), some (vi x1), some (vi x2), some (vi 0), some (vi 0)] 62 dX10_isOutOfOrder_60 rfl (Nat.le_of_ble_eq_true rfl) rfl rfl ?_
      refine ex_iload_n 63 dX10_isOutOfOrder_62 rfl rfl ?_
      refine ex_if_ne 71 66 dX10_isOutOfOrder_63 (by decide) rfl ⟨by decide, by decide⟩ (fun c => absurd c (by decide)) (fun _ => ?_)
      refine ex_iload 68 dX10_isOutOfOrder_66 rfl rfl ?_
      refine ex_if_eq 75 71 dX10_isOutOfOrder_68 (by decide) rfl ⟨by decide, by decide⟩ (fun _ => ?_) (fun c => absurd c (by decide))
      refine ex_iconst 76 dX10_isOutOfOrder_75 rfl ?_
      exact ex_iret dX10_isOutOfOrder_76 (Or.inr ⟨rfl, Or.inl rfl⟩) ⟨_, rfl, hyp⟩
    · have hyp := hf c12
      clear ht hf
      refine ex_iconst 56 dX10_isOutOfOrder_55 rfl ?_
      refine ex_goto 60 dX10_isOutOfOrder_56 (by decide) ?_
      refine q_istore [some (vr a0), some (vi x1), some (vi x2), some (vi 0), some (vi 1)] 62 dX10_isOutOfOrder_60 rfl (Nat.le_of_ble_eq_true rfl) rfl rfl ?_
      refine ex_iload_n 63 dX10_isOutOfOrder_62 rfl rfl ?_
      refine ex_if_ne 71 66 dX10_isOutOfOrder_63 (by decide) rfl ⟨by decide, by decide⟩ (fun c => absurd c (by decide)) (fun _ => ?_)
      refine ex_iload 68 dX10_isOutOfOrder_66 rfl rfl ?_
      refine ex_if_eq 75 71 dX10_isOutOfOrder_68 (by decide) rfl ⟨by decide, by decide⟩ (fun c => absurd c (by decide)) (fun _ => ?_)
      refine ex_iconst 72 dX10_isOutOfOrder_71 rfl ?_
      refine ex_goto 76 dX10_isOutOfOrder_72 (by decide) ?_
      exact ex_iret dX10_isOutOfOrder_76 (Or.inr ⟨rfl, Or.inr rfl⟩) ⟨_, rfl, hyp⟩
set_option maxRecDepth 4000 in
theorem tX10_why {P : Int → PH → Prop} (h0 : PH) (a0 : Nat) (x1 : Int) (x2 : Int) (hyp : OB h0 10 a0 ∧ ∃ r2 : Nat, h0.2.2 a0 3 = some r2 ∧ AI h0 20 r2 x1 ∧ AI h0 20 r2 x2 ∧ rng (h0.2.1 r2 (x1).toNat) ∧ rng (h0.2.1 r2 (x2).toNat) ∧ (¬ h0.2.1 r2 (x1).toNat = h0.2.1 r2 (x2).toNat → (METi mX10_isParted [vr a0, vi x1, vi x2] h0 (fun y10 h8 => h8.1 = h0.1 → (rng y10 ∧ (y10 = 0 → (METi mX10_isOutOfOrder [vr a0, vi x1, vi x2] h8 (fun y15 h13 => h13.1 = h8.1 → (rng y15 ∧ (¬ y15 = 0 → (P 4 h13)) ∧ (y15 = 0 → (METi mX10_isOutOfOrder [vr a0, vi x2, vi x1] h13 (fun y20 h18 => h18.1 = h13.1 → (rng y20 ∧ (y20 = 0 → (METi mX10_yearsOf [vr a0, vi x1, vi x2] h18 (fun y25 h23 => h23.1 = h18.1 → (rng y25 ∧ (¬ y25 = 0 → (METi mX10_likeness [vr a0, vi x1, vi x2] h23 (fun y30 h28 => h28.1 = h23.1 → (∃ r32 : Nat, h28.2.2 a0 9 = some r32 ∧ AI h28 20 r32 0 ∧ rng y30 ∧ rng (h28.2.1 r32 (0 : Int).toNat) ∧ (h28.2.1 r32 (0 : Int).toNat ≤ y30 → (P 0 h28)) ∧ (y30 < h28.2.1 r32 (0 : Int).toNat → (P 6 h28)))))) ∧ (y25 = 0 → (P 5 h23)))))) ∧ (¬ y20 = 0 → (P 4 h18)))))))))) ∧ (¬ y10 = 0 → (P 3 h8)))))) ∧ (h0.2.1 r2 (x1).toNat = h0.2.1 r2 (x2).toNat → ((h0.2.1 r2 (x1).toNat = 1 → (METi mX10_isParted [vr a0, vi x1, vi x2] h0 (fun y44 h42 => h42.1 = h0.1 → (rng y44 ∧ (y44 = 0 → (METi mX10_isOutOfOrder [vr a0, vi x1, vi x2] h42 (fun y49 h47 => h47.1 = h42.1 → (rng y49 ∧ (¬ y49 = 0 → (P 4 h47)) ∧ (y49 = 0 → (METi mX10_isOutOfOrder [vr a0, vi x2, vi x1] h47 (fun y54 h52 => h52.1 = h47.1 → (rng y54 ∧ (y54 = 0 → (METi mX10_yearsOf [vr a0, vi x1, vi x2] h52 (fun y59 h57 => h57.1 = h52.1 → (rng y59 ∧ (¬ y59 = 0 → (METi mX10_likeness [vr a0, vi x1, vi x2] h57 (fun y64 h62 => h62.1 = h57.1 → (∃ r66 : Nat, h62.2.2 a0 9 = some r66 ∧ AI h62 20 r66 0 ∧ rng y64 ∧ rng (h62.2.1 r66 (0 : Int).toNat) ∧ (h62.2.1 r66 (0 : Int).toNat ≤ y64 → (P 0 h62)) ∧ (y64 < h62.2.1 r66 (0 : Int).toNat → (P 6 h62)))))) ∧ (y59 = 0 → (P 5 h57)))))) ∧ (¬ y54 = 0 → (P 4 h52)))))))))) ∧ (¬ y44 = 0 → (P 3 h42)))))) ∧ (¬ h0.2.1 r2 (x1).toNat = 1 → ((¬ h0.2.1 r2 (x1).toNat = 0 → (P 2 h0)) ∧ (h0.2.1 r2 (x1).toNat = 0 → (P 1 h0))))))) : METi mX10_why [vr a0, vi x1, vi x2] h0 P := by
  refine met_of_ex (by decide +kernel) (Nat.le_of_ble_eq_true rfl) ?_
  show EX mX10_why 0 [some (vr a0), some (vi x1), some (vi x2)] [] h0 (0, 0) _
  refine ex_aload_n 1 dX10_why_0 rfl rfl ?_
  obtain ⟨o1, hyp⟩ := hyp
  obtain ⟨r2, f3, hyp⟩ := hyp
  refine q_getR 10 3 4 dX10_why_1 rfl fiX10_13 rfl o1 f3 ?_
  refine ex_iload_n 5 dX10_why_4 rfl rfl ?_
  obtain ⟨o4, hyp⟩ := hyp
  refine ex_iald 6 dX10_why_5 rfl o4 ?_
  refine ex_aload_n 7 dX10_why_6 rfl rfl ?_
  refine q_getR 10 3 10 dX10_why_7 rfl fiX10_13 rfl o1 f3 ?_
  refine ex_iload_n 11 dX10_why_10 rfl rfl ?_
  obtain ⟨o5, hyp⟩ := hyp
  refine ex_iald 12 dX10_why_11 rfl o5 ?_
  obtain ⟨o6, hyp⟩ := hyp
  obtain ⟨o7, hyp⟩ := hyp
  obtain ⟨ht, hf⟩ := hyp
  refine ex_icmp_ne 40 15 dX10_why_12 (by decide) rfl o6 o7 (fun c78 => ?_) (fun c78 => ?_)
  · have hyp := ht c78
    clear ht hf
    refine ex_aload_n 41 dX10_why_40 rfl rfl ?_
    refine ex_iload_n 42 dX10_why_41 rfl rfl ?_
    refine ex_iload_n 43 dX10_why_42 rfl rfl ?_
    refine q_callVi [vi x1, vi x2] 46 dX10_why_43 rfl cvX10_157 rfl rfl ⟨Nat.le_of_ble_eq_true rfl, Nat.le_of_ble_eq_true rfl⟩ (Nat.le_of_ble_eq_true rfl) o1 hyp (fun y10 h8 k9 hyp => ?_)
    obtain ⟨o11, hyp⟩ := hyp
    obtain ⟨ht, hf⟩ := hyp
    refine ex_if_eq 51 49 dX10_why_46 (by decide) rfl o11 (fun c41 => ?_) (fun c41 => ?_)
    · have hyp := ht c41
      clear ht hf
      refine ex_aload_n 52 dX10_why_51 rfl rfl ?_
      refine ex_iload_n 53 dX10_why_52 rfl rfl ?_
      refine ex_iload_n 54 dX10_why_53 rfl rfl ?_
      have f12 := OB.of k9 o1
      refine q_callVi [vi x1, vi x2] 57 dX10_why_54 rfl cvX10_160 rfl rfl ⟨Nat.le_of_ble_eq_true rfl, Nat.le_of_ble_eq_true rfl⟩ (Nat.le_of_ble_eq_true rfl) f12 hyp (fun y15 h13 k14 hyp => ?_)
      obtain ⟨o16, hyp⟩ := hyp
      obtain ⟨ht, hf⟩ := hyp
      refine ex_if_ne 69 60 dX10_why_57 (by decide) rfl o16 (fun c40 => ?_) (fun c40 => ?_)
      · have hyp := ht c40
        clear ht hf
        refine ex_iconst 70 dX10_why_69 rfl ?_
        exact ex_iret dX10_why_70 (Or.inl rfl) ⟨_, rfl, hyp⟩
      · have hyp := hf c40
        clear ht hf
        refine ex_aload_n 61 dX10_why_60 rfl rfl ?_
        refine ex_iload_n 62 dX10_why_61 rfl rfl ?_
        refine ex_iload_n 63 dX10_why_62 rfl rfl ?_
        have f17 := OB.of k14 f12
        refine q_callVi [vi x2, vi x1] 66 dX10_why_63 rfl cvX10_160 rfl rfl ⟨Nat.le_of_ble_eq_true rfl, Nat.le_of_ble_eq_true rfl⟩ (Nat.le_of_ble_eq_true rfl) f17 hyp (fun y20 h18 k19 hyp => ?_)
        obtain ⟨o21, hyp⟩ := hyp
        obtain ⟨ht, hf⟩ := hyp
        refine ex_if_eq 71 69 dX10_why_66 (by decide) rfl o21 (fun c39 => ?_) (fun c39 => ?_)
        · have hyp := ht c39
          clear ht hf
          refine ex_aload_n 72 dX10_why_71 rfl rfl ?_
          refine ex_iload_n 73 dX10_why_72 rfl rfl ?_
          refine ex_iload_n 74 dX10_why_73 rfl rfl ?_
          have f22 := OB.of k19 f17
          refine q_callVi [vi x1, vi x2] 77 dX10_why_74 rfl cvX10_163 rfl rfl ⟨Nat.le_of_ble_eq_true rfl, Nat.le_of_ble_eq_true rfl⟩ (Nat.le_of_ble_eq_true rfl) f22 hyp (fun y25 h23 k24 hyp => ?_)
          obtain ⟨o26, hyp⟩ := hyp
          obtain ⟨ht, hf⟩ := hyp
          refine ex_if_ne 82 80 dX10_why_77 (by decide) rfl o26 (fun c38 => ?_) (fun c38 => ?_)
          · have hyp := ht c38
            clear ht hf
            refine ex_aload_n 83 dX10_why_82 rfl rfl ?_
            refine ex_iload_n 84 dX10_why_83 rfl rfl ?_
            refine ex_iload_n 85 dX10_why_84 rfl rfl ?_
            have f27 := OB.of k24 f22
            refine q_callVi [vi x1, vi x2] 88 dX10_why_85 rfl cvX10_166 rfl rfl ⟨Nat.le_of_ble_eq_true rfl, Nat.le_of_ble_eq_true rfl⟩ (Nat.le_of_ble_eq_true rfl) f27 hyp (fun y30 h28 k29 hyp => ?_)
            refine ex_aload_n 89 dX10_why_88 rfl rfl ?_
            have f31 := OB.of k29 f27
            obtain ⟨r32, f33, hyp⟩ := hyp
            refine q_getR 10 9 92 dX10_why_89 rfl fiX10_31 rfl f31 f33 ?_
            refine ex_iconst 93 dX10_why_92 rfl ?_
            obtain ⟨o34, hyp⟩ := hyp
            refine ex_iald 94 dX10_why_93 rfl o34 ?_
            obtain ⟨o35, hyp⟩ := hyp
            obtain ⟨o36, hyp⟩ := hyp
            obtain ⟨ht, hf⟩ := hyp
            refine ex_icmp_ge 102 97 dX10_why_94 (by decide) rfl o35 o36 (fun c37 => ?_) (fun c37 => ?_)
            · have hyp := ht c37
              clear ht hf
              refine ex_iconst 103 dX10_why_102 rfl ?_
              exact ex_iret dX10_why_103 (Or.inl rfl) ⟨_, rfl, hyp⟩
            · have hyp := hf c37
              clear ht hf
              refine ex_bipush 99 dX10_why_97 rfl ⟨by decide, by decide⟩ ?_
              refine ex_goto 103 dX10_why_99 (by decide) ?_
              exact ex_iret dX10_why_103 (Or.inl rfl) ⟨_, rfl, hyp⟩
          · have hyp := hf c38
            clear ht hf
            refine ex_iconst 81 dX10_why_80 rfl ?_
            exact ex_iret dX10_why_81 (Or.inl rfl) ⟨_, rfl, hyp⟩
        · have hyp := hf c39
          clear ht hf
          refine ex_iconst 70 dX10_why_69 rfl ?_
          exact ex_iret dX10_why_70 (Or.inl rfl) ⟨_, rfl, hyp⟩
    · have hyp := hf c41
      clear ht hf
      refine ex_iconst 50 dX10_why_49 rfl ?_
      exact ex_iret dX10_why_50 (Or.inl rfl) ⟨_, rfl, hyp⟩
  · have hyp := hf c78
    clear ht hf
    refine ex_aload_n 16 dX10_why_15 rfl rfl ?_
    refine q_getR 10 3 19 dX10_why_16 rfl fiX10_13 rfl o1 f3 ?_
    refine ex_iload_n 20 dX10_why_19 rfl rfl ?_
    refine ex_iald 21 dX10_why_20 rfl o4 ?_
    refine ex_iconst 22 dX10_why_21 rfl ?_
    obtain ⟨ht, hf⟩ := hyp
    refine ex_icmp_eq 40 25 dX10_why_22 (by decide) rfl o6 ⟨by decide, by decide⟩ (fun c77 => ?_) (fun c77 => ?_)
    · have hyp := ht c77
      clear ht hf
      refine ex_aload_n 41 dX10_why_40 rfl rfl ?_
      refine ex_iload_n 42 dX10_why_41 rfl rfl ?_
      refine ex_iload_n 43 dX10_why_42 rfl rfl ?_
      refine q_callVi [vi x1, vi x2] 46 dX10_why_43 rfl cvX10_157 rfl rfl ⟨Nat.le_of_ble_eq_true rfl, Nat.le_of_ble_eq_true rfl⟩ (Nat.le_of_ble_eq_true rfl) o1 hyp (fun y44 h42 k43 hyp => ?_)
      obtain ⟨o45, hyp⟩ := hyp
      obtain ⟨ht, hf⟩ := hyp
      refine ex_if_eq 51 49 dX10_why_46 (by decide) rfl o45 (fun c75 => ?_) (fun c75 => ?_)
      · have hyp := ht c75
        clear ht hf
        refine ex_aload_n 52 dX10_why_51 rfl rfl ?_
        refine ex_iload_n 53 dX10_why_52 rfl rfl ?_
        refine ex_iload_n 54 dX10_why_53 rfl rfl ?_
        have f46 := OB.of k43 o1
        refine q_callVi [vi x1, vi x2] 57 dX10_why_54 rfl cvX10_160 rfl rfl ⟨Nat.le_of_ble_eq_true rfl, Nat.le_of_ble_eq_true rfl⟩ (Nat.le_of_ble_eq_true rfl) f46 hyp (fun y49 h47 k48 hyp => ?_)
        obtain ⟨o50, hyp⟩ := hyp
        obtain ⟨ht, hf⟩ := hyp
        refine ex_if_ne 69 60 dX10_why_57 (by decide) rfl o50 (fun c74 => ?_) (fun c74 => ?_)
        · have hyp := ht c74
          clear ht hf
          refine ex_iconst 70 dX10_why_69 rfl ?_
          exact ex_iret dX10_why_70 (Or.inl rfl) ⟨_, rfl, hyp⟩
        · have hyp := hf c74
          clear ht hf
          refine ex_aload_n 61 dX10_why_60 rfl rfl ?_
          refine ex_iload_n 62 dX10_why_61 rfl rfl ?_
          refine ex_iload_n 63 dX10_why_62 rfl rfl ?_
          have f51 := OB.of k48 f46
          refine q_callVi [vi x2, vi x1] 66 dX10_why_63 rfl cvX10_160 rfl rfl ⟨Nat.le_of_ble_eq_true rfl, Nat.le_of_ble_eq_true rfl⟩ (Nat.le_of_ble_eq_true rfl) f51 hyp (fun y54 h52 k53 hyp => ?_)
          obtain ⟨o55, hyp⟩ := hyp
          obtain ⟨ht, hf⟩ := hyp
          refine ex_if_eq 71 69 dX10_why_66 (by decide) rfl o55 (fun c73 => ?_) (fun c73 => ?_)
          · have hyp := ht c73
            clear ht hf
            refine ex_aload_n 72 dX10_why_71 rfl rfl ?_
            refine ex_iload_n 73 dX10_why_72 rfl rfl ?_
            refine ex_iload_n 74 dX10_why_73 rfl rfl ?_
            have f56 := OB.of k53 f51
            refine q_callVi [vi x1, vi x2] 77 dX10_why_74 rfl cvX10_163 rfl rfl ⟨Nat.le_of_ble_eq_true rfl, Nat.le_of_ble_eq_true rfl⟩ (Nat.le_of_ble_eq_true rfl) f56 hyp (fun y59 h57 k58 hyp => ?_)
            obtain ⟨o60, hyp⟩ := hyp
            obtain ⟨ht, hf⟩ := hyp
            refine ex_if_ne 82 80 dX10_why_77 (by decide) rfl o60 (fun c72 => ?_) (fun c72 => ?_)
            · have hyp := ht c72
              clear ht hf
              refine ex_aload_n 83 dX10_why_82 rfl rfl ?_
              refine ex_iload_n 84 dX10_why_83 rfl rfl ?_
              refine ex_iload_n 85 dX10_why_84 rfl rfl ?_
              have f61 := OB.of k58 f56
              refine q_callVi [vi x1, vi x2] 88 dX10_why_85 rfl cvX10_166 rfl rfl ⟨Nat.le_of_ble_eq_true rfl, Nat.le_of_ble_eq_true rfl⟩ (Nat.le_of_ble_eq_true rfl) f61 hyp (fun y64 h62 k63 hyp => ?_)
              refine ex_aload_n 89 dX10_why_88 rfl rfl ?_
              have f65 := OB.of k63 f61
              obtain ⟨r66, f67, hyp⟩ := hyp
              refine q_getR 10 9 92 dX10_why_89 rfl fiX10_31 rfl f65 f67 ?_
              refine ex_iconst 93 dX10_why_92 rfl ?_
              obtain ⟨o68, hyp⟩ := hyp
              refine ex_iald 94 dX10_why_93 rfl o68 ?_
              obtain ⟨o69, hyp⟩ := hyp
              obtain ⟨o70, hyp⟩ := hyp
              obtain ⟨ht, hf⟩ := hyp
              refine ex_icmp_ge 102 97 dX10_why_94 (by decide) rfl o69 o70 (fun c71 => ?_) (fun c71 => ?_)
              · have hyp := ht c71
                clear ht hf
                refine ex_iconst 103 dX10_why_102 rfl ?_
                exact ex_iret dX10_why_103 (Or.inl rfl) ⟨_, rfl, hyp⟩
              · have hyp := hf c71
                clear ht hf
                refine ex_bipush 99 dX10_why_97 rfl ⟨by decide, by decide⟩ ?_
                refine ex_goto 103 dX10_why_99 (by decide) ?_
                exact ex_iret dX10_why_103 (Or.inl rfl) ⟨_, rfl, hyp⟩
            · have hyp := hf c72
              clear ht hf
              refine ex_iconst 81 dX10_why_80 rfl ?_
              exact ex_iret dX10_why_81 (Or.inl rfl) ⟨_, rfl, hyp⟩
          · have hyp := hf c73
            clear ht hf
            refine ex_iconst 70 dX10_why_69 rfl ?_
            exact ex_iret dX10_why_70 (Or.inl rfl) ⟨_, rfl, hyp⟩
      · have hyp := hf c75
        clear ht hf
        refine ex_iconst 50 dX10_why_49 rfl ?_
        exact ex_iret dX10_why_50 (Or.inl rfl) ⟨_, rfl, hyp⟩
    · have hyp := hf c77
      clear ht hf
      refine ex_aload_n 26 dX10_why_25 rfl rfl ?_
      refine q_getR 10 3 29 dX10_why_26 rfl fiX10_13 rfl o1 f3 ?_
      refine ex_iload_n 30 dX10_why_29 rfl rfl ?_
      refine ex_iald 31 dX10_why_30 rfl o4 ?_
      obtain ⟨ht, hf⟩ := hyp
      refine ex_if_ne 38 34 dX10_why_31 (by decide) rfl o6 (fun c76 => ?_) (fun c76 => ?_)
      · have hyp := ht c76
        clear ht hf
        refine ex_iconst 39 dX10_why_38 rfl ?_
        exact ex_iret dX10_why_39 (Or.inl rfl) ⟨_, rfl, hyp⟩
      · have hyp := hf c76
        clear ht hf
        refine ex_iconst 35 dX10_why_34 rfl ?_
        refine ex_goto 39 dX10_why_35 (by decide) ?_
        exact ex_iret dX10_why_39 (Or.inl rfl) ⟨_, rfl, hyp⟩
set_option maxRecDepth 4000 in
theorem tX10_isFit {P : Int → PH → Prop} (h0 : PH) (a0 : Nat) (x1 : Int) (x2 : Int) (hyp : OB h0 10 a0 ∧ METi mX10_why [vr a0, vi x1, vi x2] h0 (fun y4 h2 => h2.1 = h0.1 → (rng y4 ∧ (¬ y4 = 0 → (P 0 h2)) ∧ (y4 = 0 → (P 1 h2))))) : METi mX10_isFit [vr a0, vi x1, vi x2] h0 P := by
  refine met_of_ex (by decide +kernel) (Nat.le_of_ble_eq_true rfl) ?_
  show EX mX10_isFit 0 [some (vr a0), some (vi x1), some (vi x2)] [] h0 (0, 0) _
  refine ex_aload_n 1 dX10_isFit_0 rfl rfl ?_
  refine ex_iload_n 2 dX10_isFit_1 rfl rfl ?_
  refine ex_iload_n 3 dX10_isFit_2 rfl rfl ?_
  obtain ⟨o1, hyp⟩ := hyp
  refine q_callVi [vi x1, vi x2] 6 dX10_isFit_3 rfl cvX10_169 rfl rfl ⟨Nat.le_of_ble_eq_true rfl, Nat.le_of_ble_eq_true rfl⟩ (Nat.le_of_ble_eq_true rfl) o1 hyp (fun y4 h2 k3 hyp => ?_)
  obtain ⟨o5, hyp⟩ := hyp
  obtain ⟨ht, hf⟩ := hyp
  refine ex_if_ne 13 9 dX10_isFit_6 (by decide) rfl o5 (fun c6 => ?_) (fun c6 => ?_)
  · have hyp := ht c6
    clear ht hf
    refine ex_iconst 14 dX10_isFit_13 rfl ?_
    exact ex_iret dX10_isFit_14 (Or.inr ⟨rfl, Or.inl rfl⟩) ⟨_, rfl, hyp⟩
  · have hyp := hf c6
    clear ht hf
    refine ex_iconst 10 dX10_isFit_9 rfl ?_
    refine ex_goto 14 dX10_isFit_10 (by decide) ?_
    exact ex_iret dX10_isFit_14 (Or.inr ⟨rfl, Or.inr rfl⟩) ⟨_, rfl, hyp⟩
set_option maxRecDepth 4000 in
theorem tX10_worthOf {P : Int → PH → Prop} (h0 : PH) (a0 : Nat) (x1 : Int) (x2 : Int) (hyp : OB h0 10 a0 ∧ METi mX10_isFit [vr a0, vi x1, vi x2] h0 (fun y4 h2 => h2.1 = h0.1 → (rng y4 ∧ (y4 = 0 → (P (-1) h2)) ∧ (¬ y4 = 0 → (METi mX10_likeness [vr a0, vi x1, vi x2] h2 (fun y9 h7 => h7.1 = h2.1 → (METi mX10_yearsOf [vr a0, vi x1, vi x2] h7 (fun y13 h11 => h11.1 = h7.1 → (rng y13 ∧ ¬ y13 = 0 ∧ P (y9 + (Int.tdiv 200 y13)) h11))))))))) : METi mX10_worthOf [vr a0, vi x1, vi x2] h0 P := by
  refine met_of_ex (by decide +kernel) (Nat.le_of_ble_eq_true rfl) ?_
  show EX mX10_worthOf 0 [some (vr a0), some (vi x1), some (vi x2)] [] h0 (0, 0) _
  refine ex_aload_n 1 dX10_worthOf_0 rfl rfl ?_
  refine ex_iload_n 2 dX10_worthOf_1 rfl rfl ?_
  refine ex_iload_n 3 dX10_worthOf_2 rfl rfl ?_
  obtain ⟨o1, hyp⟩ := hyp
  refine q_callVi [vi x1, vi x2] 6 dX10_worthOf_3 rfl cvX10_172 rfl rfl ⟨Nat.le_of_ble_eq_true rfl, Nat.le_of_ble_eq_true rfl⟩ (Nat.le_of_ble_eq_true rfl) o1 hyp (fun y4 h2 k3 hyp => ?_)
  obtain ⟨o5, hyp⟩ := hyp
  obtain ⟨ht, hf⟩ := hyp
  refine ex_if_eq 29 9 dX10_worthOf_6 (by decide) rfl o5 (fun c16 => ?_) (fun c16 => ?_)
  · have hyp := ht c16
    clear ht hf
    refine ex_iconst 30 dX10_worthOf_29 rfl ?_
    exact ex_iret dX10_worthOf_30 (Or.inl rfl) ⟨_, rfl, hyp⟩
  · have hyp := hf c16
    clear ht hf
    refine ex_aload_n 10 dX10_worthOf_9 rfl rfl ?_
    refine ex_iload_n 11 dX10_worthOf_10 rfl rfl ?_
    refine ex_iload_n 12 dX10_worthOf_11 rfl rfl ?_
    have f6 := OB.of k3 o1
    refine q_callVi [vi x1, vi x2] 15 dX10_worthOf_12 rfl cvX10_166 rfl rfl ⟨Nat.le_of_ble_eq_true rfl, Nat.le_of_ble_eq_true rfl⟩ (Nat.le_of_ble_eq_true rfl) f6 hyp (fun y9 h7 k8 hyp => ?_)
    refine ex_sipush 18 dX10_worthOf_15 rfl ⟨by decide, by decide⟩ ?_
    refine ex_aload_n 19 dX10_worthOf_18 rfl rfl ?_
    refine ex_iload_n 20 dX10_worthOf_19 rfl rfl ?_
    refine ex_iload_n 21 dX10_worthOf_20 rfl rfl ?_
    have f10 := OB.of k8 f6
    refine q_callVi [vi x1, vi x2] 24 dX10_worthOf_21 rfl cvX10_163 rfl rfl ⟨Nat.le_of_ble_eq_true rfl, Nat.le_of_ble_eq_true rfl⟩ (Nat.le_of_ble_eq_true rfl) f10 hyp (fun y13 h11 k12 hyp => ?_)
    obtain ⟨o14, hyp⟩ := hyp
    obtain ⟨o15, hyp⟩ := hyp
    refine ex_idiv 25 dX10_worthOf_24 rfl ⟨by decide, by decide⟩ o14 o15 ?_
    refine ex_iadd 26 dX10_worthOf_25 rfl ?_
    refine ex_goto 30 dX10_worthOf_26 (by decide) ?_
    exact ex_iret dX10_worthOf_30 (Or.inl rfl) ⟨_, rfl, hyp⟩
set_option maxRecDepth 4000 in
theorem tX10_isEntry {P : Int → PH → Prop} (h0 : PH) (a0 : Nat) (x1 : Int) (hyp : OB h0 10 a0 ∧ METi mX10_within [vi x1, vi 0, vi ((h0.2.1 a0 2) - 1)] h0 (fun y4 h2 => h2.1 = h0.1 → ((y4 = 0 ∨ y4 = 1) ∧ P y4 h2))) : METi mX10_isEntry [vr a0, vi x1] h0 P := by
  refine met_of_ex (by decide +kernel) (Nat.le_of_ble_eq_true rfl) ?_
  show EX mX10_isEntry 0 [some (vr a0), some (vi x1)] [] h0 (0, 0) _
  refine ex_iload_n 1 dX10_isEntry_0 rfl rfl ?_
  refine ex_iconst 2 dX10_isEntry_1 rfl ?_
  refine ex_aload_n 3 dX10_isEntry_2 rfl rfl ?_
  obtain ⟨o1, hyp⟩ := hyp
  refine q_getI 10 2 6 dX10_isEntry_3 rfl fiX10_118 (Or.inl rfl) o1 ?_
  refine ex_iconst 7 dX10_isEntry_6 rfl ?_
  refine ex_isub 8 dX10_isEntry_7 rfl ?_
  refine q_callSi [vi x1, vi 0, vi ((h0.2.1 a0 2) - 1)] 11 dX10_isEntry_8 rfl cvX10_76 rfl rfl ⟨Nat.le_of_ble_eq_true rfl, Nat.le_of_ble_eq_true rfl⟩ (Nat.le_of_ble_eq_true rfl) hyp (fun y4 h2 k3 hyp => ?_)
  exact ex_iret dX10_isEntry_11 (Or.inr ⟨rfl, hyp.1⟩) ⟨_, rfl, hyp.2⟩
set_option maxRecDepth 4000 in
theorem tX10_twoNow {P : Int → PH → Prop} (h0 : PH) (a0 : Nat) (x1 : Int) (x2 : Int) (x3 : Int) (hyp : rng x3 ∧ (x3 < 0 ∨ 3 < x3 → (OB h0 10 a0 ∧ METi mX10_yearsOf [vr a0, vi x1, vi x2] h0 (fun y5 h3 => h3.1 = h0.1 → (P y5 h3)))) ∧ (x3 = 0 → (OB h0 10 a0 ∧ METi mX10_distance [vr a0, vi x1, vi x2] h0 (fun y9 h7 => h7.1 = h0.1 → (P y9 h7)))) ∧ (x3 = 1 → (OB h0 10 a0 ∧ METi mX10_likeness [vr a0, vi x1, vi x2] h0 (fun y13 h11 => h11.1 = h0.1 → (P y13 h11)))) ∧ (x3 = 2 → (OB h0 10 a0 ∧ METi mX10_why [vr a0, vi x1, vi x2] h0 (fun y17 h15 => h15.1 = h0.1 → (P y17 h15)))) ∧ (x3 = 3 → (OB h0 10 a0 ∧ METi mX10_worthOf [vr a0, vi x1, vi x2] h0 (fun y21 h19 => h19.1 = h0.1 → (P y21 h19))))) : METi mX10_twoNow [vr a0, vi x1, vi x2, vi x3] h0 P := by
  refine met_of_ex (by decide +kernel) (Nat.le_of_ble_eq_true rfl) ?_
  show EX mX10_twoNow 0 [some (vr a0), some (vi x1), some (vi x2), some (vi x3)] [] h0 (0, 0) _
  refine ex_iload_n 1 dX10_twoNow_0 rfl rfl ?_
  obtain ⟨o1, hyp⟩ := hyp
  obtain ⟨hd, hv0, hv1, hv2, hv3⟩ := hyp
  rcases (show (x3 < 0 ∨ 3 < x3) ∨ x3 = 0 ∨ x3 = 1 ∨ x3 = 2 ∨ x3 = 3 by omega) with c | c | c | c | c
  · refine ex_tswOut 60 dX10_twoNow_1 o1 c (by decide) ?_
    have hyp := hd c
    refine ex_aload_n 61 dX10_twoNow_60 rfl rfl ?_
    refine ex_iload_n 62 dX10_twoNow_61 rfl rfl ?_
    refine ex_iload_n 63 dX10_twoNow_62 rfl rfl ?_
    obtain ⟨o2, hyp⟩ := hyp
    refine q_callVi [vi x1, vi x2] 66 dX10_twoNow_63 rfl cvX10_163 rfl rfl ⟨Nat.le_of_ble_eq_true rfl, Nat.le_of_ble_eq_true rfl⟩ (Nat.le_of_ble_eq_true rfl) o2 hyp (fun y5 h3 k4 hyp => ?_)
    exact ex_iret dX10_twoNow_66 (Or.inl rfl) ⟨_, rfl, hyp⟩
  · refine ex_tswIn 0 32 dX10_twoNow_1 c ⟨by decide, by decide⟩ (by decide) (by decide) rfl (by decide) ?_
    have hyp := hv0 c
    refine ex_aload_n 33 dX10_twoNow_32 rfl rfl ?_
    refine ex_iload_n 34 dX10_twoNow_33 rfl rfl ?_
    refine ex_iload_n 35 dX10_twoNow_34 rfl rfl ?_
    obtain ⟨o6, hyp⟩ := hyp
    refine q_callVi [vi x1, vi x2] 38 dX10_twoNow_35 rfl cvX10_145 rfl rfl ⟨Nat.le_of_ble_eq_true rfl, Nat.le_of_ble_eq_true rfl⟩ (Nat.le_of_ble_eq_true rfl) o6 hyp (fun y9 h7 k8 hyp => ?_)
    exact ex_iret dX10_twoNow_38 (Or.inl rfl) ⟨_, rfl, hyp⟩
  · refine ex_tswIn 1 39 dX10_twoNow_1 c ⟨by decide, by decide⟩ (by decide) (by decide) rfl (by decide) ?_
    have hyp := hv1 c
    refine ex_aload_n 40 dX10_twoNow_39 rfl rfl ?_
    refine ex_iload_n 41 dX10_twoNow_40 rfl rfl ?_
    refine ex_iload_n 42 dX10_twoNow_41 rfl rfl ?_
    obtain ⟨o10, hyp⟩ := hyp
    refine q_callVi [vi x1, vi x2] 45 dX10_twoNow_42 rfl cvX10_166 rfl rfl ⟨Nat.le_of_ble_eq_true rfl, Nat.le_of_ble_eq_true rfl⟩ (Nat.le_of_ble_eq_true rfl) o10 hyp (fun y13 h11 k12 hyp => ?_)
    exact ex_iret dX10_twoNow_45 (Or.inl rfl) ⟨_, rfl, hyp⟩
  · refine ex_tswIn 2 46 dX10_twoNow_1 c ⟨by decide, by decide⟩ (by decide) (by decide) rfl (by decide) ?_
    have hyp := hv2 c
    refine ex_aload_n 47 dX10_twoNow_46 rfl rfl ?_
    refine ex_iload_n 48 dX10_twoNow_47 rfl rfl ?_
    refine ex_iload_n 49 dX10_twoNow_48 rfl rfl ?_
    obtain ⟨o14, hyp⟩ := hyp
    refine q_callVi [vi x1, vi x2] 52 dX10_twoNow_49 rfl cvX10_169 rfl rfl ⟨Nat.le_of_ble_eq_true rfl, Nat.le_of_ble_eq_true rfl⟩ (Nat.le_of_ble_eq_true rfl) o14 hyp (fun y17 h15 k16 hyp => ?_)
    exact ex_iret dX10_twoNow_52 (Or.inl rfl) ⟨_, rfl, hyp⟩
  · refine ex_tswIn 3 53 dX10_twoNow_1 c ⟨by decide, by decide⟩ (by decide) (by decide) rfl (by decide) ?_
    have hyp := hv3 c
    refine ex_aload_n 54 dX10_twoNow_53 rfl rfl ?_
    refine ex_iload_n 55 dX10_twoNow_54 rfl rfl ?_
    refine ex_iload_n 56 dX10_twoNow_55 rfl rfl ?_
    obtain ⟨o18, hyp⟩ := hyp
    refine q_callVi [vi x1, vi x2] 59 dX10_twoNow_56 rfl cvX10_175 rfl rfl ⟨Nat.le_of_ble_eq_true rfl, Nat.le_of_ble_eq_true rfl⟩ (Nat.le_of_ble_eq_true rfl) o18 hyp (fun y21 h19 k20 hyp => ?_)
    exact ex_iret dX10_twoNow_59 (Or.inl rfl) ⟨_, rfl, hyp⟩
set_option maxRecDepth 4000 in
theorem tX10_two {P : Int → PH → Prop} (h0 : PH) (a0 : Nat) (x1 : Int) (x2 : Int) (x3 : Int) (hyp : OB h0 10 a0 ∧ METi mX10_isEntry [vr a0, vi x1] h0 (fun y4 h2 => h2.1 = h0.1 → (rng y4 ∧ (y4 = 0 → (P (-101) h2)) ∧ (¬ y4 = 0 → (METi mX10_isEntry [vr a0, vi x2] h2 (fun y9 h7 => h7.1 = h2.1 → (rng y9 ∧ (y9 = 0 → (P (-101) h7)) ∧ (¬ y9 = 0 → (rng x1 ∧ rng x2 ∧ (¬ x1 = x2 → (METi mX10_within [vi x3, vi 0, vi 4] h7 (fun y15 h13 => h13.1 = h7.1 → (rng y15 ∧ (y15 = 0 → (P (-102) h13)) ∧ (¬ y15 = 0 → (METi mX10_twoNow [vr a0, vi x1, vi x2, vi x3] h13 (fun y21 h19 => h19.1 = h13.1 → (P y21 h19)))))))) ∧ (x1 = x2 → (P (-101) h7))))))))))) : METi mX10_two [vr a0, vi x1, vi x2, vi x3] h0 P := by
  refine met_of_ex (by decide +kernel) (Nat.le_of_ble_eq_true rfl) ?_
  show EX mX10_two 0 [some (vr a0), some (vi x1), some (vi x2), some (vi x3)] [] h0 (0, 0) _
  refine ex_aload_n 1 dX10_two_0 rfl rfl ?_
  refine ex_iload_n 2 dX10_two_1 rfl rfl ?_
  obtain ⟨o1, hyp⟩ := hyp
  refine q_callVi [vi x1] 5 dX10_two_2 rfl cvX10_178 rfl rfl ⟨Nat.le_of_ble_eq_true rfl, Nat.le_of_ble_eq_true rfl⟩ (Nat.le_of_ble_eq_true rfl) o1 hyp (fun y4 h2 k3 hyp => ?_)
  obtain ⟨o5, hyp⟩ := hyp
  obtain ⟨ht, hf⟩ := hyp
  refine ex_if_eq 21 8 dX10_two_5 (by decide) rfl o5 (fun c25 => ?_) (fun c25 => ?_)
  · have hyp := ht c25
    clear ht hf
    refine ex_bipush 23 dX10_two_21 rfl ⟨by decide, by decide⟩ ?_
    exact ex_iret dX10_two_23 (Or.inl rfl) ⟨_, rfl, hyp⟩
  · have hyp := hf c25
    clear ht hf
    refine ex_aload_n 9 dX10_two_8 rfl rfl ?_
    refine ex_iload_n 10 dX10_two_9 rfl rfl ?_
    have f6 := OB.of k3 o1
    refine q_callVi [vi x2] 13 dX10_two_10 rfl cvX10_178 rfl rfl ⟨Nat.le_of_ble_eq_true rfl, Nat.le_of_ble_eq_true rfl⟩ (Nat.le_of_ble_eq_true rfl) f6 hyp (fun y9 h7 k8 hyp => ?_)
    obtain ⟨o10, hyp⟩ := hyp
    obtain ⟨ht, hf⟩ := hyp
    refine ex_if_eq 21 16 dX10_two_13 (by decide) rfl o10 (fun c24 => ?_) (fun c24 => ?_)
    · have hyp := ht c24
      clear ht hf
      refine ex_bipush 23 dX10_two_21 rfl ⟨by decide, by decide⟩ ?_
      exact ex_iret dX10_two_23 (Or.inl rfl) ⟨_, rfl, hyp⟩
    · have hyp := hf c24
      clear ht hf
      refine ex_iload_n 17 dX10_two_16 rfl rfl ?_
      refine ex_iload_n 18 dX10_two_17 rfl rfl ?_
      obtain ⟨o11, hyp⟩ := hyp
      obtain ⟨o12, hyp⟩ := hyp
      obtain ⟨ht, hf⟩ := hyp
      refine ex_icmp_ne 24 21 dX10_two_18 (by decide) rfl o11 o12 (fun c23 => ?_) (fun c23 => ?_)
      · have hyp := ht c23
        clear ht hf
        refine ex_iload_n 25 dX10_two_24 rfl rfl ?_
        refine ex_iconst 26 dX10_two_25 rfl ?_
        refine ex_iconst 27 dX10_two_26 rfl ?_
        refine q_callSi [vi x3, vi 0, vi 4] 30 dX10_two_27 rfl cvX10_76 rfl rfl ⟨Nat.le_of_ble_eq_true rfl, Nat.le_of_ble_eq_true rfl⟩ (Nat.le_of_ble_eq_true rfl) hyp (fun y15 h13 k14 hyp => ?_)
        obtain ⟨o16, hyp⟩ := hyp
        obtain ⟨ht, hf⟩ := hyp
        refine ex_if_eq 43 33 dX10_two_30 (by decide) rfl o16 (fun c22 => ?_) (fun c22 => ?_)
        · have hyp := ht c22
          clear ht hf
          refine ex_bipush 45 dX10_two_43 rfl ⟨by decide, by decide⟩ ?_
          exact ex_iret dX10_two_45 (Or.inl rfl) ⟨_, rfl, hyp⟩
        · have hyp := hf c22
          clear ht hf
          refine ex_aload_n 34 dX10_two_33 rfl rfl ?_
          refine ex_iload_n 35 dX10_two_34 rfl rfl ?_
          refine ex_iload_n 36 dX10_two_35 rfl rfl ?_
          refine ex_iload_n 37 dX10_two_36 rfl rfl ?_
          have f17 := OB.of k8 f6
          have f18 := OB.of k14 f17
          refine q_callVi [vi x1, vi x2, vi x3] 40 dX10_two_37 rfl cvX10_181 rfl rfl ⟨Nat.le_of_ble_eq_true rfl, Nat.le_of_ble_eq_true rfl⟩ (Nat.le_of_ble_eq_true rfl) f18 hyp (fun y21 h19 k20 hyp => ?_)
          refine ex_goto 45 dX10_two_40 (by decide) ?_
          exact ex_iret dX10_two_45 (Or.inl rfl) ⟨_, rfl, hyp⟩
      · have hyp := hf c23
        clear ht hf
        refine ex_bipush 23 dX10_two_21 rfl ⟨by decide, by decide⟩ ?_
        exact ex_iret dX10_two_23 (Or.inl rfl) ⟨_, rfl, hyp⟩
set_option maxRecDepth 4000 in
theorem tX10_fitsNow {P : Int → PH → Prop} (h0 : PH) (a0 : Nat) (x1 : Int) (hyp : EXi mX10_fitsNow 4 [some (vr a0), some (vi x1), some (vi 0), some (vi 0)] [] h0 P) : METi mX10_fitsNow [vr a0, vi x1] h0 P := by
  refine met_of_ex (by decide +kernel) (Nat.le_of_ble_eq_true rfl) ?_
  show EX mX10_fitsNow 0 [some (vr a0), some (vi x1), none, none] [] h0 (0, 0) _
  refine ex_iconst 1 dX10_fitsNow_0 rfl ?_
  refine q_istore_n [some (vr a0), some (vi x1), some (vi 0), none] 2 dX10_fitsNow_1 rfl (Nat.le_of_ble_eq_true rfl) rfl rfl ?_
  refine ex_iconst 3 dX10_fitsNow_2 rfl ?_
  refine q_istore_n [some (vr a0), some (vi x1), some (vi 0), some (vi 0)] 4 dX10_fitsNow_3 rfl (Nat.le_of_ble_eq_true rfl) rfl rfl ?_
  exact hyp
set_option maxRecDepth 4000 in
theorem tX10_fitsNow_4 {P : Int → PH → Prop} (h0 : PH) (a0 : Nat) (x1 : Int) (x2 : Int) (x3 : Int) (hyp : OB h0 10 a0 ∧ rng x3 ∧ rng (h0.2.1 a0 2) ∧ (h0.2.1 a0 2 ≤ x3 → (P x2 h0)) ∧ (x3 < h0.2.1 a0 2 → (rng x1 ∧ (x3 = x1 → (EXi mX10_fitsNow 4 [some (vr a0), some (vi x1), some (vi (x2 + 0)), some (vi (x3 + 1))] [] h0 P)) ∧ (¬ x3 = x1 → (METi mX10_isFit [vr a0, vi x1, vi x3] h0 (fun y7 h5 => h5.1 = h0.1 → (rng y7 ∧ (y7 = 0 → (EXi mX10_fitsNow 4 [some (vr a0), some (vi x1), some (vi (x2 + 0)), some (vi (x3 + 1))] [] h5 P)) ∧ (¬ y7 = 0 → (EXi mX10_fitsNow 4 [some (vr a0), some (vi x1), some (vi (x2 + 1)), some (vi (x3 + 1))] [] h5 P))))))))) : EXi mX10_fitsNow 4 [some (vr a0), some (vi x1), some (vi x2), some (vi x3)] [] h0 P := by
  refine ex_iload_n 5 dX10_fitsNow_4 rfl rfl ?_
  refine ex_aload_n 6 dX10_fitsNow_5 rfl rfl ?_
  obtain ⟨o1, hyp⟩ := hyp
  refine q_getI 10 2 9 dX10_fitsNow_6 rfl fiX10_118 (Or.inl rfl) o1 ?_
  obtain ⟨o2, hyp⟩ := hyp
  obtain ⟨o3, hyp⟩ := hyp
  obtain ⟨ht, hf⟩ := hyp
  refine ex_icmp_ge 40 12 dX10_fitsNow_9 (by decide) rfl o2 o3 (fun c11 => ?_) (fun c11 => ?_)
  · have hyp := ht c11
    clear ht hf
    refine ex_iload_n 41 dX10_fitsNow_40 rfl rfl ?_
    exact ex_iret dX10_fitsNow_41 (Or.inl rfl) ⟨_, rfl, hyp⟩
  · have hyp := hf c11
    clear ht hf
    refine ex_iload_n 13 dX10_fitsNow_12 rfl rfl ?_
    refine ex_iload_n 14 dX10_fitsNow_13 rfl rfl ?_
    refine ex_iload_n 15 dX10_fitsNow_14 rfl rfl ?_
    obtain ⟨o4, hyp⟩ := hyp
    obtain ⟨ht, hf⟩ := hyp
    refine ex_icmp_eq 31 18 dX10_fitsNow_15 (by decide) rfl o2 o4 (fun c10 => ?_) (fun c10 => ?_)
    · have hyp := ht c10
      clear ht hf
      refine ex_iconst 32 dX10_fitsNow_31 rfl ?_
      refine ex_iadd 33 dX10_fitsNow_32 rfl ?_
      refine q_istore_n [some (vr a0), some (vi x1), some (vi (x2 + 0)), some (vi x3)] 34 dX10_fitsNow_33 rfl (Nat.le_of_ble_eq_true rfl) rfl rfl ?_
      refine q_iinc [some (vr a0), some (vi x1), some (vi (x2 + 0)), some (vi (x3 + 1))] 37 dX10_fitsNow_34 rfl rfl (Nat.le_of_ble_eq_true rfl) rfl rfl ?_
      refine ex_goto 4 dX10_fitsNow_37 (by decide) ?_
      exact hyp
    · have hyp := hf c10
      clear ht hf
      refine ex_aload_n 19 dX10_fitsNow_18 rfl rfl ?_
      refine ex_iload_n 20 dX10_fitsNow_19 rfl rfl ?_
      refine ex_iload_n 21 dX10_fitsNow_20 rfl rfl ?_
      refine q_callVi [vi x1, vi x3] 24 dX10_fitsNow_21 rfl cvX10_172 rfl rfl ⟨Nat.le_of_ble_eq_true rfl, Nat.le_of_ble_eq_true rfl⟩ (Nat.le_of_ble_eq_true rfl) o1 hyp (fun y7 h5 k6 hyp => ?_)
      obtain ⟨o8, hyp⟩ := hyp
      obtain ⟨ht, hf⟩ := hyp
      refine ex_if_eq 31 27 dX10_fitsNow_24 (by decide) rfl o8 (fun c9 => ?_) (fun c9 => ?_)
      · have hyp := ht c9
        clear ht hf
        refine ex_iconst 32 dX10_fitsNow_31 rfl ?_
        refine ex_iadd 33 dX10_fitsNow_32 rfl ?_
        refine q_istore_n [some (vr a0), some (vi x1), some (vi (x2 + 0)), some (vi x3)] 34 dX10_fitsNow_33 rfl (Nat.le_of_ble_eq_true rfl) rfl rfl ?_
        refine q_iinc [some (vr a0), some (vi x1), some (vi (x2 + 0)), some (vi (x3 + 1))] 37 dX10_fitsNow_34 rfl rfl (Nat.le_of_ble_eq_true rfl) rfl rfl ?_
        refine ex_goto 4 dX10_fitsNow_37 (by decide) ?_
        exact hyp
      · have hyp := hf c9
        clear ht hf
        refine ex_iconst 28 dX10_fitsNow_27 rfl ?_
        refine ex_goto 32 dX10_fitsNow_28 (by decide) ?_
        refine ex_iadd 33 dX10_fitsNow_32 rfl ?_
        refine q_istore_n [some (vr a0), some (vi x1), some (vi (x2 + 1)), some (vi x3)] 34 dX10_fitsNow_33 rfl (Nat.le_of_ble_eq_true rfl) rfl rfl ?_
        refine q_iinc [some (vr a0), some (vi x1), some (vi (x2 + 1)), some (vi (x3 + 1))] 37 dX10_fitsNow_34 rfl rfl (Nat.le_of_ble_eq_true rfl) rfl rfl ?_
        refine ex_goto 4 dX10_fitsNow_37 (by decide) ?_
        exact hyp
set_option maxRecDepth 4000 in
theorem tX10_fits {P : Int → PH → Prop} (h0 : PH) (a0 : Nat) (x1 : Int) (hyp : OB h0 10 a0 ∧ METi mX10_isEntry [vr a0, vi x1] h0 (fun y4 h2 => h2.1 = h0.1 → (rng y4 ∧ (y4 = 0 → (P (-101) h2)) ∧ (¬ y4 = 0 → (METi mX10_fitsNow [vr a0, vi x1] h2 (fun y9 h7 => h7.1 = h2.1 → (P y9 h7))))))) : METi mX10_fits [vr a0, vi x1] h0 P := by
  refine met_of_ex (by decide +kernel) (Nat.le_of_ble_eq_true rfl) ?_
  show EX mX10_fits 0 [some (vr a0), some (vi x1)] [] h0 (0, 0) _
  refine ex_aload_n 1 dX10_fits_0 rfl rfl ?_
  refine ex_iload_n 2 dX10_fits_1 rfl rfl ?_
  obtain ⟨o1, hyp⟩ := hyp
  refine q_callVi [vi x1] 5 dX10_fits_2 rfl cvX10_178 rfl rfl ⟨Nat.le_of_ble_eq_true rfl, Nat.le_of_ble_eq_true rfl⟩ (Nat.le_of_ble_eq_true rfl) o1 hyp (fun y4 h2 k3 hyp => ?_)
  obtain ⟨o5, hyp⟩ := hyp
  obtain ⟨ht, hf⟩ := hyp
  refine ex_if_eq 16 8 dX10_fits_5 (by decide) rfl o5 (fun c10 => ?_) (fun c10 => ?_)
  · have hyp := ht c10
    clear ht hf
    refine ex_bipush 18 dX10_fits_16 rfl ⟨by decide, by decide⟩ ?_
    exact ex_iret dX10_fits_18 (Or.inl rfl) ⟨_, rfl, hyp⟩
  · have hyp := hf c10
    clear ht hf
    refine ex_aload_n 9 dX10_fits_8 rfl rfl ?_
    refine ex_iload_n 10 dX10_fits_9 rfl rfl ?_
    have f6 := OB.of k3 o1
    refine q_callVi [vi x1] 13 dX10_fits_10 rfl cvX10_185 rfl rfl ⟨Nat.le_of_ble_eq_true rfl, Nat.le_of_ble_eq_true rfl⟩ (Nat.le_of_ble_eq_true rfl) f6 hyp (fun y9 h7 k8 hyp => ?_)
    refine ex_goto 18 dX10_fits_13 (by decide) ?_
    exact ex_iret dX10_fits_18 (Or.inl rfl) ⟨_, rfl, hyp⟩
set_option maxRecDepth 4000 in
theorem tX10_nearestNow {P : Int → PH → Prop} (h0 : PH) (a0 : Nat) (x1 : Int) (hyp : EXi mX10_nearestNow 4 [some (vr a0), some (vi x1), some (vi (-1)), some (vi 0), none] [] h0 P) : METi mX10_nearestNow [vr a0, vi x1] h0 P := by
  refine met_of_ex (by decide +kernel) (Nat.le_of_ble_eq_true rfl) ?_
  show EX mX10_nearestNow 0 [some (vr a0), some (vi x1), none, none, none] [] h0 (0, 0) _
  refine ex_iconst 1 dX10_nearestNow_0 rfl ?_
  refine q_istore_n [some (vr a0), some (vi x1), some (vi (-1)), none, none] 2 dX10_nearestNow_1 rfl (Nat.le_of_ble_eq_true rfl) rfl rfl ?_
  refine ex_iconst 3 dX10_nearestNow_2 rfl ?_
  refine q_istore_n [some (vr a0), some (vi x1), some (vi (-1)), some (vi 0), none] 4 dX10_nearestNow_3 rfl (Nat.le_of_ble_eq_true rfl) rfl rfl ?_
  exact hyp
set_option maxRecDepth 4000 in
theorem tX10_nearestNow_4 {P : Int → PH → Prop} (h0 : PH) (a0 : Nat) (x1 : Int) (x2 : Int) (x3 : Int) (hyp : OB h0 10 a0 ∧ rng x3 ∧ rng (h0.2.1 a0 2) ∧ (h0.2.1 a0 2 ≤ x3 → (P x2 h0)) ∧ (x3 < h0.2.1 a0 2 → (rng x1 ∧ (x3 = x1 → (EXi mX10_nearestNow 4 [some (vr a0), some (vi x1), some (vi x2), some (vi (x3 + 1)), none] [] h0 P)) ∧ (¬ x3 = x1 → (METi mX10_isFit [vr a0, vi x1, vi x3] h0 (fun y7 h5 => h5.1 = h0.1 → (rng y7 ∧ (y7 = 0 → (EXi mX10_nearestNow 4 [some (vr a0), some (vi x1), some (vi x2), some (vi (x3 + 1)), none] [] h5 P)) ∧ (¬ y7 = 0 → (rng x2 ∧ (x2 = (-1) → (EXi mX10_nearestNow 4 [some (vr a0), some (vi x1), some (vi x3), some (vi (x3 + 1)), none] [] h5 P)) ∧ (¬ x2 = (-1) → (METi mX10_worthOf [vr a0, vi x1, vi x3] h5 (fun y13 h11 => h11.1 = h5.1 → (METi mX10_worthOf [vr a0, vi x1, vi x2] h11 (fun y17 h15 => h15.1 = h11.1 → (rng y13 ∧ rng y17 ∧ (y13 ≤ y17 → (EXi mX10_nearestNow 4 [some (vr a0), some (vi x1), some (vi x2), some (vi (x3 + 1)), none] [] h15 P)) ∧ (y17 < y13 → (EXi mX10_nearestNow 4 [some (vr a0), some (vi x1), some (vi x3), some (vi (x3 + 1)), none] [] h15 P))))))))))))))))) : EXi mX10_nearestNow 4 [some (vr a0), some (vi x1), some (vi x2), some (vi x3), none] [] h0 P := by
  refine ex_iload_n 5 dX10_nearestNow_4 rfl rfl ?_
  refine ex_aload_n 6 dX10_nearestNow_5 rfl rfl ?_
  obtain ⟨o1, hyp⟩ := hyp
  refine q_getI 10 2 9 dX10_nearestNow_6 rfl fiX10_118 (Or.inl rfl) o1 ?_
  obtain ⟨o2, hyp⟩ := hyp
  obtain ⟨o3, hyp⟩ := hyp
  obtain ⟨ht, hf⟩ := hyp
  refine ex_icmp_ge 70 12 dX10_nearestNow_9 (by decide) rfl o2 o3 (fun c24 => ?_) (fun c24 => ?_)
  · have hyp := ht c24
    clear ht hf
    refine ex_iload_n 71 dX10_nearestNow_70 rfl rfl ?_
    exact ex_iret dX10_nearestNow_71 (Or.inl rfl) ⟨_, rfl, hyp⟩
  · have hyp := hf c24
    clear ht hf
    refine ex_iload_n 13 dX10_nearestNow_12 rfl rfl ?_
    refine ex_iload_n 14 dX10_nearestNow_13 rfl rfl ?_
    obtain ⟨o4, hyp⟩ := hyp
    obtain ⟨ht, hf⟩ := hyp
    refine ex_icmp_eq 50 17 dX10_nearestNow_14 (by decide) rfl o2 o4 (fun c23 => ?_) (fun c23 => ?_)
    · have hyp := ht c23
      clear ht hf
      refine ex_iconst 51 dX10_nearestNow_50 rfl ?_
      refine q_istore [some (vr a0), some (vi x1), some (vi x2), some (vi x3), some (vi 0)] 53 dX10_nearestNow_51 rfl (Nat.le_of_ble_eq_true rfl) rfl rfl ?_
      refine ex_iload 55 dX10_nearestNow_53 rfl rfl ?_
      refine ex_if_eq 62 58 dX10_nearestNow_55 (by decide) rfl ⟨by decide, by decide⟩ (fun _ => ?_) (fun c => absurd c (by decide))
      refine ex_iload_n 63 dX10_nearestNow_62 rfl rfl ?_
      refine q_istore_n [some (vr a0), some (vi x1), some (vi x2), some (vi x3), some (vi 0)] 64 dX10_nearestNow_63 rfl (Nat.le_of_ble_eq_true rfl) rfl rfl ?_
      refine q_iinc [some (vr a0), some (vi x1), some (vi x2), some (vi (x3 + 1)), some (vi 0)] 67 dX10_nearestNow_64 rfl rfl (Nat.le_of_ble_eq_true rfl) rfl rfl ?_
      refine ex_goto 4 dX10_nearestNow_67 (by decide) ?_
      refine ex_dropL (ls' := [some (vr a0), some (vi x1), some (vi x2), some (vi (x3 + 1)), none]) 4 rfl ?_
      exact hyp
    · have hyp := hf c23
      clear ht hf
      refine ex_aload_n 18 dX10_nearestNow_17 rfl rfl ?_
      refine ex_iload_n 19 dX10_nearestNow_18 rfl rfl ?_
      refine ex_iload_n 20 dX10_nearestNow_19 rfl rfl ?_
      refine q_callVi [vi x1, vi x3] 23 dX10_nearestNow_20 rfl cvX10_172 rfl rfl ⟨Nat.le_of_ble_eq_true rfl, Nat.le_of_ble_eq_true rfl⟩ (Nat.le_of_ble_eq_true rfl) o1 hyp (fun y7 h5 k6 hyp => ?_)
      obtain ⟨o8, hyp⟩ := hyp
      obtain ⟨ht, hf⟩ := hyp
      refine ex_if_eq 50 26 dX10_nearestNow_23 (by decide) rfl o8 (fun c22 => ?_) (fun c22 => ?_)
      · have hyp := ht c22
        clear ht hf
        refine ex_iconst 51 dX10_nearestNow_50 rfl ?_
        refine q_istore [some (vr a0), some (vi x1), some (vi x2), some (vi x3), some (vi 0)] 53 dX10_nearestNow_51 rfl (Nat.le_of_ble_eq_true rfl) rfl rfl ?_
        refine ex_iload 55 dX10_nearestNow_53 rfl rfl ?_
        refine ex_if_eq 62 58 dX10_nearestNow_55 (by decide) rfl ⟨by decide, by decide⟩ (fun _ => ?_) (fun c => absurd c (by decide))
        refine ex_iload_n 63 dX10_nearestNow_62 rfl rfl ?_
        refine q_istore_n [some (vr a0), some (vi x1), some (vi x2), some (vi x3), some (vi 0)] 64 dX10_nearestNow_63 rfl (Nat.le_of_ble_eq_true rfl) rfl rfl ?_
        refine q_iinc [some (vr a0), some (vi x1), some (vi x2), some (vi (x3 + 1)), some (vi 0)] 67 dX10_nearestNow_64 rfl rfl (Nat.le_of_ble_eq_true rfl) rfl rfl ?_
        refine ex_goto 4 dX10_nearestNow_67 (by decide) ?_
        refine ex_dropL (ls' := [some (vr a0), some (vi x1), some (vi x2), some (vi (x3 + 1)), none]) 4 rfl ?_
        exact hyp
      · have hyp := hf c22
        clear ht hf
        refine ex_iload_n 27 dX10_nearestNow_26 rfl rfl ?_
        refine ex_iconst 28 dX10_nearestNow_27 rfl ?_
        obtain ⟨o9, hyp⟩ := hyp
        obtain ⟨ht, hf⟩ := hyp
        refine ex_icmp_eq 46 31 dX10_nearestNow_28 (by decide) rfl o9 ⟨by decide, by decide⟩ (fun c21 => ?_) (fun c21 => ?_)
        · have hyp := ht c21
          clear ht hf
          refine ex_iconst 47 dX10_nearestNow_46 rfl ?_
          refine ex_goto 51 dX10_nearestNow_47 (by decide) ?_
          refine q_istore [some (vr a0), some (vi x1), some (vi x2), some (vi x3), some (vi 1)] 53 dX10_nearestNow_51 rfl (Nat.le_of_ble_eq_true rfl) rfl rfl ?_
          refine ex_iload 55 dX10_nearestNow_53 rfl rfl ?_
          refine ex_if_eq 62 58 dX10_nearestNow_55 (by decide) rfl ⟨by decide, by decide⟩ (fun c => absurd c (by decide)) (fun _ => ?_)
          refine ex_iload_n 59 dX10_nearestNow_58 rfl rfl ?_
          refine ex_goto 63 dX10_nearestNow_59 (by decide) ?_
          refine q_istore_n [some (vr a0), some (vi x1), some (vi x3), some (vi x3), some (vi 1)] 64 dX10_nearestNow_63 rfl (Nat.le_of_ble_eq_true rfl) rfl rfl ?_
          refine q_iinc [some (vr a0), some (vi x1), some (vi x3), some (vi (x3 + 1)), some (vi 1)] 67 dX10_nearestNow_64 rfl rfl (Nat.le_of_ble_eq_true rfl) rfl rfl ?_
          refine ex_goto 4 dX10_nearestNow_67 (by decide) ?_
          refine ex_dropL (ls' := [some (vr a0), some (vi x1), some (vi x3), some (vi (x3 + 1)), none]) 4 rfl ?_
          exact hyp
        · have hyp := hf c21
          clear ht hf
          refine ex_aload_n 32 dX10_nearestNow_31 rfl rfl ?_
          refine ex_iload_n 33 dX10_nearestNow_32 rfl rfl ?_
          refine ex_iload_n 34 dX10_nearestNow_33 rfl rfl ?_
          have f10 := OB.of k6 o1
          refine q_callVi [vi x1, vi x3] 37 dX10_nearestNow_34 rfl cvX10_175 rfl rfl ⟨Nat.le_of_ble_eq_true rfl, Nat.le_of_ble_eq_true rfl⟩ (Nat.le_of_ble_eq_true rfl) f10 hyp (fun y13 h11 k12 hyp => ?_)
          refine ex_aload_n 38 dX10_nearestNow_37 rfl rfl ?_
          refine ex_iload_n 39 dX10_nearestNow_38 rfl rfl ?_
          refine ex_iload_n 40 dX10_nearestNow_39 rfl rfl ?_
          have f14 := OB.of k12 f10
          refine q_callVi [vi x1, vi x2] 43 dX10_nearestNow_40 rfl cvX10_175 rfl rfl ⟨Nat.le_of_ble_eq_true rfl, Nat.le_of_ble_eq_true rfl⟩ (Nat.le_of_ble_eq_true rfl) f14 hyp (fun y17 h15 k16 hyp => ?_)
          obtain ⟨o18, hyp⟩ := hyp
          obtain ⟨o19, hyp⟩ := hyp
          obtain ⟨ht, hf⟩ := hyp
          refine ex_icmp_le 50 46 dX10_nearestNow_43 (by decide) rfl o18 o19 (fun c20 => ?_) (fun c20 => ?_)
          · have hyp := ht c20
            clear ht hf
            refine ex_iconst 51 dX10_nearestNow_50 rfl ?_
            refine q_istore [some (vr a0), some (vi x1), some (vi x2), some (vi x3), some (vi 0)] 53 dX10_nearestNow_51 rfl (Nat.le_of_ble_eq_true rfl) rfl rfl ?_
            refine ex_iload 55 dX10_nearestNow_53 rfl rfl ?_
            refine ex_if_eq 62 58 dX10_nearestNow_55 (by decide) rfl ⟨by decide, by decide⟩ (fun _ => ?_) (fun c => absurd c (by decide))
            refine ex_iload_n 63 dX10_nearestNow_62 rfl rfl ?_
            refine q_istore_n [some (vr a0), some (vi x1), some (vi x2), some (vi x3), some (vi 0)] 64 dX10_nearestNow_63 rfl (Nat.le_of_ble_eq_true rfl) rfl rfl ?_
            refine q_iinc [some (vr a0), some (vi x1), some (vi x2), some (vi (x3 + 1)), some (vi 0)] 67 dX10_nearestNow_64 rfl rfl (Nat.le_of_ble_eq_true rfl) rfl rfl ?_
            refine ex_goto 4 dX10_nearestNow_67 (by decide) ?_
            refine ex_dropL (ls' := [some (vr a0), some (vi x1), some (vi x2), some (vi (x3 + 1)), none]) 4 rfl ?_
            exact hyp
          · have hyp := hf c20
            clear ht hf
            refine ex_iconst 47 dX10_nearestNow_46 rfl ?_
            refine ex_goto 51 dX10_nearestNow_47 (by decide) ?_
            refine q_istore [some (vr a0), some (vi x1), some (vi x2), some (vi x3), some (vi 1)] 53 dX10_nearestNow_51 rfl (Nat.le_of_ble_eq_true rfl) rfl rfl ?_
            refine ex_iload 55 dX10_nearestNow_53 rfl rfl ?_
            refine ex_if_eq 62 58 dX10_nearestNow_55 (by decide) rfl ⟨by decide, by decide⟩ (fun c => absurd c (by decide)) (fun _ => ?_)
            refine ex_iload_n 59 dX10_nearestNow_58 rfl rfl ?_
            refine ex_goto 63 dX10_nearestNow_59 (by decide) ?_
            refine q_istore_n [some (vr a0), some (vi x1), some (vi x3), some (vi x3), some (vi 1)] 64 dX10_nearestNow_63 rfl (Nat.le_of_ble_eq_true rfl) rfl rfl ?_
            refine q_iinc [some (vr a0), some (vi x1), some (vi x3), some (vi (x3 + 1)), some (vi 1)] 67 dX10_nearestNow_64 rfl rfl (Nat.le_of_ble_eq_true rfl) rfl rfl ?_
            refine ex_goto 4 dX10_nearestNow_67 (by decide) ?_
            refine ex_dropL (ls' := [some (vr a0), some (vi x1), some (vi x3), some (vi (x3 + 1)), none]) 4 rfl ?_
            exact hyp
set_option maxRecDepth 4000 in
theorem tX10_nearest {P : Int → PH → Prop} (h0 : PH) (a0 : Nat) (x1 : Int) (hyp : OB h0 10 a0 ∧ METi mX10_isEntry [vr a0, vi x1] h0 (fun y4 h2 => h2.1 = h0.1 → (rng y4 ∧ (y4 = 0 → (P (-101) h2)) ∧ (¬ y4 = 0 → (METi mX10_nearestNow [vr a0, vi x1] h2 (fun y9 h7 => h7.1 = h2.1 → (P y9 h7))))))) : METi mX10_nearest [vr a0, vi x1] h0 P := by
  refine met_of_ex (by decide +kernel) (Nat.le_of_ble_eq_true rfl) ?_
  show EX mX10_nearest 0 [some (vr a0), some (vi x1)] [] h0 (0, 0) _
  refine ex_aload_n 1 dX10_nearest_0 rfl rfl ?_
  refine ex_iload_n 2 dX10_nearest_1 rfl rfl ?_
  obtain ⟨o1, hyp⟩ := hyp
  refine q_callVi [vi x1] 5 dX10_nearest_2 rfl cvX10_178 rfl rfl ⟨Nat.le_of_ble_eq_true rfl, Nat.le_of_ble_eq_true rfl⟩ (Nat.le_of_ble_eq_true rfl) o1 hyp (fun y4 h2 k3 hyp => ?_)
  obtain ⟨o5, hyp⟩ := hyp
  obtain ⟨ht, hf⟩ := hyp
  refine ex_if_eq 16 8 dX10_nearest_5 (by decide) rfl o5 (fun c10 => ?_) (fun c10 => ?_)
  · have hyp := ht c10
    clear ht hf
    refine ex_bipush 18 dX10_nearest_16 rfl ⟨by decide, by decide⟩ ?_
    exact ex_iret dX10_nearest_18 (Or.inl rfl) ⟨_, rfl, hyp⟩
  · have hyp := hf c10
    clear ht hf
    refine ex_aload_n 9 dX10_nearest_8 rfl rfl ?_
    refine ex_iload_n 10 dX10_nearest_9 rfl rfl ?_
    have f6 := OB.of k3 o1
    refine q_callVi [vi x1] 13 dX10_nearest_10 rfl cvX10_188 rfl rfl ⟨Nat.le_of_ble_eq_true rfl, Nat.le_of_ble_eq_true rfl⟩ (Nat.le_of_ble_eq_true rfl) f6 hyp (fun y9 h7 k8 hyp => ?_)
    refine ex_goto 18 dX10_nearest_13 (by decide) ?_
    exact ex_iret dX10_nearest_18 (Or.inl rfl) ⟨_, rfl, hyp⟩
set_option maxRecDepth 4000 in
theorem tX10_listKinds {P : PH → Prop} (h0 : PH) (a0 : Nat) (hyp : OB h0 10 a0 ∧ ∀ h2 : PH, h2 = px_upI h0 a0 20 0 → (∀ h5 : PH, h5 = px_upI h2 a0 21 0 → (EXv mX10_listKinds 12 [some (vr a0), some (vi 0)] [] h5 (0, 0) P))) : METv mX10_listKinds [vr a0] h0 (0, 0) P := by
  refine met_of_ex (by decide +kernel) (Nat.le_of_ble_eq_true rfl) ?_
  show EX mX10_listKinds 0 [some (vr a0), none] [] h0 (0, 0) _
  refine ex_aload_n 1 dX10_listKinds_0 rfl rfl ?_
  refine ex_iconst 2 dX10_listKinds_1 rfl ?_
  obtain ⟨o1, hyp⟩ := hyp
  refine q_putI 10 20 5 dX10_listKinds_2 rfl fiX10_191 ff10_20 rfl o1 (fun h2 e3 => ?_)
  have hyp := hyp h2 e3
  refine ex_aload_n 6 dX10_listKinds_5 rfl rfl ?_
  refine ex_iconst 7 dX10_listKinds_6 rfl ?_
  have f4 := OB.of (KI e3) o1
  refine q_putI 10 21 10 dX10_listKinds_7 rfl fiX10_194 ff10_21 rfl f4 (fun h5 e6 => ?_)
  have hyp := hyp h5 e6
  refine ex_iconst 11 dX10_listKinds_10 rfl ?_
  refine q_istore_n [some (vr a0), some (vi 0)] 12 dX10_listKinds_11 rfl (Nat.le_of_ble_eq_true rfl) rfl rfl ?_
  exact hyp
set_option maxRecDepth 4000 in
theorem tX10_listKinds_12 {P : PH → Prop} (h0 : PH) (a0 : Nat) (x1 : Int) (hyp : OB h0 10 a0 ∧ rng x1 ∧ rng (h0.2.1 a0 2) ∧ (h0.2.1 a0 2 ≤ x1 → (P h0)) ∧ (x1 < h0.2.1 a0 2 → (∃ r4 : Nat, h0.2.2 a0 3 = some r4 ∧ AI h0 20 r4 x1 ∧ rng (h0.2.1 r4 (x1).toNat) ∧ (¬ h0.2.1 r4 (x1).toNat = 0 → ((¬ h0.2.1 r4 (x1).toNat = 2 → (EXv mX10_listKinds 12 [some (vr a0), some (vi (x1 + 1))] [] h0 (0, 0) P)) ∧ (h0.2.1 r4 (x1).toNat = 2 → (∃ r8 : Nat, h0.2.2 a0 23 = some r8 ∧ AI h0 20 r8 (h0.2.1 a0 21) ∧ ∀ h11 : PH, h11 = px_upI h0 r8 (h0.2.1 a0 21).toNat x1 → (∀ h14 : PH, h14 = px_upI h11 a0 21 ((h11.2.1 a0 21) + 1) → (EXv mX10_listKinds 12 [some (vr a0), some (vi (x1 + 1))] [] h14 (0, 0) P)))))) ∧ (h0.2.1 r4 (x1).toNat = 0 → (∃ r17 : Nat, h0.2.2 a0 22 = some r17 ∧ AI h0 20 r17 (h0.2.1 a0 20) ∧ ∀ h20 : PH, h20 = px_upI h0 r17 (h0.2.1 a0 20).toNat x1 → (∀ h23 : PH, h23 = px_upI h20 a0 20 ((h20.2.1 a0 20) + 1) → (EXv mX10_listKinds 12 [some (vr a0), some (vi (x1 + 1))] [] h23 (0, 0) P))))))) : EXv mX10_listKinds 12 [some (vr a0), some (vi x1)] [] h0 (0, 0) P := by
  refine ex_iload_n 13 dX10_listKinds_12 rfl rfl ?_
  refine ex_aload_n 14 dX10_listKinds_13 rfl rfl ?_
  obtain ⟨o1, hyp⟩ := hyp
  refine q_getI 10 2 17 dX10_listKinds_14 rfl fiX10_118 (Or.inl rfl) o1 ?_
  obtain ⟨o2, hyp⟩ := hyp
  obtain ⟨o3, hyp⟩ := hyp
  obtain ⟨ht, hf⟩ := hyp
  refine ex_icmp_ge 88 20 dX10_listKinds_17 (by decide) rfl o2 o3 (fun c26 => ?_) (fun c26 => ?_)
  · have hyp := ht c26
    clear ht hf
    exact ex_vret dX10_listKinds_88 rfl ⟨rfl, hyp⟩
  · have hyp := hf c26
    clear ht hf
    refine ex_aload_n 21 dX10_listKinds_20 rfl rfl ?_
    obtain ⟨r4, f5, hyp⟩ := hyp
    refine q_getR 10 3 24 dX10_listKinds_21 rfl fiX10_13 rfl o1 f5 ?_
    refine ex_iload_n 25 dX10_listKinds_24 rfl rfl ?_
    obtain ⟨o6, hyp⟩ := hyp
    refine ex_iald 26 dX10_listKinds_25 rfl o6 ?_
    obtain ⟨o7, hyp⟩ := hyp
    obtain ⟨ht, hf⟩ := hyp
    refine ex_if_ne 52 29 dX10_listKinds_26 (by decide) rfl o7 (fun c25 => ?_) (fun c25 => ?_)
    · have hyp := ht c25
      clear ht hf
      refine ex_aload_n 53 dX10_listKinds_52 rfl rfl ?_
      refine q_getR 10 3 56 dX10_listKinds_53 rfl fiX10_13 rfl o1 f5 ?_
      refine ex_iload_n 57 dX10_listKinds_56 rfl rfl ?_
      refine ex_iald 58 dX10_listKinds_57 rfl o6 ?_
      refine ex_iconst 59 dX10_listKinds_58 rfl ?_
      obtain ⟨ht, hf⟩ := hyp
      refine ex_icmp_ne 82 62 dX10_listKinds_59 (by decide) rfl o7 ⟨by decide, by decide⟩ (fun c16 => ?_) (fun c16 => ?_)
      · have hyp := ht c16
        clear ht hf
        refine q_iinc [some (vr a0), some (vi (x1 + 1))] 85 dX10_listKinds_82 rfl rfl (Nat.le_of_ble_eq_true rfl) rfl rfl ?_
        refine ex_goto 12 dX10_listKinds_85 (by decide) ?_
        exact hyp
      · have hyp := hf c16
        clear ht hf
        refine ex_aload_n 63 dX10_listKinds_62 rfl rfl ?_
        obtain ⟨r8, f9, hyp⟩ := hyp
        refine q_getR 10 23 66 dX10_listKinds_63 rfl fiX10_55 rfl o1 f9 ?_
        refine ex_aload_n 67 dX10_listKinds_66 rfl rfl ?_
        refine q_getI 10 21 70 dX10_listKinds_67 rfl fiX10_194 (Or.inl rfl) o1 ?_
        refine ex_iload_n 71 dX10_listKinds_70 rfl rfl ?_
        obtain ⟨o10, hyp⟩ := hyp
        refine ex_iast 72 dX10_listKinds_71 rfl o10 (fun h11 e12 => ?_)
        have hyp := hyp h11 e12
        refine ex_aload_n 73 dX10_listKinds_72 rfl rfl ?_
        refine ex_dup 74 dX10_listKinds_73 rfl rfl ?_
        have f13 := OB.of (KI e12) o1
        refine q_getI 10 21 77 dX10_listKinds_74 rfl fiX10_194 (Or.inl rfl) f13 ?_
        refine ex_iconst 78 dX10_listKinds_77 rfl ?_
        refine ex_iadd 79 dX10_listKinds_78 rfl ?_
        refine q_putI 10 21 82 dX10_listKinds_79 rfl fiX10_194 ff10_21 rfl f13 (fun h14 e15 => ?_)
        have hyp := hyp h14 e15
        refine q_iinc [some (vr a0), some (vi (x1 + 1))] 85 dX10_listKinds_82 rfl rfl (Nat.le_of_ble_eq_true rfl) rfl rfl ?_
        refine ex_goto 12 dX10_listKinds_85 (by decide) ?_
        exact hyp
    · have hyp := hf c25
      clear ht hf
      refine ex_aload_n 30 dX10_listKinds_29 rfl rfl ?_
      obtain ⟨r17, f18, hyp⟩ := hyp
      refine q_getR 10 22 33 dX10_listKinds_30 rfl fiX10_52 rfl o1 f18 ?_
      refine ex_aload_n 34 dX10_listKinds_33 rfl rfl ?_
      refine q_getI 10 20 37 dX10_listKinds_34 rfl fiX10_191 (Or.inl rfl) o1 ?_
      refine ex_iload_n 38 dX10_listKinds_37 rfl rfl ?_
      obtain ⟨o19, hyp⟩ := hyp
      refine ex_iast 39 dX10_listKinds_38 rfl o19 (fun h20 e21 => ?_)
      have hyp := hyp h20 e21
      refine ex_aload_n 40 dX10_listKinds_39 rfl rfl ?_
      refine ex_dup 41 dX10_listKinds_40 rfl rfl ?_
      have f22 := OB.of (KI e21) o1
      refine q_getI 10 20 44 dX10_listKinds_41 rfl fiX10_191 (Or.inl rfl) f22 ?_
      refine ex_iconst 45 dX10_listKinds_44 rfl ?_
      refine ex_iadd 46 dX10_listKinds_45 rfl ?_
      refine q_putI 10 20 49 dX10_listKinds_46 rfl fiX10_191 ff10_20 rfl f22 (fun h23 e24 => ?_)
      have hyp := hyp h23 e24
      refine ex_goto 82 dX10_listKinds_49 (by decide) ?_
      refine q_iinc [some (vr a0), some (vi (x1 + 1))] 85 dX10_listKinds_82 rfl rfl (Nat.le_of_ble_eq_true rfl) rfl rfl ?_
      refine ex_goto 12 dX10_listKinds_85 (by decide) ?_
      exact hyp
set_option maxRecDepth 4000 in
theorem tX10_bestWith {P : Int → PH → Prop} (h0 : PH) (a0 : Nat) (x1 : Int) (x2 : Int) (x3 : Int) (hyp : rng (b_and (b_shr x3 x2) 1) ∧ (¬ b_and (b_shr x3 x2) 1 = 0 → (P (-1) h0)) ∧ (b_and (b_shr x3 x2) 1 = 0 → (OB h0 10 a0 ∧ ∃ r3 : Nat, h0.2.2 a0 22 = some r3 ∧ AI h0 20 r3 x1 ∧ ∃ r6 : Nat, h0.2.2 a0 23 = some r6 ∧ AI h0 20 r6 x2 ∧ METi mX10_isFit [vr a0, vi (h0.2.1 r3 (x1).toNat), vi (h0.2.1 r6 (x2).toNat)] h0 (fun y11 h9 => h9.1 = h0.1 → (rng y11 ∧ (y11 = 0 → (P (-1) h9)) ∧ (¬ y11 = 0 → (∃ r14 : Nat, h9.2.2 a0 22 = some r14 ∧ AI h9 20 r14 x1 ∧ ∃ r17 : Nat, h9.2.2 a0 23 = some r17 ∧ AI h9 20 r17 x2 ∧ METi mX10_worthOf [vr a0, vi (h9.2.1 r14 (x1).toNat), vi (h9.2.1 r17 (x2).toNat)] h9 (fun y22 h20 => h20.1 = h9.1 → (∃ r24 : Nat, h20.2.2 a0 24 = some r24 ∧ AI h20 20 r24 ((128 * (x1 + 1)) + (b_or x3 (b_shl 1 x2))) ∧ P (y22 + (h20.2.1 r24 ((128 * (x1 + 1)) + (b_or x3 (b_shl 1 x2))).toNat)) h20))))))))) : METi mX10_bestWith [vr a0, vi x1, vi x2, vi x3] h0 P := by
  refine met_of_ex (by decide +kernel) (Nat.le_of_ble_eq_true rfl) ?_
  show EX mX10_bestWith 0 [some (vr a0), some (vi x1), some (vi x2), some (vi x3), none] [] h0 (0, 0) _
  refine ex_iload_n 1 dX10_bestWith_0 rfl rfl ?_
  refine ex_iload_n 2 dX10_bestWith_1 rfl rfl ?_
  refine ex_ishr 3 dX10_bestWith_2 rfl ?_
  refine ex_iconst 4 dX10_bestWith_3 rfl ?_
  refine ex_iand 5 dX10_bestWith_4 rfl ?_
  obtain ⟨o1, hyp⟩ := hyp
  obtain ⟨ht, hf⟩ := hyp
  refine ex_if_ne 31 8 dX10_bestWith_5 (by decide) rfl o1 (fun c28 => ?_) (fun c28 => ?_)
  · have hyp := ht c28
    clear ht hf
    refine ex_iconst 32 dX10_bestWith_31 rfl ?_
    refine q_istore [some (vr a0), some (vi x1), some (vi x2), some (vi x3), some (vi 0)] 34 dX10_bestWith_32 rfl (Nat.le_of_ble_eq_true rfl) rfl rfl ?_
    refine ex_iload 36 dX10_bestWith_34 rfl rfl ?_
    refine ex_if_eq 77 39 dX10_bestWith_36 (by decide) rfl ⟨by decide, by decide⟩ (fun _ => ?_) (fun c => absurd c (by decide))
    refine ex_iconst 78 dX10_bestWith_77 rfl ?_
    exact ex_iret dX10_bestWith_78 (Or.inl rfl) ⟨_, rfl, hyp⟩
  · have hyp := hf c28
    clear ht hf
    refine ex_aload_n 9 dX10_bestWith_8 rfl rfl ?_
    refine ex_aload_n 10 dX10_bestWith_9 rfl rfl ?_
    obtain ⟨o2, hyp⟩ := hyp
    obtain ⟨r3, f4, hyp⟩ := hyp
    refine q_getR 10 22 13 dX10_bestWith_10 rfl fiX10_52 rfl o2 f4 ?_
    refine ex_iload_n 14 dX10_bestWith_13 rfl rfl ?_
    obtain ⟨o5, hyp⟩ := hyp
    refine ex_iald 15 dX10_bestWith_14 rfl o5 ?_
    refine ex_aload_n 16 dX10_bestWith_15 rfl rfl ?_
    obtain ⟨r6, f7, hyp⟩ := hyp
    refine q_getR 10 23 19 dX10_bestWith_16 rfl fiX10_55 rfl o2 f7 ?_
    refine ex_iload_n 20 dX10_bestWith_19 rfl rfl ?_
    obtain ⟨o8, hyp⟩ := hyp
    refine ex_iald 21 dX10_bestWith_20 rfl o8 ?_
    refine q_callVi [vi (h0.2.1 r3 (x1).toNat), vi (h0.2.1 r6 (x2).toNat)] 24 dX10_bestWith_21 rfl cvX10_172 rfl rfl ⟨Nat.le_of_ble_eq_true rfl, Nat.le_of_ble_eq_true rfl⟩ (Nat.le_of_ble_eq_true rfl) o2 hyp (fun y11 h9 k10 hyp => ?_)
    obtain ⟨o12, hyp⟩ := hyp
    obtain ⟨ht, hf⟩ := hyp
    refine ex_if_eq 31 27 dX10_bestWith_24 (by decide) rfl o12 (fun c27 => ?_) (fun c27 => ?_)
    · have hyp := ht c27
      clear ht hf
      refine ex_iconst 32 dX10_bestWith_31 rfl ?_
      refine q_istore [some (vr a0), some (vi x1), some (vi x2), some (vi x3), some (vi 0)] 34 dX10_bestWith_32 rfl (Nat.le_of_ble_eq_true rfl) rfl rfl ?_
      refine ex_iload 36 dX10_bestWith_34 rfl rfl ?_
      refine ex_if_eq 77 39 dX10_bestWith_36 (by decide) rfl ⟨by decide, by decide⟩ (fun _ => ?_) (fun c => absurd c (by decide))
      refine ex_iconst 78 dX10_bestWith_77 rfl ?_
      exact ex_iret dX10_bestWith_78 (Or.inl rfl) ⟨_, rfl, hyp⟩
    · have hyp := hf c27
      clear ht hf
      refine ex_iconst 28 dX10_bestWith_27 rfl ?_
      refine ex_goto 32 dX10_bestWith_28 (by decide) ?_
      refine q_istore [some (vr a0), some (vi x1), some (vi x2), some (vi x3), some (vi 1)] 34 dX10_bestWith_32 rfl (Nat.le_of_ble_eq_true rfl) rfl rfl ?_
      refine ex_iload 36 dX10_bestWith_34 rfl rfl ?_
      refine ex_if_eq 77 39 dX10_bestWith_36 (by decide) rfl ⟨by decide, by decide⟩ (fun c => absurd c (by decide)) (fun _ => ?_)
      refine ex_aload_n 40 dX10_bestWith_39 rfl rfl ?_
      refine ex_aload_n 41 dX10_bestWith_40 rfl rfl ?_
      have f13 := OB.of k10 o2
      obtain ⟨r14, f15, hyp⟩ := hyp
      refine q_getR 10 22 44 dX10_bestWith_41 rfl fiX10_52 rfl f13 f15 ?_
      refine ex_iload_n 45 dX10_bestWith_44 rfl rfl ?_
      obtain ⟨o16, hyp⟩ := hyp
      refine ex_iald 46 dX10_bestWith_45 rfl o16 ?_
      refine ex_aload_n 47 dX10_bestWith_46 rfl rfl ?_
      obtain ⟨r17, f18, hyp⟩ := hyp
      refine q_getR 10 23 50 dX10_bestWith_47 rfl fiX10_55 rfl f13 f18 ?_
      refine ex_iload_n 51 dX10_bestWith_50 rfl rfl ?_
      obtain ⟨o19, hyp⟩ := hyp
      refine ex_iald 52 dX10_bestWith_51 rfl o19 ?_
      refine q_callVi [vi (h9.2.1 r14 (x1).toNat), vi (h9.2.1 r17 (x2).toNat)] 55 dX10_bestWith_52 rfl cvX10_175 rfl rfl ⟨Nat.le_of_ble_eq_true rfl, Nat.le_of_ble_eq_true rfl⟩ (Nat.le_of_ble_eq_true rfl) f13 hyp (fun y22 h20 k21 hyp => ?_)
      refine ex_aload_n 56 dX10_bestWith_55 rfl rfl ?_
      have f23 := OB.of k21 f13
      obtain ⟨r24, f25, hyp⟩ := hyp
      refine q_getR 10 24 59 dX10_bestWith_56 rfl fiX10_58 rfl f23 f25 ?_
      refine ex_sipush 62 dX10_bestWith_59 rfl ⟨by decide, by decide⟩ ?_
      refine ex_iload_n 63 dX10_bestWith_62 rfl rfl ?_
      refine ex_iconst 64 dX10_bestWith_63 rfl ?_
      refine ex_iadd 65 dX10_bestWith_64 rfl ?_
      refine ex_imul 66 dX10_bestWith_65 rfl ?_
      refine ex_iload_n 67 dX10_bestWith_66 rfl rfl ?_
      refine ex_iconst 68 dX10_bestWith_67 rfl ?_
      refine ex_iload_n 69 dX10_bestWith_68 rfl rfl ?_
      refine ex_ishl 70 dX10_bestWith_69 rfl ?_
      refine ex_ior 71 dX10_bestWith_70 rfl ?_
      refine ex_iadd 72 dX10_bestWith_71 rfl ?_
      obtain ⟨o26, hyp⟩ := hyp
      refine ex_iald 73 dX10_bestWith_72 rfl o26 ?_
      refine ex_iadd 74 dX10_bestWith_73 rfl ?_
      refine ex_goto 78 dX10_bestWith_74 (by decide) ?_
      exact ex_iret dX10_bestWith_78 (Or.inl rfl) ⟨_, rfl, hyp⟩
set_option maxRecDepth 4000 in
theorem tX10_layBest {P : PH → Prop} (h0 : PH) (a0 : Nat) (hyp : EXv mX10_layBest 2 [some (vr a0), some (vi 0), none, none, none] [] h0 (0, 0) P) : METv mX10_layBest [vr a0] h0 (0, 0) P := by
  refine met_of_ex (by decide +kernel) (Nat.le_of_ble_eq_true rfl) ?_
  show EX mX10_layBest 0 [some (vr a0), none, none, none, none] [] h0 (0, 0) _
  refine ex_iconst 1 dX10_layBest_0 rfl ?_
  refine q_istore_n [some (vr a0), some (vi 0), none, none, none] 2 dX10_layBest_1 rfl (Nat.le_of_ble_eq_true rfl) rfl rfl ?_
  exact hyp
set_option maxRecDepth 4000 in
theorem tX10_layBest_2 {P : PH → Prop} (h0 : PH) (a0 : Nat) (x1 : Int) (hyp : rng x1 ∧ (128 ≤ x1 → (OB h0 10 a0 ∧ EXv mX10_layBest 38 [some (vr a0), some (vi ((h0.2.1 a0 20) - 1)), none, none, none] [] h0 (0, 0) P)) ∧ (x1 < 128 → (OB h0 10 a0 ∧ ∃ r4 : Nat, h0.2.2 a0 24 = some r4 ∧ AI h0 20 r4 ((128 * (h0.2.1 a0 20)) + x1) ∧ ∀ h7 : PH, h7 = px_upI h0 r4 ((128 * (h0.2.1 a0 20)) + x1).toNat 0 → (EXv mX10_layBest 2 [some (vr a0), some (vi (x1 + 1)), none, none, none] [] h7 (0, 0) P)))) : EXv mX10_layBest 2 [some (vr a0), some (vi x1), none, none, none] [] h0 (0, 0) P := by
  refine ex_iload_n 3 dX10_layBest_2 rfl rfl ?_
  refine ex_sipush 6 dX10_layBest_3 rfl ⟨by decide, by decide⟩ ?_
  obtain ⟨o1, hyp⟩ := hyp
  obtain ⟨ht, hf⟩ := hyp
  refine ex_icmp_ge 31 9 dX10_layBest_6 (by decide) rfl o1 ⟨by decide, by decide⟩ (fun c9 => ?_) (fun c9 => ?_)
  · have hyp := ht c9
    clear ht hf
    refine ex_aload_n 32 dX10_layBest_31 rfl rfl ?_
    obtain ⟨o2, hyp⟩ := hyp
    refine q_getI 10 20 35 dX10_layBest_32 rfl fiX10_191 (Or.inl rfl) o2 ?_
    refine ex_iconst 36 dX10_layBest_35 rfl ?_
    refine ex_isub 37 dX10_layBest_36 rfl ?_
    refine q_istore_n [some (vr a0), some (vi ((h0.2.1 a0 20) - 1)), none, none, none] 38 dX10_layBest_37 rfl (Nat.le_of_ble_eq_true rfl) rfl rfl ?_
    exact hyp
  · have hyp := hf c9
    clear ht hf
    refine ex_aload_n 10 dX10_layBest_9 rfl rfl ?_
    obtain ⟨o3, hyp⟩ := hyp
    obtain ⟨r4, f5, hyp⟩ := hyp
    refine q_getR 10 24 13 dX10_layBest_10 rfl fiX10_58 rfl o3 f5 ?_
    refine ex_sipush 16 dX10_layBest_13 rfl ⟨by decide, by decide⟩ ?_
    refine ex_aload_n 17 dX10_layBest_16 rfl rfl ?_
    refine q_getI 10 20 20 dX10_layBest_17 rfl fiX10_191 (Or.inl rfl) o3 ?_
    refine ex_imul 21 dX10_layBest_20 rfl ?_
    refine ex_iload_n 22 dX10_layBest_21 rfl rfl ?_
    refine ex_iadd 23 dX10_layBest_22 rfl ?_
    refine ex_iconst 24 dX10_layBest_23 rfl ?_
    obtain ⟨o6, hyp⟩ := hyp
    refine ex_iast 25 dX10_layBest_24 rfl o6 (fun h7 e8 => ?_)
    have hyp := hyp h7 e8
    refine q_iinc [some (vr a0), some (vi (x1 + 1)), none, none, none] 28 dX10_layBest_25 rfl rfl (Nat.le_of_ble_eq_true rfl) rfl rfl ?_
    refine ex_goto 2 dX10_layBest_28 (by decide) ?_
    exact hyp
set_option maxRecDepth 4000 in
theorem tX10_layBest_38 {P : PH → Prop} (h0 : PH) (a0 : Nat) (x1 : Int) (hyp : rng x1 ∧ (x1 < 0 → (P h0)) ∧ (0 ≤ x1 → (EXv mX10_layBest 44 [some (vr a0), some (vi x1), some (vi 0), none, none] [] h0 (0, 0) P))) : EXv mX10_layBest 38 [some (vr a0), some (vi x1), none, none, none] [] h0 (0, 0) P := by
  refine ex_iload_n 39 dX10_layBest_38 rfl rfl ?_
  obtain ⟨o1, hyp⟩ := hyp
  obtain ⟨ht, hf⟩ := hyp
  refine ex_if_lt 125 42 dX10_layBest_39 (by decide) rfl o1 (fun c2 => ?_) (fun c2 => ?_)
  · have hyp := ht c2
    clear ht hf
    exact ex_vret dX10_layBest_125 rfl ⟨rfl, hyp⟩
  · have hyp := hf c2
    clear ht hf
    refine ex_iconst 43 dX10_layBest_42 rfl ?_
    refine q_istore_n [some (vr a0), some (vi x1), some (vi 0), none, none] 44 dX10_layBest_43 rfl (Nat.le_of_ble_eq_true rfl) rfl rfl ?_
    exact hyp
set_option maxRecDepth 4000 in
theorem tX10_layBest_44 {P : PH → Prop} (h0 : PH) (a0 : Nat) (x1 : Int) (x2 : Int) (hyp : OB h0 10 a0 ∧ rng x2 ∧ rng (b_shl 1 (h0.2.1 a0 21)) ∧ (b_shl 1 (h0.2.1 a0 21) ≤ x2 → (EXv mX10_layBest 38 [some (vr a0), some (vi (x1 + (-1))), none, none, none] [] h0 (0, 0) P)) ∧ (x2 < b_shl 1 (h0.2.1 a0 21) → (∃ r4 : Nat, h0.2.2 a0 24 = some r4 ∧ AI h0 20 r4 ((128 * (x1 + 1)) + x2) ∧ EXv mX10_layBest 72 [some (vr a0), some (vi x1), some (vi x2), some (vi (h0.2.1 r4 ((128 * (x1 + 1)) + x2).toNat)), some (vi 0)] [] h0 (0, 0) P))) : EXv mX10_layBest 44 [some (vr a0), some (vi x1), some (vi x2), none, none] [] h0 (0, 0) P := by
  refine ex_iload_n 45 dX10_layBest_44 rfl rfl ?_
  refine ex_iconst 46 dX10_layBest_45 rfl ?_
  refine ex_aload_n 47 dX10_layBest_46 rfl rfl ?_
  obtain ⟨o1, hyp⟩ := hyp
  refine q_getI 10 21 50 dX10_layBest_47 rfl fiX10_194 (Or.inl rfl) o1 ?_
  refine ex_ishl 51 dX10_layBest_50 rfl ?_
  obtain ⟨o2, hyp⟩ := hyp
  obtain ⟨o3, hyp⟩ := hyp
  obtain ⟨ht, hf⟩ := hyp
  refine ex_icmp_ge 119 54 dX10_layBest_51 (by decide) rfl o2 o3 (fun c7 => ?_) (fun c7 => ?_)
  · have hyp := ht c7
    clear ht hf
    refine q_iinc [some (vr a0), some (vi (x1 + (-1))), some (vi x2), none, none] 122 dX10_layBest_119 rfl rfl (Nat.le_of_ble_eq_true rfl) rfl rfl ?_
    refine ex_goto 38 dX10_layBest_122 (by decide) ?_
    refine ex_dropL (ls' := [some (vr a0), some (vi (x1 + (-1))), none, none, none]) 2 rfl ?_
    exact hyp
  · have hyp := hf c7
    clear ht hf
    refine ex_aload_n 55 dX10_layBest_54 rfl rfl ?_
    obtain ⟨r4, f5, hyp⟩ := hyp
    refine q_getR 10 24 58 dX10_layBest_55 rfl fiX10_58 rfl o1 f5 ?_
    refine ex_sipush 61 dX10_layBest_58 rfl ⟨by decide, by decide⟩ ?_
    refine ex_iload_n 62 dX10_layBest_61 rfl rfl ?_
    refine ex_iconst 63 dX10_layBest_62 rfl ?_
    refine ex_iadd 64 dX10_layBest_63 rfl ?_
    refine ex_imul 65 dX10_layBest_64 rfl ?_
    refine ex_iload_n 66 dX10_layBest_65 rfl rfl ?_
    refine ex_iadd 67 dX10_layBest_66 rfl ?_
    obtain ⟨o6, hyp⟩ := hyp
    refine ex_iald 68 dX10_layBest_67 rfl o6 ?_
    refine q_istore_n [some (vr a0), some (vi x1), some (vi x2), some (vi (h0.2.1 r4 ((128 * (x1 + 1)) + x2).toNat)), none] 69 dX10_layBest_68 rfl (Nat.le_of_ble_eq_true rfl) rfl rfl ?_
    refine ex_iconst 70 dX10_layBest_69 rfl ?_
    refine q_istore [some (vr a0), some (vi x1), some (vi x2), some (vi (h0.2.1 r4 ((128 * (x1 + 1)) + x2).toNat)), some (vi 0)] 72 dX10_layBest_70 rfl (Nat.le_of_ble_eq_true rfl) rfl rfl ?_
    exact hyp
set_option maxRecDepth 4000 in
theorem tX10_layBest_72 {P : PH → Prop} (h0 : PH) (a0 : Nat) (x1 : Int) (x2 : Int) (x3 : Int) (x4 : Int) (hyp : OB h0 10 a0 ∧ rng x4 ∧ rng (h0.2.1 a0 21) ∧ (h0.2.1 a0 21 ≤ x4 → (∃ r4 : Nat, h0.2.2 a0 24 = some r4 ∧ AI h0 20 r4 ((128 * x1) + x2) ∧ ∀ h7 : PH, h7 = px_upI h0 r4 ((128 * x1) + x2).toNat x3 → (EXv mX10_layBest 44 [some (vr a0), some (vi x1), some (vi (x2 + 1)), none, none] [] h7 (0, 0) P))) ∧ (x4 < h0.2.1 a0 21 → (METi mX10_bestWith [vr a0, vi x1, vi x4, vi x2] h0 (fun y11 h9 => h9.1 = h0.1 → (METi mX10_greater [vi x3, vi y11] h9 (fun y14 h12 => h12.1 = h9.1 → (EXv mX10_layBest 72 [some (vr a0), some (vi x1), some (vi x2), some (vi y14), some (vi (x4 + 1))] [] h12 (0, 0) P))))))) : EXv mX10_layBest 72 [some (vr a0), some (vi x1), some (vi x2), some (vi x3), some (vi x4)] [] h0 (0, 0) P := by
  refine ex_iload 74 dX10_layBest_72 rfl rfl ?_
  refine ex_aload_n 75 dX10_layBest_74 rfl rfl ?_
  obtain ⟨o1, hyp⟩ := hyp
  refine q_getI 10 21 78 dX10_layBest_75 rfl fiX10_194 (Or.inl rfl) o1 ?_
  obtain ⟨o2, hyp⟩ := hyp
  obtain ⟨o3, hyp⟩ := hyp
  obtain ⟨ht, hf⟩ := hyp
  refine ex_icmp_ge 100 81 dX10_layBest_78 (by decide) rfl o2 o3 (fun c15 => ?_) (fun c15 => ?_)
  · have hyp := ht c15
    clear ht hf
    refine ex_aload_n 101 dX10_layBest_100 rfl rfl ?_
    obtain ⟨r4, f5, hyp⟩ := hyp
    refine q_getR 10 24 104 dX10_layBest_101 rfl fiX10_58 rfl o1 f5 ?_
    refine ex_sipush 107 dX10_layBest_104 rfl ⟨by decide, by decide⟩ ?_
    refine ex_iload_n 108 dX10_layBest_107 rfl rfl ?_
    refine ex_imul 109 dX10_layBest_108 rfl ?_
    refine ex_iload_n 110 dX10_layBest_109 rfl rfl ?_
    refine ex_iadd 111 dX10_layBest_110 rfl ?_
    refine ex_iload_n 112 dX10_layBest_111 rfl rfl ?_
    obtain ⟨o6, hyp⟩ := hyp
    refine ex_iast 113 dX10_layBest_112 rfl o6 (fun h7 e8 => ?_)
    have hyp := hyp h7 e8
    refine q_iinc [some (vr a0), some (vi x1), some (vi (x2 + 1)), some (vi x3), some (vi x4)] 116 dX10_layBest_113 rfl rfl (Nat.le_of_ble_eq_true rfl) rfl rfl ?_
    refine ex_goto 44 dX10_layBest_116 (by decide) ?_
    refine ex_dropL (ls' := [some (vr a0), some (vi x1), some (vi (x2 + 1)), none, some (vi x4)]) 3 rfl ?_
    refine ex_dropL (ls' := [some (vr a0), some (vi x1), some (vi (x2 + 1)), none, none]) 4 rfl ?_
    exact hyp
  · have hyp := hf c15
    clear ht hf
    refine ex_iload_n 82 dX10_layBest_81 rfl rfl ?_
    refine ex_aload_n 83 dX10_layBest_82 rfl rfl ?_
    refine ex_iload_n 84 dX10_layBest_83 rfl rfl ?_
    refine ex_iload 86 dX10_layBest_84 rfl rfl ?_
    refine ex_iload_n 87 dX10_layBest_86 rfl rfl ?_
    refine q_callVi [vi x1, vi x4, vi x2] 90 dX10_layBest_87 rfl cvX10_197 rfl rfl ⟨Nat.le_of_ble_eq_true rfl, Nat.le_of_ble_eq_true rfl⟩ (Nat.le_of_ble_eq_true rfl) o1 hyp (fun y11 h9 k10 hyp => ?_)
    refine q_callSi [vi x3, vi y11] 93 dX10_layBest_90 rfl cvX10_148 rfl rfl ⟨Nat.le_of_ble_eq_true rfl, Nat.le_of_ble_eq_true rfl⟩ (Nat.le_of_ble_eq_true rfl) hyp (fun y14 h12 k13 hyp => ?_)
    refine q_istore_n [some (vr a0), some (vi x1), some (vi x2), some (vi y14), some (vi x4)] 94 dX10_layBest_93 rfl (Nat.le_of_ble_eq_true rfl) rfl rfl ?_
    refine q_iinc [some (vr a0), some (vi x1), some (vi x2), some (vi y14), some (vi (x4 + 1))] 97 dX10_layBest_94 rfl rfl (Nat.le_of_ble_eq_true rfl) rfl rfl ?_
    refine ex_goto 72 dX10_layBest_97 (by decide) ?_
    exact hyp
set_option maxRecDepth 4000 in
theorem tX10_layPairs {P : PH → Prop} (h0 : PH) (a0 : Nat) (hyp : OB h0 10 a0 ∧ METv mX10_listKinds [vr a0] h0 (0, 0) (fun h2 => h2.1 = h0.1 → (METv mX10_layBest [vr a0] h2 (0, 0) (fun h5 => h5.1 = h2.1 → (∀ h8 : PH, h8 = px_upI h5 a0 26 0 → (∃ r11 : Nat, h8.2.2 a0 24 = some r11 ∧ AI h8 20 r11 0 ∧ ∀ h14 : PH, h14 = px_upI h8 a0 27 (h8.2.1 r11 (0 : Int).toNat) → (EXv mX10_layPairs 25 [some (vr a0), some (vi 0), none, none] [] h14 (0, 0) P))))))) : METv mX10_layPairs [vr a0] h0 (0, 0) P := by
  refine met_of_ex (by decide +kernel) (Nat.le_of_ble_eq_true rfl) ?_
  show EX mX10_layPairs 0 [some (vr a0), none, none, none] [] h0 (0, 0) _
  refine ex_aload_n 1 dX10_layPairs_0 rfl rfl ?_
  obtain ⟨o1, hyp⟩ := hyp
  refine q_callVv [] 4 dX10_layPairs_1 rfl cvX10_200 rfl rfl ⟨Nat.le_of_ble_eq_true rfl, Nat.le_of_ble_eq_true rfl⟩ (Nat.le_of_ble_eq_true rfl) o1 hyp (fun h2 k3 hyp => ?_)
  refine ex_aload_n 5 dX10_layPairs_4 rfl rfl ?_
  have f4 := OB.of k3 o1
  refine q_callVv [] 8 dX10_layPairs_5 rfl cvX10_203 rfl rfl ⟨Nat.le_of_ble_eq_true rfl, Nat.le_of_ble_eq_true rfl⟩ (Nat.le_of_ble_eq_true rfl) f4 hyp (fun h5 k6 hyp => ?_)
  refine ex_aload_n 9 dX10_layPairs_8 rfl rfl ?_
  refine ex_iconst 10 dX10_layPairs_9 rfl ?_
  have f7 := OB.of k6 f4
  refine q_putI 10 26 13 dX10_layPairs_10 rfl fiX10_206 ff10_26 rfl f7 (fun h8 e9 => ?_)
  have hyp := hyp h8 e9
  refine ex_aload_n 14 dX10_layPairs_13 rfl rfl ?_
  refine ex_aload_n 15 dX10_layPairs_14 rfl rfl ?_
  have f10 := OB.of (KI e9) f7
  obtain ⟨r11, f12, hyp⟩ := hyp
  refine q_getR 10 24 18 dX10_layPairs_15 rfl fiX10_58 rfl f10 f12 ?_
  refine ex_iconst 19 dX10_layPairs_18 rfl ?_
  obtain ⟨o13, hyp⟩ := hyp
  refine ex_iald 20 dX10_layPairs_19 rfl o13 ?_
  refine q_putI 10 27 23 dX10_layPairs_20 rfl fiX10_209 ff10_27 rfl f10 (fun h14 e15 => ?_)
  have hyp := hyp h14 e15
  refine ex_iconst 24 dX10_layPairs_23 rfl ?_
  refine q_istore_n [some (vr a0), some (vi 0), none, none] 25 dX10_layPairs_24 rfl (Nat.le_of_ble_eq_true rfl) rfl rfl ?_
  exact hyp
set_option maxRecDepth 4000 in
theorem tX10_layPairs_25 {P : PH → Prop} (h0 : PH) (a0 : Nat) (x1 : Int) (hyp : OB h0 10 a0 ∧ rng x1 ∧ rng (h0.2.1 a0 2) ∧ (h0.2.1 a0 2 ≤ x1 → (EXv mX10_layPairs 50 [some (vr a0), some (vi 0), some (vi 0), none] [] h0 (0, 0) P)) ∧ (x1 < h0.2.1 a0 2 → (∃ r4 : Nat, h0.2.2 a0 25 = some r4 ∧ AI h0 20 r4 x1 ∧ ∀ h7 : PH, h7 = px_upI h0 r4 (x1).toNat (-1) → (EXv mX10_layPairs 25 [some (vr a0), some (vi (x1 + 1)), none, none] [] h7 (0, 0) P)))) : EXv mX10_layPairs 25 [some (vr a0), some (vi x1), none, none] [] h0 (0, 0) P := by
  refine ex_iload_n 26 dX10_layPairs_25 rfl rfl ?_
  refine ex_aload_n 27 dX10_layPairs_26 rfl rfl ?_
  obtain ⟨o1, hyp⟩ := hyp
  refine q_getI 10 2 30 dX10_layPairs_27 rfl fiX10_118 (Or.inl rfl) o1 ?_
  obtain ⟨o2, hyp⟩ := hyp
  obtain ⟨o3, hyp⟩ := hyp
  obtain ⟨ht, hf⟩ := hyp
  refine ex_icmp_ge 46 33 dX10_layPairs_30 (by decide) rfl o2 o3 (fun c9 => ?_) (fun c9 => ?_)
  · have hyp := ht c9
    clear ht hf
    refine ex_iconst 47 dX10_layPairs_46 rfl ?_
    refine q_istore_n [some (vr a0), some (vi 0), none, none] 48 dX10_layPairs_47 rfl (Nat.le_of_ble_eq_true rfl) rfl rfl ?_
    refine ex_iconst 49 dX10_layPairs_48 rfl ?_
    refine q_istore_n [some (vr a0), some (vi 0), some (vi 0), none] 50 dX10_layPairs_49 rfl (Nat.le_of_ble_eq_true rfl) rfl rfl ?_
    exact hyp
  · have hyp := hf c9
    clear ht hf
    refine ex_aload_n 34 dX10_layPairs_33 rfl rfl ?_
    obtain ⟨r4, f5, hyp⟩ := hyp
    refine q_getR 10 25 37 dX10_layPairs_34 rfl fiX10_61 rfl o1 f5 ?_
    refine ex_iload_n 38 dX10_layPairs_37 rfl rfl ?_
    refine ex_iconst 39 dX10_layPairs_38 rfl ?_
    obtain ⟨o6, hyp⟩ := hyp
    refine ex_iast 40 dX10_layPairs_39 rfl o6 (fun h7 e8 => ?_)
    have hyp := hyp h7 e8
    refine q_iinc [some (vr a0), some (vi (x1 + 1)), none, none] 43 dX10_layPairs_40 rfl rfl (Nat.le_of_ble_eq_true rfl) rfl rfl ?_
    refine ex_goto 25 dX10_layPairs_43 (by decide) ?_
    exact hyp
set_option maxRecDepth 4000 in
theorem tX10_layPairs_50 {P : PH → Prop} (h0 : PH) (a0 : Nat) (x1 : Int) (x2 : Int) (hyp : OB h0 10 a0 ∧ rng x2 ∧ rng (h0.2.1 a0 20) ∧ (h0.2.1 a0 20 ≤ x2 → (P h0)) ∧ (x2 < h0.2.1 a0 20 → (EXv mX10_layPairs 60 [some (vr a0), some (vi x1), some (vi x2), some (vi 0)] [] h0 (0, 0) P))) : EXv mX10_layPairs 50 [some (vr a0), some (vi x1), some (vi x2), none] [] h0 (0, 0) P := by
  refine ex_iload_n 51 dX10_layPairs_50 rfl rfl ?_
  refine ex_aload_n 52 dX10_layPairs_51 rfl rfl ?_
  obtain ⟨o1, hyp⟩ := hyp
  refine q_getI 10 20 55 dX10_layPairs_52 rfl fiX10_191 (Or.inl rfl) o1 ?_
  obtain ⟨o2, hyp⟩ := hyp
  obtain ⟨o3, hyp⟩ := hyp
  obtain ⟨ht, hf⟩ := hyp
  refine ex_icmp_ge 160 58 dX10_layPairs_55 (by decide) rfl o2 o3 (fun c4 => ?_) (fun c4 => ?_)
  · have hyp := ht c4
    clear ht hf
    exact ex_vret dX10_layPairs_160 rfl ⟨rfl, hyp⟩
  · have hyp := hf c4
    clear ht hf
    refine ex_iconst 59 dX10_layPairs_58 rfl ?_
    refine q_istore_n [some (vr a0), some (vi x1), some (vi x2), some (vi 0)] 60 dX10_layPairs_59 rfl (Nat.le_of_ble_eq_true rfl) rfl rfl ?_
    exact hyp
set_option maxRecDepth 4000 in
theorem tX10_layPairs_60 {P : PH → Prop} (h0 : PH) (a0 : Nat) (x1 : Int) (x2 : Int) (x3 : Int) (hyp : OB h0 10 a0 ∧ rng x3 ∧ rng (h0.2.1 a0 21) ∧ (h0.2.1 a0 21 ≤ x3 → ((h0.2.1 a0 21 ≤ x3 → (EXv mX10_layPairs 50 [some (vr a0), some (vi x1), some (vi (x2 + 1)), none] [] h0 (0, 0) P)) ∧ (x3 < h0.2.1 a0 21 → (∃ r4 : Nat, h0.2.2 a0 25 = some r4 ∧ ∃ r6 : Nat, h0.2.2 a0 22 = some r6 ∧ AI h0 20 r6 x2 ∧ ∃ r9 : Nat, h0.2.2 a0 23 = some r9 ∧ AI h0 20 r9 x3 ∧ AI h0 20 r4 (h0.2.1 r6 (x2).toNat) ∧ ∀ h13 : PH, h13 = px_upI h0 r4 (h0.2.1 r6 (x2).toNat).toNat (h0.2.1 r9 (x3).toNat) → (AI h13 20 r4 (h13.2.1 r9 (x3).toNat) ∧ ∀ h22 : PH, h22 = px_upI h13 r4 (h13.2.1 r9 (x3).toNat).toNat (h13.2.1 r6 (x2).toNat) → (∀ h25 : PH, h25 = px_upI h22 a0 26 ((h22.2.1 a0 26) + 1) → (EXv mX10_layPairs 50 [some (vr a0), some (vi (b_or x1 (b_shl 1 x3))), some (vi (x2 + 1)), none] [] h25 (0, 0) P))))))) ∧ (x3 < h0.2.1 a0 21 → (METi mX10_bestWith [vr a0, vi x2, vi x3, vi x1] h0 (fun y30 h28 => h28.1 = h0.1 → (∃ r32 : Nat, h28.2.2 a0 24 = some r32 ∧ AI h28 20 r32 ((128 * x2) + x1) ∧ rng y30 ∧ rng (h28.2.1 r32 ((128 * x2) + x1).toNat) ∧ (y30 = h28.2.1 r32 ((128 * x2) + x1).toNat → (rng (h28.2.1 a0 21) ∧ (h28.2.1 a0 21 ≤ x3 → (EXv mX10_layPairs 50 [some (vr a0), some (vi x1), some (vi (x2 + 1)), none] [] h28 (0, 0) P)) ∧ (x3 < h28.2.1 a0 21 → (∃ r38 : Nat, h28.2.2 a0 25 = some r38 ∧ ∃ r40 : Nat, h28.2.2 a0 22 = some r40 ∧ AI h28 20 r40 x2 ∧ ∃ r43 : Nat, h28.2.2 a0 23 = some r43 ∧ AI h28 20 r43 x3 ∧ AI h28 20 r38 (h28.2.1 r40 (x2).toNat) ∧ ∀ h47 : PH, h47 = px_upI h28 r38 (h28.2.1 r40 (x2).toNat).toNat (h28.2.1 r43 (x3).toNat) → (AI h47 20 r38 (h47.2.1 r43 (x3).toNat) ∧ ∀ h56 : PH, h56 = px_upI h47 r38 (h47.2.1 r43 (x3).toNat).toNat (h47.2.1 r40 (x2).toNat) → (∀ h59 : PH, h59 = px_upI h56 a0 26 ((h56.2.1 a0 26) + 1) → (EXv mX10_layPairs 50 [some (vr a0), some (vi (b_or x1 (b_shl 1 x3))), some (vi (x2 + 1)), none] [] h59 (0, 0) P))))))) ∧ (¬ y30 = h28.2.1 r32 ((128 * x2) + x1).toNat → (EXv mX10_layPairs 60 [some (vr a0), some (vi x1), some (vi x2), some (vi (x3 + 1))] [] h28 (0, 0) P))))))) : EXv mX10_layPairs 60 [some (vr a0), some (vi x1), some (vi x2), some (vi x3)] [] h0 (0, 0) P := by
  refine ex_iload_n 61 dX10_layPairs_60 rfl rfl ?_
  refine ex_aload_n 62 dX10_layPairs_61 rfl rfl ?_
  obtain ⟨o1, hyp⟩ := hyp
  refine q_getI 10 21 65 dX10_layPairs_62 rfl fiX10_194 (Or.inl rfl) o1 ?_
  obtain ⟨o2, hyp⟩ := hyp
  obtain ⟨o3, hyp⟩ := hyp
  obtain ⟨ht, hf⟩ := hyp
  refine ex_icmp_ge 96 68 dX10_layPairs_65 (by decide) rfl o2 o3 (fun c63 => ?_) (fun c63 => ?_)
  · have hyp := ht c63
    clear ht hf
    refine ex_iload_n 97 dX10_layPairs_96 rfl rfl ?_
    refine ex_aload_n 98 dX10_layPairs_97 rfl rfl ?_
    refine q_getI 10 21 101 dX10_layPairs_98 rfl fiX10_194 (Or.inl rfl) o1 ?_
    obtain ⟨ht, hf⟩ := hyp
    refine ex_icmp_ge 154 104 dX10_layPairs_101 (by decide) rfl o2 o3 (fun c27 => ?_) (fun c27 => ?_)
    · have hyp := ht c27
      clear ht hf
      refine q_iinc [some (vr a0), some (vi x1), some (vi (x2 + 1)), some (vi x3)] 157 dX10_layPairs_154 rfl rfl (Nat.le_of_ble_eq_true rfl) rfl rfl ?_
      refine ex_goto 50 dX10_layPairs_157 (by decide) ?_
      refine ex_dropL (ls' := [some (vr a0), some (vi x1), some (vi (x2 + 1)), none]) 3 rfl ?_
      exact hyp
    · have hyp := hf c27
      clear ht hf
      refine ex_aload_n 105 dX10_layPairs_104 rfl rfl ?_
      obtain ⟨r4, f5, hyp⟩ := hyp
      refine q_getR 10 25 108 dX10_layPairs_105 rfl fiX10_61 rfl o1 f5 ?_
      refine ex_aload_n 109 dX10_layPairs_108 rfl rfl ?_
      obtain ⟨r6, f7, hyp⟩ := hyp
      refine q_getR 10 22 112 dX10_layPairs_109 rfl fiX10_52 rfl o1 f7 ?_
      refine ex_iload_n 113 dX10_layPairs_112 rfl rfl ?_
      obtain ⟨o8, hyp⟩ := hyp
      refine ex_iald 114 dX10_layPairs_113 rfl o8 ?_
      refine ex_aload_n 115 dX10_layPairs_114 rfl rfl ?_
      obtain ⟨r9, f10, hyp⟩ := hyp
      refine q_getR 10 23 118 dX10_layPairs_115 rfl fiX10_55 rfl o1 f10 ?_
      refine ex_iload_n 119 dX10_layPairs_118 rfl rfl ?_
      obtain ⟨o11, hyp⟩ := hyp
      refine ex_iald 120 dX10_layPairs_119 rfl o11 ?_
      obtain ⟨o12, hyp⟩ := hyp
      refine ex_iast 121 dX10_layPairs_120 rfl o12 (fun h13 e14 => ?_)
      have hyp := hyp h13 e14
      refine ex_aload_n 122 dX10_layPairs_121 rfl rfl ?_
      have f15 := OB.of (KI e14) o1
      have f16 := RI e14 f5
      refine q_getR 10 25 125 dX10_layPairs_122 rfl fiX10_61 rfl f15 f16 ?_
      refine ex_aload_n 126 dX10_layPairs_125 rfl rfl ?_
      have f17 := RI e14 f10
      refine q_getR 10 23 129 dX10_layPairs_126 rfl fiX10_55 rfl f15 f17 ?_
      refine ex_iload_n 130 dX10_layPairs_129 rfl rfl ?_
      have f18 := AI.of (KI e14) o11
      refine ex_iald 131 dX10_layPairs_130 rfl f18 ?_
      refine ex_aload_n 132 dX10_layPairs_131 rfl rfl ?_
      have f19 := RI e14 f7
      refine q_getR 10 22 135 dX10_layPairs_132 rfl fiX10_52 rfl f15 f19 ?_
      refine ex_iload_n 136 dX10_layPairs_135 rfl rfl ?_
      have f20 := AI.of (KI e14) o8
      refine ex_iald 137 dX10_layPairs_136 rfl f20 ?_
      obtain ⟨o21, hyp⟩ := hyp
      refine ex_iast 138 dX10_layPairs_137 rfl o21 (fun h22 e23 => ?_)
      have hyp := hyp h22 e23
      refine ex_iload_n 139 dX10_layPairs_138 rfl rfl ?_
      refine ex_iconst 140 dX10_layPairs_139 rfl ?_
      refine ex_iload_n 141 dX10_layPairs_140 rfl rfl ?_
      refine ex_ishl 142 dX10_layPairs_141 rfl ?_
      refine ex_ior 143 dX10_layPairs_142 rfl ?_
      refine q_istore_n [some (vr a0), some (vi (b_or x1 (b_shl 1 x3))), some (vi x2), some (vi x3)] 144 dX10_layPairs_143 rfl (Nat.le_of_ble_eq_true rfl) rfl rfl ?_
      refine ex_aload_n 145 dX10_layPairs_144 rfl rfl ?_
      refine ex_dup 146 dX10_layPairs_145 rfl rfl ?_
      have f24 := OB.of (KI e23) f15
      refine q_getI 10 26 149 dX10_layPairs_146 rfl fiX10_206 (Or.inl rfl) f24 ?_
      refine ex_iconst 150 dX10_layPairs_149 rfl ?_
      refine ex_iadd 151 dX10_layPairs_150 rfl ?_
      refine q_putI 10 26 154 dX10_layPairs_151 rfl fiX10_206 ff10_26 rfl f24 (fun h25 e26 => ?_)
      have hyp := hyp h25 e26
      refine q_iinc [some (vr a0), some (vi (b_or x1 (b_shl 1 x3))), some (vi (x2 + 1)), some (vi x3)] 157 dX10_layPairs_154 rfl rfl (Nat.le_of_ble_eq_true rfl) rfl rfl ?_
      refine ex_goto 50 dX10_layPairs_157 (by decide) ?_
      refine ex_dropL (ls' := [some (vr a0), some (vi (b_or x1 (b_shl 1 x3))), some (vi (x2 + 1)), none]) 3 rfl ?_
      exact hyp
  · have hyp := hf c63
    clear ht hf
    refine ex_aload_n 69 dX10_layPairs_68 rfl rfl ?_
    refine ex_iload_n 70 dX10_layPairs_69 rfl rfl ?_
    refine ex_iload_n 71 dX10_layPairs_70 rfl rfl ?_
    refine ex_iload_n 72 dX10_layPairs_71 rfl rfl ?_
    refine q_callVi [vi x2, vi x3, vi x1] 75 dX10_layPairs_72 rfl cvX10_197 rfl rfl ⟨Nat.le_of_ble_eq_true rfl, Nat.le_of_ble_eq_true rfl⟩ (Nat.le_of_ble_eq_true rfl) o1 hyp (fun y30 h28 k29 hyp => ?_)
    refine ex_aload_n 76 dX10_layPairs_75 rfl rfl ?_
    have f31 := OB.of k29 o1
    obtain ⟨r32, f33, hyp⟩ := hyp
    refine q_getR 10 24 79 dX10_layPairs_76 rfl fiX10_58 rfl f31 f33 ?_
    refine ex_sipush 82 dX10_layPairs_79 rfl ⟨by decide, by decide⟩ ?_
    refine ex_iload_n 83 dX10_layPairs_82 rfl rfl ?_
    refine ex_imul 84 dX10_layPairs_83 rfl ?_
    refine ex_iload_n 85 dX10_layPairs_84 rfl rfl ?_
    refine ex_iadd 86 dX10_layPairs_85 rfl ?_
    obtain ⟨o34, hyp⟩ := hyp
    refine ex_iald 87 dX10_layPairs_86 rfl o34 ?_
    obtain ⟨o35, hyp⟩ := hyp
    obtain ⟨o36, hyp⟩ := hyp
    obtain ⟨ht, hf⟩ := hyp
    refine ex_icmp_eq 96 90 dX10_layPairs_87 (by decide) rfl o35 o36 (fun c62 => ?_) (fun c62 => ?_)
    · have hyp := ht c62
      clear ht hf
      refine ex_iload_n 97 dX10_layPairs_96 rfl rfl ?_
      refine ex_aload_n 98 dX10_layPairs_97 rfl rfl ?_
      refine q_getI 10 21 101 dX10_layPairs_98 rfl fiX10_194 (Or.inl rfl) f31 ?_
      obtain ⟨o37, hyp⟩ := hyp
      obtain ⟨ht, hf⟩ := hyp
      refine ex_icmp_ge 154 104 dX10_layPairs_101 (by decide) rfl o2 o37 (fun c61 => ?_) (fun c61 => ?_)
      · have hyp := ht c61
        clear ht hf
        refine q_iinc [some (vr a0), some (vi x1), some (vi (x2 + 1)), some (vi x3)] 157 dX10_layPairs_154 rfl rfl (Nat.le_of_ble_eq_true rfl) rfl rfl ?_
        refine ex_goto 50 dX10_layPairs_157 (by decide) ?_
        refine ex_dropL (ls' := [some (vr a0), some (vi x1), some (vi (x2 + 1)), none]) 3 rfl ?_
        exact hyp
      · have hyp := hf c61
        clear ht hf
        refine ex_aload_n 105 dX10_layPairs_104 rfl rfl ?_
        obtain ⟨r38, f39, hyp⟩ := hyp
        refine q_getR 10 25 108 dX10_layPairs_105 rfl fiX10_61 rfl f31 f39 ?_
        refine ex_aload_n 109 dX10_layPairs_108 rfl rfl ?_
        obtain ⟨r40, f41, hyp⟩ := hyp
        refine q_getR 10 22 112 dX10_layPairs_109 rfl fiX10_52 rfl f31 f41 ?_
        refine ex_iload_n 113 dX10_layPairs_112 rfl rfl ?_
        obtain ⟨o42, hyp⟩ := hyp
        refine ex_iald 114 dX10_layPairs_113 rfl o42 ?_
        refine ex_aload_n 115 dX10_layPairs_114 rfl rfl ?_
        obtain ⟨r43, f44, hyp⟩ := hyp
        refine q_getR 10 23 118 dX10_layPairs_115 rfl fiX10_55 rfl f31 f44 ?_
        refine ex_iload_n 119 dX10_layPairs_118 rfl rfl ?_
        obtain ⟨o45, hyp⟩ := hyp
        refine ex_iald 120 dX10_layPairs_119 rfl o45 ?_
        obtain ⟨o46, hyp⟩ := hyp
        refine ex_iast 121 dX10_layPairs_120 rfl o46 (fun h47 e48 => ?_)
        have hyp := hyp h47 e48
        refine ex_aload_n 122 dX10_layPairs_121 rfl rfl ?_
        have f49 := OB.of (KI e48) f31
        have f50 := RI e48 f39
        refine q_getR 10 25 125 dX10_layPairs_122 rfl fiX10_61 rfl f49 f50 ?_
        refine ex_aload_n 126 dX10_layPairs_125 rfl rfl ?_
        have f51 := RI e48 f44
        refine q_getR 10 23 129 dX10_layPairs_126 rfl fiX10_55 rfl f49 f51 ?_
        refine ex_iload_n 130 dX10_layPairs_129 rfl rfl ?_
        have f52 := AI.of (KI e48) o45
        refine ex_iald 131 dX10_layPairs_130 rfl f52 ?_
        refine ex_aload_n 132 dX10_layPairs_131 rfl rfl ?_
        have f53 := RI e48 f41
        refine q_getR 10 22 135 dX10_layPairs_132 rfl fiX10_52 rfl f49 f53 ?_
        refine ex_iload_n 136 dX10_layPairs_135 rfl rfl ?_
        have f54 := AI.of (KI e48) o42
        refine ex_iald 137 dX10_layPairs_136 rfl f54 ?_
        obtain ⟨o55, hyp⟩ := hyp
        refine ex_iast 138 dX10_layPairs_137 rfl o55 (fun h56 e57 => ?_)
        have hyp := hyp h56 e57
        refine ex_iload_n 139 dX10_layPairs_138 rfl rfl ?_
        refine ex_iconst 140 dX10_layPairs_139 rfl ?_
        refine ex_iload_n 141 dX10_layPairs_140 rfl rfl ?_
        refine ex_ishl 142 dX10_layPairs_141 rfl ?_
        refine ex_ior 143 dX10_layPairs_142 rfl ?_
        refine q_istore_n [some (vr a0), some (vi (b_or x1 (b_shl 1 x3))), some (vi x2), some (vi x3)] 144 dX10_layPairs_143 rfl (Nat.le_of_ble_eq_true rfl) rfl rfl ?_
        refine ex_aload_n 145 dX10_layPairs_144 rfl rfl ?_
        refine ex_dup 146 dX10_layPairs_145 rfl rfl ?_
        have f58 := OB.of (KI e57) f49
        refine q_getI 10 26 149 dX10_layPairs_146 rfl fiX10_206 (Or.inl rfl) f58 ?_
        refine ex_iconst 150 dX10_layPairs_149 rfl ?_
        refine ex_iadd 151 dX10_layPairs_150 rfl ?_
        refine q_putI 10 26 154 dX10_layPairs_151 rfl fiX10_206 ff10_26 rfl f58 (fun h59 e60 => ?_)
        have hyp := hyp h59 e60
        refine q_iinc [some (vr a0), some (vi (b_or x1 (b_shl 1 x3))), some (vi (x2 + 1)), some (vi x3)] 157 dX10_layPairs_154 rfl rfl (Nat.le_of_ble_eq_true rfl) rfl rfl ?_
        refine ex_goto 50 dX10_layPairs_157 (by decide) ?_
        refine ex_dropL (ls' := [some (vr a0), some (vi (b_or x1 (b_shl 1 x3))), some (vi (x2 + 1)), none]) 3 rfl ?_
        exact hyp
    · have hyp := hf c62
      clear ht hf
      refine q_iinc [some (vr a0), some (vi x1), some (vi x2), some (vi (x3 + 1))] 93 dX10_layPairs_90 rfl rfl (Nat.le_of_ble_eq_true rfl) rfl rfl ?_
      refine ex_goto 60 dX10_layPairs_93 (by decide) ?_
      exact hyp
set_option maxRecDepth 4000 in
theorem tX10_beginLife {P : PH → Prop} (h0 : PH) (a0 : Nat) (x1 : Int) (x2 : Int) (hyp : OB h0 10 a0 ∧ ∃ r2 : Nat, h0.2.2 a0 29 = some r2 ∧ AI h0 20 r2 (h0.2.1 a0 28) ∧ ∀ h5 : PH, h5 = px_upI h0 r2 (h0.2.1 a0 28).toNat x1 → (∃ r8 : Nat, h5.2.2 a0 30 = some r8 ∧ AI h5 20 r8 (h5.2.1 a0 28) ∧ ∀ h11 : PH, h11 = px_upI h5 r8 (h5.2.1 a0 28).toNat x2 → (∃ r14 : Nat, h11.2.2 a0 31 = some r14 ∧ AI h11 20 r14 (h11.2.1 a0 28) ∧ ∀ h17 : PH, h17 = px_upI h11 r14 (h11.2.1 a0 28).toNat 0 → (rng x1 ∧ (x1 = (-1) → (rng x2 ∧ (x2 = (-1) → (∀ h22 : PH, h22 = px_upI h17 a0 28 ((h17.2.1 a0 28) + 1) → (P h22))) ∧ (¬ x2 = (-1) → (∃ r25 : Nat, h17.2.2 a0 32 = some r25 ∧ AI h17 20 r25 x2 ∧ ∀ h28 : PH, h28 = px_upI h17 r25 (x2).toNat (h17.2.1 a0 28) → (∀ h31 : PH, h31 = px_upI h28 a0 28 ((h28.2.1 a0 28) + 1) → (P h31)))))) ∧ (¬ x1 = (-1) → (∃ r35 : Nat, h17.2.2 a0 32 = some r35 ∧ AI h17 20 r35 x1 ∧ ∀ h38 : PH, h38 = px_upI h17 r35 (x1).toNat (h17.2.1 a0 28) → (rng x2 ∧ (x2 = (-1) → (∀ h42 : PH, h42 = px_upI h38 a0 28 ((h38.2.1 a0 28) + 1) → (P h42))) ∧ (¬ x2 = (-1) → (AI h38 20 r35 x2 ∧ ∀ h47 : PH, h47 = px_upI h38 r35 (x2).toNat (h38.2.1 a0 28) → (∀ h50 : PH, h50 = px_upI h47 a0 28 ((h47.2.1 a0 28) + 1) → (P h50))))))))))) : METv mX10_beginLife [vr a0, vi x1, vi x2] h0 (0, 0) P := by
  refine met_of_ex (by decide +kernel) (Nat.le_of_ble_eq_true rfl) ?_
  show EX mX10_beginLife 0 [some (vr a0), some (vi x1), some (vi x2)] [] h0 (0, 0) _
  refine ex_aload_n 1 dX10_beginLife_0 rfl rfl ?_
  obtain ⟨o1, hyp⟩ := hyp
  obtain ⟨r2, f3, hyp⟩ := hyp
  refine q_getR 10 29 4 dX10_beginLife_1 rfl fiX10_64 rfl o1 f3 ?_
  refine ex_aload_n 5 dX10_beginLife_4 rfl rfl ?_
  refine q_getI 10 28 8 dX10_beginLife_5 rfl fiX10_212 (Or.inl rfl) o1 ?_
  refine ex_iload_n 9 dX10_beginLife_8 rfl rfl ?_
  obtain ⟨o4, hyp⟩ := hyp
  refine ex_iast 10 dX10_beginLife_9 rfl o4 (fun h5 e6 => ?_)
  have hyp := hyp h5 e6
  refine ex_aload_n 11 dX10_beginLife_10 rfl rfl ?_
  have f7 := OB.of (KI e6) o1
  obtain ⟨r8, f9, hyp⟩ := hyp
  refine q_getR 10 30 14 dX10_beginLife_11 rfl fiX10_67 rfl f7 f9 ?_
  refine ex_aload_n 15 dX10_beginLife_14 rfl rfl ?_
  refine q_getI 10 28 18 dX10_beginLife_15 rfl fiX10_212 (Or.inl rfl) f7 ?_
  refine ex_iload_n 19 dX10_beginLife_18 rfl rfl ?_
  obtain ⟨o10, hyp⟩ := hyp
  refine ex_iast 20 dX10_beginLife_19 rfl o10 (fun h11 e12 => ?_)
  have hyp := hyp h11 e12
  refine ex_aload_n 21 dX10_beginLife_20 rfl rfl ?_
  have f13 := OB.of (KI e12) f7
  obtain ⟨r14, f15, hyp⟩ := hyp
  refine q_getR 10 31 24 dX10_beginLife_21 rfl fiX10_70 rfl f13 f15 ?_
  refine ex_aload_n 25 dX10_beginLife_24 rfl rfl ?_
  refine q_getI 10 28 28 dX10_beginLife_25 rfl fiX10_212 (Or.inl rfl) f13 ?_
  refine ex_iconst 29 dX10_beginLife_28 rfl ?_
  obtain ⟨o16, hyp⟩ := hyp
  refine ex_iast 30 dX10_beginLife_29 rfl o16 (fun h17 e18 => ?_)
  have hyp := hyp h17 e18
  refine ex_iload_n 31 dX10_beginLife_30 rfl rfl ?_
  refine ex_iconst 32 dX10_beginLife_31 rfl ?_
  obtain ⟨o19, hyp⟩ := hyp
  obtain ⟨ht, hf⟩ := hyp
  refine ex_icmp_eq 45 35 dX10_beginLife_32 (by decide) rfl o19 ⟨by decide, by decide⟩ (fun c53 => ?_) (fun c53 => ?_)
  · have hyp := ht c53
    clear ht hf
    refine ex_iload_n 46 dX10_beginLife_45 rfl rfl ?_
    refine ex_iconst 47 dX10_beginLife_46 rfl ?_
    obtain ⟨o20, hyp⟩ := hyp
    obtain ⟨ht, hf⟩ := hyp
    refine ex_icmp_eq 60 50 dX10_beginLife_47 (by decide) rfl o20 ⟨by decide, by decide⟩ (fun c33 => ?_) (fun c33 => ?_)
    · have hyp := ht c33
      clear ht hf
      refine ex_aload_n 61 dX10_beginLife_60 rfl rfl ?_
      refine ex_dup 62 dX10_beginLife_61 rfl rfl ?_
      have f21 := OB.of (KI e18) f13
      refine q_getI 10 28 65 dX10_beginLife_62 rfl fiX10_212 (Or.inl rfl) f21 ?_
      refine ex_iconst 66 dX10_beginLife_65 rfl ?_
      refine ex_iadd 67 dX10_beginLife_66 rfl ?_
      refine q_putI 10 28 70 dX10_beginLife_67 rfl fiX10_212 ff10_28 rfl f21 (fun h22 e23 => ?_)
      have hyp := hyp h22 e23
      exact ex_vret dX10_beginLife_70 rfl ⟨rfl, hyp⟩
    · have hyp := hf c33
      clear ht hf
      refine ex_aload_n 51 dX10_beginLife_50 rfl rfl ?_
      have f24 := OB.of (KI e18) f13
      obtain ⟨r25, f26, hyp⟩ := hyp
      refine q_getR 10 32 54 dX10_beginLife_51 rfl fiX10_73 rfl f24 f26 ?_
      refine ex_iload_n 55 dX10_beginLife_54 rfl rfl ?_
      refine ex_aload_n 56 dX10_beginLife_55 rfl rfl ?_
      refine q_getI 10 28 59 dX10_beginLife_56 rfl fiX10_212 (Or.inl rfl) f24 ?_
      obtain ⟨o27, hyp⟩ := hyp
      refine ex_iast 60 dX10_beginLife_59 rfl o27 (fun h28 e29 => ?_)
      have hyp := hyp h28 e29
      refine ex_aload_n 61 dX10_beginLife_60 rfl rfl ?_
      refine ex_dup 62 dX10_beginLife_61 rfl rfl ?_
      have f30 := OB.of (KI e29) f24
      refine q_getI 10 28 65 dX10_beginLife_62 rfl fiX10_212 (Or.inl rfl) f30 ?_
      refine ex_iconst 66 dX10_beginLife_65 rfl ?_
      refine ex_iadd 67 dX10_beginLife_66 rfl ?_
      refine q_putI 10 28 70 dX10_beginLife_67 rfl fiX10_212 ff10_28 rfl f30 (fun h31 e32 => ?_)
      have hyp := hyp h31 e32
      exact ex_vret dX10_beginLife_70 rfl ⟨rfl, hyp⟩
  · have hyp := hf c53
    clear ht hf
    refine ex_aload_n 36 dX10_beginLife_35 rfl rfl ?_
    have f34 := OB.of (KI e18) f13
    obtain ⟨r35, f36, hyp⟩ := hyp
    refine q_getR 10 32 39 dX10_beginLife_36 rfl fiX10_73 rfl f34 f36 ?_
    refine ex_iload_n 40 dX10_beginLife_39 rfl rfl ?_
    refine ex_aload_n 41 dX10_beginLife_40 rfl rfl ?_
    refine q_getI 10 28 44 dX10_beginLife_41 rfl fiX10_212 (Or.inl rfl) f34 ?_
    obtain ⟨o37, hyp⟩ := hyp
    refine ex_iast 45 dX10_beginLife_44 rfl o37 (fun h38 e39 => ?_)
    have hyp := hyp h38 e39
    refine ex_iload_n 46 dX10_beginLife_45 rfl rfl ?_
    refine ex_iconst 47 dX10_beginLife_46 rfl ?_
    obtain ⟨o40, hyp⟩ := hyp
    obtain ⟨ht, hf⟩ := hyp
    refine ex_icmp_eq 60 50 dX10_beginLife_47 (by decide) rfl o40 ⟨by decide, by decide⟩ (fun c52 => ?_) (fun c52 => ?_)
    · have hyp := ht c52
      clear ht hf
      refine ex_aload_n 61 dX10_beginLife_60 rfl rfl ?_
      refine ex_dup 62 dX10_beginLife_61 rfl rfl ?_
      have f41 := OB.of (KI e39) f34
      refine q_getI 10 28 65 dX10_beginLife_62 rfl fiX10_212 (Or.inl rfl) f41 ?_
      refine ex_iconst 66 dX10_beginLife_65 rfl ?_
      refine ex_iadd 67 dX10_beginLife_66 rfl ?_
      refine q_putI 10 28 70 dX10_beginLife_67 rfl fiX10_212 ff10_28 rfl f41 (fun h42 e43 => ?_)
      have hyp := hyp h42 e43
      exact ex_vret dX10_beginLife_70 rfl ⟨rfl, hyp⟩
    · have hyp := hf c52
      clear ht hf
      refine ex_aload_n 51 dX10_beginLife_50 rfl rfl ?_
      have f44 := OB.of (KI e39) f34
      have f45 := RI e39 f36
      refine q_getR 10 32 54 dX10_beginLife_51 rfl fiX10_73 rfl f44 f45 ?_
      refine ex_iload_n 55 dX10_beginLife_54 rfl rfl ?_
      refine ex_aload_n 56 dX10_beginLife_55 rfl rfl ?_
      refine q_getI 10 28 59 dX10_beginLife_56 rfl fiX10_212 (Or.inl rfl) f44 ?_
      obtain ⟨o46, hyp⟩ := hyp
      refine ex_iast 60 dX10_beginLife_59 rfl o46 (fun h47 e48 => ?_)
      have hyp := hyp h47 e48
      refine ex_aload_n 61 dX10_beginLife_60 rfl rfl ?_
      refine ex_dup 62 dX10_beginLife_61 rfl rfl ?_
      have f49 := OB.of (KI e48) f44
      refine q_getI 10 28 65 dX10_beginLife_62 rfl fiX10_212 (Or.inl rfl) f49 ?_
      refine ex_iconst 66 dX10_beginLife_65 rfl ?_
      refine ex_iadd 67 dX10_beginLife_66 rfl ?_
      refine q_putI 10 28 70 dX10_beginLife_67 rfl fiX10_212 ff10_28 rfl f49 (fun h50 e51 => ?_)
      have hyp := hyp h50 e51
      exact ex_vret dX10_beginLife_70 rfl ⟨rfl, hyp⟩
set_option maxRecDepth 4000 in
theorem tX10_layFirstLives {P : PH → Prop} (h0 : PH) (a0 : Nat) (hyp : OB h0 10 a0 ∧ METv mX10_layPairs [vr a0] h0 (0, 0) (fun h2 => h2.1 = h0.1 → (∀ h5 : PH, h5 = px_upI h2 a0 28 0 → (EXv mX10_layFirstLives 11 [some (vr a0), some (vi 0)] [] h5 (0, 0) P)))) : METv mX10_layFirstLives [vr a0] h0 (0, 0) P := by
  refine met_of_ex (by decide +kernel) (Nat.le_of_ble_eq_true rfl) ?_
  show EX mX10_layFirstLives 0 [some (vr a0), none] [] h0 (0, 0) _
  refine ex_aload_n 1 dX10_layFirstLives_0 rfl rfl ?_
  obtain ⟨o1, hyp⟩ := hyp
  refine q_callVv [] 4 dX10_layFirstLives_1 rfl cvX10_215 rfl rfl ⟨Nat.le_of_ble_eq_true rfl, Nat.le_of_ble_eq_true rfl⟩ (Nat.le_of_ble_eq_true rfl) o1 hyp (fun h2 k3 hyp => ?_)
  refine ex_aload_n 5 dX10_layFirstLives_4 rfl rfl ?_
  refine ex_iconst 6 dX10_layFirstLives_5 rfl ?_
  have f4 := OB.of k3 o1
  refine q_putI 10 28 9 dX10_layFirstLives_6 rfl fiX10_212 ff10_28 rfl f4 (fun h5 e6 => ?_)
  have hyp := hyp h5 e6
  refine ex_iconst 10 dX10_layFirstLives_9 rfl ?_
  refine q_istore_n [some (vr a0), some (vi 0)] 11 dX10_layFirstLives_10 rfl (Nat.le_of_ble_eq_true rfl) rfl rfl ?_
  exact hyp
set_option maxRecDepth 4000 in
theorem tX10_layFirstLives_11 {P : PH → Prop} (h0 : PH) (a0 : Nat) (x1 : Int) (hyp : OB h0 10 a0 ∧ rng x1 ∧ rng (h0.2.1 a0 20) ∧ (h0.2.1 a0 20 ≤ x1 → (EXv mX10_layFirstLives 48 [some (vr a0), some (vi 0)] [] h0 (0, 0) P)) ∧ (x1 < h0.2.1 a0 20 → (∃ r4 : Nat, h0.2.2 a0 22 = some r4 ∧ AI h0 20 r4 x1 ∧ ∃ r7 : Nat, h0.2.2 a0 25 = some r7 ∧ AI h0 20 r7 (h0.2.1 r4 (x1).toNat) ∧ METv mX10_beginLife [vr a0, vi (h0.2.1 r4 (x1).toNat), vi (h0.2.1 r7 (h0.2.1 r4 (x1).toNat).toNat)] h0 (0, 0) (fun h10 => h10.1 = h0.1 → (EXv mX10_layFirstLives 11 [some (vr a0), some (vi (x1 + 1))] [] h10 (0, 0) P))))) : EXv mX10_layFirstLives 11 [some (vr a0), some (vi x1)] [] h0 (0, 0) P := by
  refine ex_iload_n 12 dX10_layFirstLives_11 rfl rfl ?_
  refine ex_aload_n 13 dX10_layFirstLives_12 rfl rfl ?_
  obtain ⟨o1, hyp⟩ := hyp
  refine q_getI 10 20 16 dX10_layFirstLives_13 rfl fiX10_191 (Or.inl rfl) o1 ?_
  obtain ⟨o2, hyp⟩ := hyp
  obtain ⟨o3, hyp⟩ := hyp
  obtain ⟨ht, hf⟩ := hyp
  refine ex_icmp_ge 46 19 dX10_layFirstLives_16 (by decide) rfl o2 o3 (fun c12 => ?_) (fun c12 => ?_)
  · have hyp := ht c12
    clear ht hf
    refine ex_iconst 47 dX10_layFirstLives_46 rfl ?_
    refine q_istore_n [some (vr a0), some (vi 0)] 48 dX10_layFirstLives_47 rfl (Nat.le_of_ble_eq_true rfl) rfl rfl ?_
    exact hyp
  · have hyp := hf c12
    clear ht hf
    refine ex_aload_n 20 dX10_layFirstLives_19 rfl rfl ?_
    refine ex_aload_n 21 dX10_layFirstLives_20 rfl rfl ?_
    obtain ⟨r4, f5, hyp⟩ := hyp
    refine q_getR 10 22 24 dX10_layFirstLives_21 rfl fiX10_52 rfl o1 f5 ?_
    refine ex_iload_n 25 dX10_layFirstLives_24 rfl rfl ?_
    obtain ⟨o6, hyp⟩ := hyp
    refine ex_iald 26 dX10_layFirstLives_25 rfl o6 ?_
    refine ex_aload_n 27 dX10_layFirstLives_26 rfl rfl ?_
    obtain ⟨r7, f8, hyp⟩ := hyp
    refine q_getR 10 25 30 dX10_layFirstLives_27 rfl fiX10_61 rfl o1 f8 ?_
    refine ex_aload_n 31 dX10_layFirstLives_30 rfl rfl ?_
    refine q_getR 10 22 34 dX10_layFirstLives_31 rfl fiX10_52 rfl o1 f5 ?_
    refine ex_iload_n 35 dX10_layFirstLives_34 rfl rfl ?_
    refine ex_iald 36 dX10_layFirstLives_35 rfl o6 ?_
    obtain ⟨o9, hyp⟩ := hyp
    refine ex_iald 37 dX10_layFirstLives_36 rfl o9 ?_
    refine q_callVv [vi (h0.2.1 r4 (x1).toNat), vi (h0.2.1 r7 (h0.2.1 r4 (x1).toNat).toNat)] 40 dX10_layFirstLives_37 rfl cvX10_218 rfl rfl ⟨Nat.le_of_ble_eq_true rfl, Nat.le_of_ble_eq_true rfl⟩ (Nat.le_of_ble_eq_true rfl) o1 hyp (fun h10 k11 hyp => ?_)
    refine q_iinc [some (vr a0), some (vi (x1 + 1))] 43 dX10_layFirstLives_40 rfl rfl (Nat.le_of_ble_eq_true rfl) rfl rfl ?_
    refine ex_goto 11 dX10_layFirstLives_43 (by decide) ?_
    exact hyp
set_option maxRecDepth 4000 in
theorem tX10_layFirstLives_48 {P : PH → Prop} (h0 : PH) (a0 : Nat) (x1 : Int) (hyp : OB h0 10 a0 ∧ rng x1 ∧ rng (h0.2.1 a0 21) ∧ (h0.2.1 a0 21 ≤ x1 → (EXv mX10_layFirstLives 90 [some (vr a0), some (vi 0)] [] h0 (0, 0) P)) ∧ (x1 < h0.2.1 a0 21 → (∃ r4 : Nat, h0.2.2 a0 25 = some r4 ∧ ∃ r6 : Nat, h0.2.2 a0 23 = some r6 ∧ AI h0 20 r6 x1 ∧ AI h0 20 r4 (h0.2.1 r6 (x1).toNat) ∧ rng (h0.2.1 r4 (h0.2.1 r6 (x1).toNat).toNat) ∧ (¬ h0.2.1 r4 (h0.2.1 r6 (x1).toNat).toNat = (-1) → (EXv mX10_layFirstLives 48 [some (vr a0), some (vi (x1 + 1))] [] h0 (0, 0) P)) ∧ (h0.2.1 r4 (h0.2.1 r6 (x1).toNat).toNat = (-1) → (METv mX10_beginLife [vr a0, vi (-1), vi (h0.2.1 r6 (x1).toNat)] h0 (0, 0) (fun h11 => h11.1 = h0.1 → (EXv mX10_layFirstLives 48 [some (vr a0), some (vi (x1 + 1))] [] h11 (0, 0) P))))))) : EXv mX10_layFirstLives 48 [some (vr a0), some (vi x1)] [] h0 (0, 0) P := by
  refine ex_iload_n 49 dX10_layFirstLives_48 rfl rfl ?_
  refine ex_aload_n 50 dX10_layFirstLives_49 rfl rfl ?_
  obtain ⟨o1, hyp⟩ := hyp
  refine q_getI 10 21 53 dX10_layFirstLives_50 rfl fiX10_194 (Or.inl rfl) o1 ?_
  obtain ⟨o2, hyp⟩ := hyp
  obtain ⟨o3, hyp⟩ := hyp
  obtain ⟨ht, hf⟩ := hyp
  refine ex_icmp_ge 88 56 dX10_layFirstLives_53 (by decide) rfl o2 o3 (fun c14 => ?_) (fun c14 => ?_)
  · have hyp := ht c14
    clear ht hf
    refine ex_iconst 89 dX10_layFirstLives_88 rfl ?_
    refine q_istore_n [some (vr a0), some (vi 0)] 90 dX10_layFirstLives_89 rfl (Nat.le_of_ble_eq_true rfl) rfl rfl ?_
    exact hyp
  · have hyp := hf c14
    clear ht hf
    refine ex_aload_n 57 dX10_layFirstLives_56 rfl rfl ?_
    obtain ⟨r4, f5, hyp⟩ := hyp
    refine q_getR 10 25 60 dX10_layFirstLives_57 rfl fiX10_61 rfl o1 f5 ?_
    refine ex_aload_n 61 dX10_layFirstLives_60 rfl rfl ?_
    obtain ⟨r6, f7, hyp⟩ := hyp
    refine q_getR 10 23 64 dX10_layFirstLives_61 rfl fiX10_55 rfl o1 f7 ?_
    refine ex_iload_n 65 dX10_layFirstLives_64 rfl rfl ?_
    obtain ⟨o8, hyp⟩ := hyp
    refine ex_iald 66 dX10_layFirstLives_65 rfl o8 ?_
    obtain ⟨o9, hyp⟩ := hyp
    refine ex_iald 67 dX10_layFirstLives_66 rfl o9 ?_
    refine ex_iconst 68 dX10_layFirstLives_67 rfl ?_
    obtain ⟨o10, hyp⟩ := hyp
    obtain ⟨ht, hf⟩ := hyp
    refine ex_icmp_ne 82 71 dX10_layFirstLives_68 (by decide) rfl o10 ⟨by decide, by decide⟩ (fun c13 => ?_) (fun c13 => ?_)
    · have hyp := ht c13
      clear ht hf
      refine q_iinc [some (vr a0), some (vi (x1 + 1))] 85 dX10_layFirstLives_82 rfl rfl (Nat.le_of_ble_eq_true rfl) rfl rfl ?_
      refine ex_goto 48 dX10_layFirstLives_85 (by decide) ?_
      exact hyp
    · have hyp := hf c13
      clear ht hf
      refine ex_aload_n 72 dX10_layFirstLives_71 rfl rfl ?_
      refine ex_iconst 73 dX10_layFirstLives_72 rfl ?_
      refine ex_aload_n 74 dX10_layFirstLives_73 rfl rfl ?_
      refine q_getR 10 23 77 dX10_layFirstLives_74 rfl fiX10_55 rfl o1 f7 ?_
      refine ex_iload_n 78 dX10_layFirstLives_77 rfl rfl ?_
      refine ex_iald 79 dX10_layFirstLives_78 rfl o8 ?_
      refine q_callVv [vi (-1), vi (h0.2.1 r6 (x1).toNat)] 82 dX10_layFirstLives_79 rfl cvX10_218 rfl rfl ⟨Nat.le_of_ble_eq_true rfl, Nat.le_of_ble_eq_true rfl⟩ (Nat.le_of_ble_eq_true rfl) o1 hyp (fun h11 k12 hyp => ?_)
      refine q_iinc [some (vr a0), some (vi (x1 + 1))] 85 dX10_layFirstLives_82 rfl rfl (Nat.le_of_ble_eq_true rfl) rfl rfl ?_
      refine ex_goto 48 dX10_layFirstLives_85 (by decide) ?_
      exact hyp
set_option maxRecDepth 4000 in
theorem tX10_layFirstLives_90 {P : PH → Prop} (h0 : PH) (a0 : Nat) (x1 : Int) (hyp : OB h0 10 a0 ∧ rng x1 ∧ rng (h0.2.1 a0 2) ∧ (h0.2.1 a0 2 ≤ x1 → (P h0)) ∧ (x1 < h0.2.1 a0 2 → (∃ r4 : Nat, h0.2.2 a0 32 = some r4 ∧ ∃ r6 : Nat, h0.2.2 a0 3 = some r6 ∧ AI h0 20 r6 x1 ∧ rng (h0.2.1 r6 (x1).toNat) ∧ (¬ h0.2.1 r6 (x1).toNat = 1 → (AI h0 20 r4 x1 ∧ ∀ h11 : PH, h11 = px_upI h0 r4 (x1).toNat (h0.2.1 r4 (x1).toNat) → (EXv mX10_layFirstLives 90 [some (vr a0), some (vi (x1 + 1))] [] h11 (0, 0) P))) ∧ (h0.2.1 r6 (x1).toNat = 1 → (AI h0 20 r4 x1 ∧ ∀ h14 : PH, h14 = px_upI h0 r4 (x1).toNat (-1) → (EXv mX10_layFirstLives 90 [some (vr a0), some (vi (x1 + 1))] [] h14 (0, 0) P)))))) : EXv mX10_layFirstLives 90 [some (vr a0), some (vi x1)] [] h0 (0, 0) P := by
  refine ex_iload_n 91 dX10_layFirstLives_90 rfl rfl ?_
  refine ex_aload_n 92 dX10_layFirstLives_91 rfl rfl ?_
  obtain ⟨o1, hyp⟩ := hyp
  refine q_getI 10 2 95 dX10_layFirstLives_92 rfl fiX10_118 (Or.inl rfl) o1 ?_
  obtain ⟨o2, hyp⟩ := hyp
  obtain ⟨o3, hyp⟩ := hyp
  obtain ⟨ht, hf⟩ := hyp
  refine ex_icmp_ge 130 98 dX10_layFirstLives_95 (by decide) rfl o2 o3 (fun c17 => ?_) (fun c17 => ?_)
  · have hyp := ht c17
    clear ht hf
    exact ex_vret dX10_layFirstLives_130 rfl ⟨rfl, hyp⟩
  · have hyp := hf c17
    clear ht hf
    refine ex_aload_n 99 dX10_layFirstLives_98 rfl rfl ?_
    obtain ⟨r4, f5, hyp⟩ := hyp
    refine q_getR 10 32 102 dX10_layFirstLives_99 rfl fiX10_73 rfl o1 f5 ?_
    refine ex_iload_n 103 dX10_layFirstLives_102 rfl rfl ?_
    refine ex_aload_n 104 dX10_layFirstLives_103 rfl rfl ?_
    obtain ⟨r6, f7, hyp⟩ := hyp
    refine q_getR 10 3 107 dX10_layFirstLives_104 rfl fiX10_13 rfl o1 f7 ?_
    refine ex_iload_n 108 dX10_layFirstLives_107 rfl rfl ?_
    obtain ⟨o8, hyp⟩ := hyp
    refine ex_iald 109 dX10_layFirstLives_108 rfl o8 ?_
    refine ex_iconst 110 dX10_layFirstLives_109 rfl ?_
    obtain ⟨o9, hyp⟩ := hyp
    obtain ⟨ht, hf⟩ := hyp
    refine ex_icmp_ne 117 113 dX10_layFirstLives_110 (by decide) rfl o9 ⟨by decide, by decide⟩ (fun c16 => ?_) (fun c16 => ?_)
    · have hyp := ht c16
      clear ht hf
      refine ex_aload_n 118 dX10_layFirstLives_117 rfl rfl ?_
      refine q_getR 10 32 121 dX10_layFirstLives_118 rfl fiX10_73 rfl o1 f5 ?_
      refine ex_iload_n 122 dX10_layFirstLives_121 rfl rfl ?_
      obtain ⟨o10, hyp⟩ := hyp
      refine ex_iald 123 dX10_layFirstLives_122 rfl o10 ?_
      refine ex_iast 124 dX10_layFirstLives_123 rfl o10 (fun h11 e12 => ?_)
      have hyp := hyp h11 e12
      refine q_iinc [some (vr a0), some (vi (x1 + 1))] 127 dX10_layFirstLives_124 rfl rfl (Nat.le_of_ble_eq_true rfl) rfl rfl ?_
      refine ex_goto 90 dX10_layFirstLives_127 (by decide) ?_
      exact hyp
    · have hyp := hf c16
      clear ht hf
      refine ex_iconst 114 dX10_layFirstLives_113 rfl ?_
      refine ex_goto 123 dX10_layFirstLives_114 (by decide) ?_
      obtain ⟨o13, hyp⟩ := hyp
      refine ex_iast 124 dX10_layFirstLives_123 rfl o13 (fun h14 e15 => ?_)
      have hyp := hyp h14 e15
      refine q_iinc [some (vr a0), some (vi (x1 + 1))] 127 dX10_layFirstLives_124 rfl rfl (Nat.le_of_ble_eq_true rfl) rfl rfl ?_
      refine ex_goto 90 dX10_layFirstLives_127 (by decide) ?_
      exact hyp
set_option maxRecDepth 4000 in
theorem tX10_isOf {P : Int → PH → Prop} (h0 : PH) (a0 : Nat) (x1 : Int) (x2 : Int) (hyp : OB h0 10 a0 ∧ ∃ r2 : Nat, h0.2.2 a0 32 = some r2 ∧ AI h0 20 r2 x1 ∧ rng (h0.2.1 r2 (x1).toNat) ∧ rng x2 ∧ (¬ h0.2.1 r2 (x1).toNat = x2 → (P 0 h0)) ∧ (h0.2.1 r2 (x1).toNat = x2 → (P 1 h0))) : METi mX10_isOf [vr a0, vi x1, vi x2] h0 P := by
  refine met_of_ex (by decide +kernel) (Nat.le_of_ble_eq_true rfl) ?_
  show EX mX10_isOf 0 [some (vr a0), some (vi x1), some (vi x2)] [] h0 (0, 0) _
  refine ex_aload_n 1 dX10_isOf_0 rfl rfl ?_
  obtain ⟨o1, hyp⟩ := hyp
  obtain ⟨r2, f3, hyp⟩ := hyp
  refine q_getR 10 32 4 dX10_isOf_1 rfl fiX10_73 rfl o1 f3 ?_
  refine ex_iload_n 5 dX10_isOf_4 rfl rfl ?_
  obtain ⟨o4, hyp⟩ := hyp
  refine ex_iald 6 dX10_isOf_5 rfl o4 ?_
  refine ex_iload_n 7 dX10_isOf_6 rfl rfl ?_
  obtain ⟨o5, hyp⟩ := hyp
  obtain ⟨o6, hyp⟩ := hyp
  obtain ⟨ht, hf⟩ := hyp
  refine ex_icmp_ne 14 10 dX10_isOf_7 (by decide) rfl o5 o6 (fun c7 => ?_) (fun c7 => ?_)
  · have hyp := ht c7
    clear ht hf
    refine ex_iconst 15 dX10_isOf_14 rfl ?_
    exact ex_iret dX10_isOf_15 (Or.inr ⟨rfl, Or.inl rfl⟩) ⟨_, rfl, hyp⟩
  · have hyp := hf c7
    clear ht hf
    refine ex_iconst 11 dX10_isOf_10 rfl ?_
    refine ex_goto 15 dX10_isOf_11 (by decide) ?_
    exact ex_iret dX10_isOf_15 (Or.inr ⟨rfl, Or.inr rfl⟩) ⟨_, rfl, hyp⟩
set_option maxRecDepth 4000 in
theorem tX10_canGo {P : Int → PH → Prop} (h0 : PH) (a0 : Nat) (x1 : Int) (x2 : Int) (hyp : OB h0 10 a0 ∧ ∃ r2 : Nat, h0.2.2 a0 31 = some r2 ∧ AI h0 20 r2 x2 ∧ rng (h0.2.1 r2 (x2).toNat) ∧ (3 ≤ h0.2.1 r2 (x2).toNat → (EXi mX10_canGo 19 [some (vr a0), some (vi x1), some (vi x2), some (vi 0), some (vi 0)] [] h0 P)) ∧ (h0.2.1 r2 (x2).toNat < 3 → (EXi mX10_canGo 19 [some (vr a0), some (vi x1), some (vi x2), some (vi 1), some (vi 0)] [] h0 P))) : METi mX10_canGo [vr a0, vi x1, vi x2] h0 P := by
  refine met_of_ex (by decide +kernel) (Nat.le_of_ble_eq_true rfl) ?_
  show EX mX10_canGo 0 [some (vr a0), some (vi x1), some (vi x2), none, none] [] h0 (0, 0) _
  refine ex_aload_n 1 dX10_canGo_0 rfl rfl ?_
  obtain ⟨o1, hyp⟩ := hyp
  obtain ⟨r2, f3, hyp⟩ := hyp
  refine q_getR 10 31 4 dX10_canGo_1 rfl fiX10_70 rfl o1 f3 ?_
  refine ex_iload_n 5 dX10_canGo_4 rfl rfl ?_
  obtain ⟨o4, hyp⟩ := hyp
  refine ex_iald 6 dX10_canGo_5 rfl o4 ?_
  refine ex_iconst 7 dX10_canGo_6 rfl ?_
  obtain ⟨o5, hyp⟩ := hyp
  obtain ⟨ht, hf⟩ := hyp
  refine ex_icmp_ge 14 10 dX10_canGo_7 (by decide) rfl o5 ⟨by decide, by decide⟩ (fun c6 => ?_) (fun c6 => ?_)
  · have hyp := ht c6
    clear ht hf
    refine ex_iconst 15 dX10_canGo_14 rfl ?_
    refine q_istore_n [some (vr a0), some (vi x1), some (vi x2), some (vi 0), none] 16 dX10_canGo_15 rfl (Nat.le_of_ble_eq_true rfl) rfl rfl ?_
    refine ex_iconst 17 dX10_canGo_16 rfl ?_
    refine q_istore [some (vr a0), some (vi x1), some (vi x2), some (vi 0), some (vi 0)] 19 dX10_canGo_17 rfl (Nat.le_of_ble_eq_true rfl) rfl rfl ?_
    exact hyp
  · have hyp := hf c6
    clear ht hf
    refine ex_iconst 11 dX10_canGo_10 rfl ?_
    refine ex_goto 15 dX10_canGo_11 (by decide) ?_
    refine q_istore_n [some (vr a0), some (vi x1), some (vi x2), some (vi 1), none] 16 dX10_canGo_15 rfl (Nat.le_of_ble_eq_true rfl) rfl rfl ?_
    refine ex_iconst 17 dX10_canGo_16 rfl ?_
    refine q_istore [some (vr a0), some (vi x1), some (vi x2), some (vi 1), some (vi 0)] 19 dX10_canGo_17 rfl (Nat.le_of_ble_eq_true rfl) rfl rfl ?_
    exact hyp
set_option maxRecDepth 4000 in
theorem tX10_canGo_19 {P : Int → PH → Prop} (h0 : PH) (a0 : Nat) (x1 : Int) (x2 : Int) (x3 : Int) (x4 : Int) (hyp : OB h0 10 a0 ∧ rng x4 ∧ rng (h0.2.1 a0 2) ∧ (h0.2.1 a0 2 ≤ x4 → ((x3 = 0 ∨ x3 = 1) ∧ P x3 h0)) ∧ (x4 < h0.2.1 a0 2 → (rng x3 ∧ (x3 = 0 → (EXi mX10_canGo 19 [some (vr a0), some (vi x1), some (vi x2), some (vi 0), some (vi (x4 + 1))] [] h0 P)) ∧ (¬ x3 = 0 → (METi mX10_isOf [vr a0, vi x4, vi x2] h0 (fun y7 h5 => h5.1 = h0.1 → (rng y7 ∧ (y7 = 0 → (EXi mX10_canGo 19 [some (vr a0), some (vi x1), some (vi x2), some (vi 1), some (vi (x4 + 1))] [] h5 P)) ∧ (¬ y7 = 0 → (METi mX10_isFit [vr a0, vi x1, vi x4] h5 (fun y12 h10 => h10.1 = h5.1 → (rng y12 ∧ (y12 = 0 → (EXi mX10_canGo 19 [some (vr a0), some (vi x1), some (vi x2), some (vi 0), some (vi (x4 + 1))] [] h10 P)) ∧ (¬ y12 = 0 → (EXi mX10_canGo 19 [some (vr a0), some (vi x1), some (vi x2), some (vi 1), some (vi (x4 + 1))] [] h10 P))))))))))))) : EXi mX10_canGo 19 [some (vr a0), some (vi x1), some (vi x2), some (vi x3), some (vi x4)] [] h0 P := by
  refine ex_iload 21 dX10_canGo_19 rfl rfl ?_
  refine ex_aload_n 22 dX10_canGo_21 rfl rfl ?_
  obtain ⟨o1, hyp⟩ := hyp
  refine q_getI 10 2 25 dX10_canGo_22 rfl fiX10_118 (Or.inl rfl) o1 ?_
  obtain ⟨o2, hyp⟩ := hyp
  obtain ⟨o3, hyp⟩ := hyp
  obtain ⟨ht, hf⟩ := hyp
  refine ex_icmp_ge 64 28 dX10_canGo_25 (by decide) rfl o2 o3 (fun c17 => ?_) (fun c17 => ?_)
  · have hyp := ht c17
    clear ht hf
    refine ex_iload_n 65 dX10_canGo_64 rfl rfl ?_
    exact ex_iret dX10_canGo_65 (Or.inr ⟨rfl, hyp.1⟩) ⟨_, rfl, hyp.2⟩
  · have hyp := hf c17
    clear ht hf
    refine ex_iload_n 29 dX10_canGo_28 rfl rfl ?_
    obtain ⟨o4, hyp⟩ := hyp
    obtain ⟨ht, hf⟩ := hyp
    refine ex_if_eq 56 32 dX10_canGo_29 (by decide) rfl o4 (fun c16 => ?_) (fun c16 => ?_)
    · have hyp := ht c16
      clear ht hf
      refine ex_iconst 57 dX10_canGo_56 rfl ?_
      refine q_istore_n [some (vr a0), some (vi x1), some (vi x2), some (vi 0), some (vi x4)] 58 dX10_canGo_57 rfl (Nat.le_of_ble_eq_true rfl) rfl rfl ?_
      refine q_iinc [some (vr a0), some (vi x1), some (vi x2), some (vi 0), some (vi (x4 + 1))] 61 dX10_canGo_58 rfl rfl (Nat.le_of_ble_eq_true rfl) rfl rfl ?_
      refine ex_goto 19 dX10_canGo_61 (by decide) ?_
      exact hyp
    · have hyp := hf c16
      clear ht hf
      refine ex_aload_n 33 dX10_canGo_32 rfl rfl ?_
      refine ex_iload 35 dX10_canGo_33 rfl rfl ?_
      refine ex_iload_n 36 dX10_canGo_35 rfl rfl ?_
      refine q_callVi [vi x4, vi x2] 39 dX10_canGo_36 rfl cvX10_222 rfl rfl ⟨Nat.le_of_ble_eq_true rfl, Nat.le_of_ble_eq_true rfl⟩ (Nat.le_of_ble_eq_true rfl) o1 hyp (fun y7 h5 k6 hyp => ?_)
      obtain ⟨o8, hyp⟩ := hyp
      obtain ⟨ht, hf⟩ := hyp
      refine ex_if_eq 52 42 dX10_canGo_39 (by decide) rfl o8 (fun c15 => ?_) (fun c15 => ?_)
      · have hyp := ht c15
        clear ht hf
        refine ex_iconst 53 dX10_canGo_52 rfl ?_
        refine ex_goto 57 dX10_canGo_53 (by decide) ?_
        refine q_istore_n [some (vr a0), some (vi x1), some (vi x2), some (vi 1), some (vi x4)] 58 dX10_canGo_57 rfl (Nat.le_of_ble_eq_true rfl) rfl rfl ?_
        refine q_iinc [some (vr a0), some (vi x1), some (vi x2), some (vi 1), some (vi (x4 + 1))] 61 dX10_canGo_58 rfl rfl (Nat.le_of_ble_eq_true rfl) rfl rfl ?_
        refine ex_goto 19 dX10_canGo_61 (by decide) ?_
        exact hyp
      · have hyp := hf c15
        clear ht hf
        refine ex_aload_n 43 dX10_canGo_42 rfl rfl ?_
        refine ex_iload_n 44 dX10_canGo_43 rfl rfl ?_
        refine ex_iload 46 dX10_canGo_44 rfl rfl ?_
        have f9 := OB.of k6 o1
        refine q_callVi [vi x1, vi x4] 49 dX10_canGo_46 rfl cvX10_172 rfl rfl ⟨Nat.le_of_ble_eq_true rfl, Nat.le_of_ble_eq_true rfl⟩ (Nat.le_of_ble_eq_true rfl) f9 hyp (fun y12 h10 k11 hyp => ?_)
        obtain ⟨o13, hyp⟩ := hyp
        obtain ⟨ht, hf⟩ := hyp
        refine ex_if_eq 56 52 dX10_canGo_49 (by decide) rfl o13 (fun c14 => ?_) (fun c14 => ?_)
        · have hyp := ht c14
          clear ht hf
          refine ex_iconst 57 dX10_canGo_56 rfl ?_
          refine q_istore_n [some (vr a0), some (vi x1), some (vi x2), some (vi 0), some (vi x4)] 58 dX10_canGo_57 rfl (Nat.le_of_ble_eq_true rfl) rfl rfl ?_
          refine q_iinc [some (vr a0), some (vi x1), some (vi x2), some (vi 0), some (vi (x4 + 1))] 61 dX10_canGo_58 rfl rfl (Nat.le_of_ble_eq_true rfl) rfl rfl ?_
          refine ex_goto 19 dX10_canGo_61 (by decide) ?_
          exact hyp
        · have hyp := hf c14
          clear ht hf
          refine ex_iconst 53 dX10_canGo_52 rfl ?_
          refine ex_goto 57 dX10_canGo_53 (by decide) ?_
          refine q_istore_n [some (vr a0), some (vi x1), some (vi x2), some (vi 1), some (vi x4)] 58 dX10_canGo_57 rfl (Nat.le_of_ble_eq_true rfl) rfl rfl ?_
          refine q_iinc [some (vr a0), some (vi x1), some (vi x2), some (vi 1), some (vi (x4 + 1))] 61 dX10_canGo_58 rfl rfl (Nat.le_of_ble_eq_true rfl) rfl rfl ?_
          refine ex_goto 19 dX10_canGo_61 (by decide) ?_
          exact hyp
set_option maxRecDepth 4000 in
theorem tX10_worthAt {P : Int → PH → Prop} (h0 : PH) (a0 : Nat) (x1 : Int) (x2 : Int) (hyp : OB h0 10 a0 ∧ ∃ r2 : Nat, h0.2.2 a0 29 = some r2 ∧ AI h0 20 r2 x2 ∧ rng (h0.2.1 r2 (x2).toNat) ∧ (¬ h0.2.1 r2 (x2).toNat = (-1) → (EXi mX10_worthAt 35 [some (vr a0), some (vi x1), some (vi x2), some (vi 0), some (vi 0), some (vi 0), some (vi 0)] [] h0 P)) ∧ (h0.2.1 r2 (x2).toNat = (-1) → (∃ r6 : Nat, h0.2.2 a0 30 = some r6 ∧ AI h0 20 r6 x2 ∧ rng (h0.2.1 r6 (x2).toNat) ∧ (¬ h0.2.1 r6 (x2).toNat = (-1) → (EXi mX10_worthAt 35 [some (vr a0), some (vi x1), some (vi x2), some (vi 0), some (vi 0), some (vi 0), some (vi 0)] [] h0 P)) ∧ (h0.2.1 r6 (x2).toNat = (-1) → (EXi mX10_worthAt 35 [some (vr a0), some (vi x1), some (vi x2), some (vi 1), some (vi 0), some (vi 0), some (vi 0)] [] h0 P))))) : METi mX10_worthAt [vr a0, vi x1, vi x2] h0 P := by
  refine met_of_ex (by decide +kernel) (Nat.le_of_ble_eq_true rfl) ?_
  show EX mX10_worthAt 0 [some (vr a0), some (vi x1), some (vi x2), none, none, none, none] [] h0 (0, 0) _
  refine ex_aload_n 1 dX10_worthAt_0 rfl rfl ?_
  obtain ⟨o1, hyp⟩ := hyp
  obtain ⟨r2, f3, hyp⟩ := hyp
  refine q_getR 10 29 4 dX10_worthAt_1 rfl fiX10_64 rfl o1 f3 ?_
  refine ex_iload_n 5 dX10_worthAt_4 rfl rfl ?_
  obtain ⟨o4, hyp⟩ := hyp
  refine ex_iald 6 dX10_worthAt_5 rfl o4 ?_
  refine ex_iconst 7 dX10_worthAt_6 rfl ?_
  obtain ⟨o5, hyp⟩ := hyp
  obtain ⟨ht, hf⟩ := hyp
  refine ex_icmp_ne 24 10 dX10_worthAt_7 (by decide) rfl o5 ⟨by decide, by decide⟩ (fun c11 => ?_) (fun c11 => ?_)
  · have hyp := ht c11
    clear ht hf
    refine ex_iconst 25 dX10_worthAt_24 rfl ?_
    refine q_istore_n [some (vr a0), some (vi x1), some (vi x2), some (vi 0), none, none, none] 26 dX10_worthAt_25 rfl (Nat.le_of_ble_eq_true rfl) rfl rfl ?_
    refine ex_iconst 27 dX10_worthAt_26 rfl ?_
    refine q_istore [some (vr a0), some (vi x1), some (vi x2), some (vi 0), some (vi 0), none, none] 29 dX10_worthAt_27 rfl (Nat.le_of_ble_eq_true rfl) rfl rfl ?_
    refine ex_iconst 30 dX10_worthAt_29 rfl ?_
    refine q_istore [some (vr a0), some (vi x1), some (vi x2), some (vi 0), some (vi 0), some (vi 0), none] 32 dX10_worthAt_30 rfl (Nat.le_of_ble_eq_true rfl) rfl rfl ?_
    refine ex_iconst 33 dX10_worthAt_32 rfl ?_
    refine q_istore [some (vr a0), some (vi x1), some (vi x2), some (vi 0), some (vi 0), some (vi 0), some (vi 0)] 35 dX10_worthAt_33 rfl (Nat.le_of_ble_eq_true rfl) rfl rfl ?_
    exact hyp
  · have hyp := hf c11
    clear ht hf
    refine ex_aload_n 11 dX10_worthAt_10 rfl rfl ?_
    obtain ⟨r6, f7, hyp⟩ := hyp
    refine q_getR 10 30 14 dX10_worthAt_11 rfl fiX10_67 rfl o1 f7 ?_
    refine ex_iload_n 15 dX10_worthAt_14 rfl rfl ?_
    obtain ⟨o8, hyp⟩ := hyp
    refine ex_iald 16 dX10_worthAt_15 rfl o8 ?_
    refine ex_iconst 17 dX10_worthAt_16 rfl ?_
    obtain ⟨o9, hyp⟩ := hyp
    obtain ⟨ht, hf⟩ := hyp
    refine ex_icmp_ne 24 20 dX10_worthAt_17 (by decide) rfl o9 ⟨by decide, by decide⟩ (fun c10 => ?_) (fun c10 => ?_)
    · have hyp := ht c10
      clear ht hf
      refine ex_iconst 25 dX10_worthAt_24 rfl ?_
      refine q_istore_n [some (vr a0), some (vi x1), some (vi x2), some (vi 0), none, none, none] 26 dX10_worthAt_25 rfl (Nat.le_of_ble_eq_true rfl) rfl rfl ?_
      refine ex_iconst 27 dX10_worthAt_26 rfl ?_
      refine q_istore [some (vr a0), some (vi x1), some (vi x2), some (vi 0), some (vi 0), none, none] 29 dX10_worthAt_27 rfl (Nat.le_of_ble_eq_true rfl) rfl rfl ?_
      refine ex_iconst 30 dX10_worthAt_29 rfl ?_
      refine q_istore [some (vr a0), some (vi x1), some (vi x2), some (vi 0), some (vi 0), some (vi 0), none] 32 dX10_worthAt_30 rfl (Nat.le_of_ble_eq_true rfl) rfl rfl ?_
      refine ex_iconst 33 dX10_worthAt_32 rfl ?_
      refine q_istore [some (vr a0), some (vi x1), some (vi x2), some (vi 0), some (vi 0), some (vi 0), some (vi 0)] 35 dX10_worthAt_33 rfl (Nat.le_of_ble_eq_true rfl) rfl rfl ?_
      exact hyp
    · have hyp := hf c10
      clear ht hf
      refine ex_iconst 21 dX10_worthAt_20 rfl ?_
      refine ex_goto 25 dX10_worthAt_21 (by decide) ?_
      refine q_istore_n [some (vr a0), some (vi x1), some (vi x2), some (vi 1), none, none, none] 26 dX10_worthAt_25 rfl (Nat.le_of_ble_eq_true rfl) rfl rfl ?_
      refine ex_iconst 27 dX10_worthAt_26 rfl ?_
      refine q_istore [some (vr a0), some (vi x1), some (vi x2), some (vi 1), some (vi 0), none, none] 29 dX10_worthAt_27 rfl (Nat.le_of_ble_eq_true rfl) rfl rfl ?_
      refine ex_iconst 30 dX10_worthAt_29 rfl ?_
      refine q_istore [some (vr a0), some (vi x1), some (vi x2), some (vi 1), some (vi 0), some (vi 0), none] 32 dX10_worthAt_30 rfl (Nat.le_of_ble_eq_true rfl) rfl rfl ?_
      refine ex_iconst 33 dX10_worthAt_32 rfl ?_
      refine q_istore [some (vr a0), some (vi x1), some (vi x2), some (vi 1), some (vi 0), some (vi 0), some (vi 0)] 35 dX10_worthAt_33 rfl (Nat.le_of_ble_eq_true rfl) rfl rfl ?_
      exact hyp
set_option maxRecDepth 4000 in
theorem tX10_worthAt_35 {P : Int → PH → Prop} (h0 : PH) (a0 : Nat) (x1 : Int) (x2 : Int) (x3 : Int) (x4 : Int) (x5 : Int) (x6 : Int) (hyp : OB h0 10 a0 ∧ rng x6 ∧ rng (h0.2.1 a0 2) ∧ (h0.2.1 a0 2 ≤ x6 → (rng x4 ∧ rng x5 ∧ ¬ x5 = 0 ∧ P (Int.tdiv x4 x5) h0)) ∧ (x6 < h0.2.1 a0 2 → (METi mX10_isOf [vr a0, vi x6, vi x2] h0 (fun y9 h7 => h7.1 = h0.1 → (rng y9 ∧ (y9 = 0 → (EXi mX10_worthAt 35 [some (vr a0), some (vi x1), some (vi x2), some (vi x3), some (vi x4), some (vi x5), some (vi (x6 + 1))] [] h7 P)) ∧ (¬ y9 = 0 → (rng x3 ∧ (¬ x3 = 0 → (METi mX10_worthOf [vr a0, vi x1, vi x6] h7 (fun y15 h13 => h13.1 = h7.1 → (EXi mX10_worthAt 35 [some (vr a0), some (vi x1), some (vi x2), some (vi x3), some (vi (x4 + y15)), some (vi (x5 + 1)), some (vi (x6 + 1))] [] h13 P)))) ∧ (x3 = 0 → (∃ r17 : Nat, h7.2.2 a0 3 = some r17 ∧ AI h7 20 r17 x6 ∧ rng (h7.2.1 r17 (x6).toNat) ∧ (h7.2.1 r17 (x6).toNat = 1 → (EXi mX10_worthAt 35 [some (vr a0), some (vi x1), some (vi x2), some (vi x3), some (vi x4), some (vi x5), some (vi (x6 + 1))] [] h7 P)) ∧ (¬ h7.2.1 r17 (x6).toNat = 1 → (METi mX10_worthOf [vr a0, vi x1, vi x6] h7 (fun y23 h21 => h21.1 = h7.1 → (EXi mX10_worthAt 35 [some (vr a0), some (vi x1), some (vi x2), some (vi x3), some (vi (x4 + y23)), some (vi (x5 + 1)), some (vi (x6 + 1))] [] h21 P))))))))))))) : EXi mX10_worthAt 35 [some (vr a0), some (vi x1), some (vi x2), some (vi x3), some (vi x4), some (vi x5), some (vi x6)] [] h0 P := by
  refine ex_iload 37 dX10_worthAt_35 rfl rfl ?_
  refine ex_aload_n 38 dX10_worthAt_37 rfl rfl ?_
  obtain ⟨o1, hyp⟩ := hyp
  refine q_getI 10 2 41 dX10_worthAt_38 rfl fiX10_118 (Or.inl rfl) o1 ?_
  obtain ⟨o2, hyp⟩ := hyp
  obtain ⟨o3, hyp⟩ := hyp
  obtain ⟨ht, hf⟩ := hyp
  refine ex_icmp_ge 90 44 dX10_worthAt_41 (by decide) rfl o2 o3 (fun c27 => ?_) (fun c27 => ?_)
  · have hyp := ht c27
    clear ht hf
    refine ex_iload 92 dX10_worthAt_90 rfl rfl ?_
    refine ex_iload 94 dX10_worthAt_92 rfl rfl ?_
    obtain ⟨o4, hyp⟩ := hyp
    obtain ⟨o5, hyp⟩ := hyp
    obtain ⟨o6, hyp⟩ := hyp
    refine ex_idiv 95 dX10_worthAt_94 rfl o4 o5 o6 ?_
    exact ex_iret dX10_worthAt_95 (Or.inl rfl) ⟨_, rfl, hyp⟩
  · have hyp := hf c27
    clear ht hf
    refine ex_aload_n 45 dX10_worthAt_44 rfl rfl ?_
    refine ex_iload 47 dX10_worthAt_45 rfl rfl ?_
    refine ex_iload_n 48 dX10_worthAt_47 rfl rfl ?_
    refine q_callVi [vi x6, vi x2] 51 dX10_worthAt_48 rfl cvX10_222 rfl rfl ⟨Nat.le_of_ble_eq_true rfl, Nat.le_of_ble_eq_true rfl⟩ (Nat.le_of_ble_eq_true rfl) o1 hyp (fun y9 h7 k8 hyp => ?_)
    obtain ⟨o10, hyp⟩ := hyp
    obtain ⟨ht, hf⟩ := hyp
    refine ex_if_eq 84 54 dX10_worthAt_51 (by decide) rfl o10 (fun c26 => ?_) (fun c26 => ?_)
    · have hyp := ht c26
      clear ht hf
      refine q_iinc [some (vr a0), some (vi x1), some (vi x2), some (vi x3), some (vi x4), some (vi x5), some (vi (x6 + 1))] 87 dX10_worthAt_84 rfl rfl (Nat.le_of_ble_eq_true rfl) rfl rfl ?_
      refine ex_goto 35 dX10_worthAt_87 (by decide) ?_
      exact hyp
    · have hyp := hf c26
      clear ht hf
      refine ex_iload_n 55 dX10_worthAt_54 rfl rfl ?_
      obtain ⟨o11, hyp⟩ := hyp
      obtain ⟨ht, hf⟩ := hyp
      refine ex_if_ne 69 58 dX10_worthAt_55 (by decide) rfl o11 (fun c25 => ?_) (fun c25 => ?_)
      · have hyp := ht c25
        clear ht hf
        refine ex_iload 71 dX10_worthAt_69 rfl rfl ?_
        refine ex_aload_n 72 dX10_worthAt_71 rfl rfl ?_
        refine ex_iload_n 73 dX10_worthAt_72 rfl rfl ?_
        refine ex_iload 75 dX10_worthAt_73 rfl rfl ?_
        have f12 := OB.of k8 o1
        refine q_callVi [vi x1, vi x6] 78 dX10_worthAt_75 rfl cvX10_175 rfl rfl ⟨Nat.le_of_ble_eq_true rfl, Nat.le_of_ble_eq_true rfl⟩ (Nat.le_of_ble_eq_true rfl) f12 hyp (fun y15 h13 k14 hyp => ?_)
        refine ex_iadd 79 dX10_worthAt_78 rfl ?_
        refine q_istore [some (vr a0), some (vi x1), some (vi x2), some (vi x3), some (vi (x4 + y15)), some (vi x5), some (vi x6)] 81 dX10_worthAt_79 rfl (Nat.le_of_ble_eq_true rfl) rfl rfl ?_
        refine q_iinc [some (vr a0), some (vi x1), some (vi x2), some (vi x3), some (vi (x4 + y15)), some (vi (x5 + 1)), some (vi x6)] 84 dX10_worthAt_81 rfl rfl (Nat.le_of_ble_eq_true rfl) rfl rfl ?_
        refine q_iinc [some (vr a0), some (vi x1), some (vi x2), some (vi x3), some (vi (x4 + y15)), some (vi (x5 + 1)), some (vi (x6 + 1))] 87 dX10_worthAt_84 rfl rfl (Nat.le_of_ble_eq_true rfl) rfl rfl ?_
        refine ex_goto 35 dX10_worthAt_87 (by decide) ?_
        exact hyp
      · have hyp := hf c25
        clear ht hf
        refine ex_aload_n 59 dX10_worthAt_58 rfl rfl ?_
        have f16 := OB.of k8 o1
        obtain ⟨r17, f18, hyp⟩ := hyp
        refine q_getR 10 3 62 dX10_worthAt_59 rfl fiX10_13 rfl f16 f18 ?_
        refine ex_iload 64 dX10_worthAt_62 rfl rfl ?_
        obtain ⟨o19, hyp⟩ := hyp
        refine ex_iald 65 dX10_worthAt_64 rfl o19 ?_
        refine ex_iconst 66 dX10_worthAt_65 rfl ?_
        obtain ⟨o20, hyp⟩ := hyp
        obtain ⟨ht, hf⟩ := hyp
        refine ex_icmp_eq 84 69 dX10_worthAt_66 (by decide) rfl o20 ⟨by decide, by decide⟩ (fun c24 => ?_) (fun c24 => ?_)
        · have hyp := ht c24
          clear ht hf
          refine q_iinc [some (vr a0), some (vi x1), some (vi x2), some (vi x3), some (vi x4), some (vi x5), some (vi (x6 + 1))] 87 dX10_worthAt_84 rfl rfl (Nat.le_of_ble_eq_true rfl) rfl rfl ?_
          refine ex_goto 35 dX10_worthAt_87 (by decide) ?_
          exact hyp
        · have hyp := hf c24
          clear ht hf
          refine ex_iload 71 dX10_worthAt_69 rfl rfl ?_
          refine ex_aload_n 72 dX10_worthAt_71 rfl rfl ?_
          refine ex_iload_n 73 dX10_worthAt_72 rfl rfl ?_
          refine ex_iload 75 dX10_worthAt_73 rfl rfl ?_
          refine q_callVi [vi x1, vi x6] 78 dX10_worthAt_75 rfl cvX10_175 rfl rfl ⟨Nat.le_of_ble_eq_true rfl, Nat.le_of_ble_eq_true rfl⟩ (Nat.le_of_ble_eq_true rfl) f16 hyp (fun y23 h21 k22 hyp => ?_)
          refine ex_iadd 79 dX10_worthAt_78 rfl ?_
          refine q_istore [some (vr a0), some (vi x1), some (vi x2), some (vi x3), some (vi (x4 + y23)), some (vi x5), some (vi x6)] 81 dX10_worthAt_79 rfl (Nat.le_of_ble_eq_true rfl) rfl rfl ?_
          refine q_iinc [some (vr a0), some (vi x1), some (vi x2), some (vi x3), some (vi (x4 + y23)), some (vi (x5 + 1)), some (vi x6)] 84 dX10_worthAt_81 rfl rfl (Nat.le_of_ble_eq_true rfl) rfl rfl ?_
          refine q_iinc [some (vr a0), some (vi x1), some (vi x2), some (vi x3), some (vi (x4 + y23)), some (vi (x5 + 1)), some (vi (x6 + 1))] 87 dX10_worthAt_84 rfl rfl (Nat.le_of_ble_eq_true rfl) rfl rfl ?_
          refine ex_goto 35 dX10_worthAt_87 (by decide) ?_
          exact hyp
set_option maxRecDepth 4000 in
theorem tX10_bestLife {P : Int → PH → Prop} (h0 : PH) (a0 : Nat) (x1 : Int) (hyp : EXi mX10_bestLife 4 [some (vr a0), some (vi x1), some (vi (-1)), some (vi 0), none] [] h0 P) : METi mX10_bestLife [vr a0, vi x1] h0 P := by
  refine met_of_ex (by decide +kernel) (Nat.le_of_ble_eq_true rfl) ?_
  show EX mX10_bestLife 0 [some (vr a0), some (vi x1), none, none, none] [] h0 (0, 0) _
  refine ex_iconst 1 dX10_bestLife_0 rfl ?_
  refine q_istore_n [some (vr a0), some (vi x1), some (vi (-1)), none, none] 2 dX10_bestLife_1 rfl (Nat.le_of_ble_eq_true rfl) rfl rfl ?_
  refine ex_iconst 3 dX10_bestLife_2 rfl ?_
  refine q_istore_n [some (vr a0), some (vi x1), some (vi (-1)), some (vi 0), none] 4 dX10_bestLife_3 rfl (Nat.le_of_ble_eq_true rfl) rfl rfl ?_
  exact hyp
set_option maxRecDepth 4000 in
theorem tX10_bestLife_4 {P : Int → PH → Prop} (h0 : PH) (a0 : Nat) (x1 : Int) (x2 : Int) (x3 : Int) (hyp : OB h0 10 a0 ∧ rng x3 ∧ rng (h0.2.1 a0 28) ∧ (h0.2.1 a0 28 ≤ x3 → (P x2 h0)) ∧ (x3 < h0.2.1 a0 28 → (METi mX10_canGo [vr a0, vi x1, vi x3] h0 (fun y6 h4 => h4.1 = h0.1 → (rng y6 ∧ (y6 = 0 → (EXi mX10_bestLife 4 [some (vr a0), some (vi x1), some (vi x2), some (vi (x3 + 1)), none] [] h4 P)) ∧ (¬ y6 = 0 → (rng x2 ∧ (x2 = (-1) → (EXi mX10_bestLife 4 [some (vr a0), some (vi x1), some (vi x3), some (vi (x3 + 1)), none] [] h4 P)) ∧ (¬ x2 = (-1) → (METi mX10_worthAt [vr a0, vi x1, vi x3] h4 (fun y12 h10 => h10.1 = h4.1 → (METi mX10_worthAt [vr a0, vi x1, vi x2] h10 (fun y16 h14 => h14.1 = h10.1 → (rng y12 ∧ rng y16 ∧ (y12 ≤ y16 → (EXi mX10_bestLife 4 [some (vr a0), some (vi x1), some (vi x2), some (vi (x3 + 1)), none] [] h14 P)) ∧ (y16 < y12 → (EXi mX10_bestLife 4 [some (vr a0), some (vi x1), some (vi x3), some (vi (x3 + 1)), none] [] h14 P))))))))))))))) : EXi mX10_bestLife 4 [some (vr a0), some (vi x1), some (vi x2), some (vi x3), none] [] h0 P := by
  refine ex_iload_n 5 dX10_bestLife_4 rfl rfl ?_
  refine ex_aload_n 6 dX10_bestLife_5 rfl rfl ?_
  obtain ⟨o1, hyp⟩ := hyp
  refine q_getI 10 28 9 dX10_bestLife_6 rfl fiX10_212 (Or.inl rfl) o1 ?_
  obtain ⟨o2, hyp⟩ := hyp
  obtain ⟨o3, hyp⟩ := hyp
  obtain ⟨ht, hf⟩ := hyp
  refine ex_icmp_ge 65 12 dX10_bestLife_9 (by decide) rfl o2 o3 (fun c22 => ?_) (fun c22 => ?_)
  · have hyp := ht c22
    clear ht hf
    refine ex_iload_n 66 dX10_bestLife_65 rfl rfl ?_
    exact ex_iret dX10_bestLife_66 (Or.inl rfl) ⟨_, rfl, hyp⟩
  · have hyp := hf c22
    clear ht hf
    refine ex_aload_n 13 dX10_bestLife_12 rfl rfl ?_
    refine ex_iload_n 14 dX10_bestLife_13 rfl rfl ?_
    refine ex_iload_n 15 dX10_bestLife_14 rfl rfl ?_
    refine q_callVi [vi x1, vi x3] 18 dX10_bestLife_15 rfl cvX10_225 rfl rfl ⟨Nat.le_of_ble_eq_true rfl, Nat.le_of_ble_eq_true rfl⟩ (Nat.le_of_ble_eq_true rfl) o1 hyp (fun y6 h4 k5 hyp => ?_)
    obtain ⟨o7, hyp⟩ := hyp
    obtain ⟨ht, hf⟩ := hyp
    refine ex_if_eq 45 21 dX10_bestLife_18 (by decide) rfl o7 (fun c21 => ?_) (fun c21 => ?_)
    · have hyp := ht c21
      clear ht hf
      refine ex_iconst 46 dX10_bestLife_45 rfl ?_
      refine q_istore [some (vr a0), some (vi x1), some (vi x2), some (vi x3), some (vi 0)] 48 dX10_bestLife_46 rfl (Nat.le_of_ble_eq_true rfl) rfl rfl ?_
      refine ex_iload 50 dX10_bestLife_48 rfl rfl ?_
      refine ex_if_eq 57 53 dX10_bestLife_50 (by decide) rfl ⟨by decide, by decide⟩ (fun _ => ?_) (fun c => absurd c (by decide))
      refine ex_iload_n 58 dX10_bestLife_57 rfl rfl ?_
      refine q_istore_n [some (vr a0), some (vi x1), some (vi x2), some (vi x3), some (vi 0)] 59 dX10_bestLife_58 rfl (Nat.le_of_ble_eq_true rfl) rfl rfl ?_
      refine q_iinc [some (vr a0), some (vi x1), some (vi x2), some (vi (x3 + 1)), some (vi 0)] 62 dX10_bestLife_59 rfl rfl (Nat.le_of_ble_eq_true rfl) rfl rfl ?_
      refine ex_goto 4 dX10_bestLife_62 (by decide) ?_
      refine ex_dropL (ls' := [some (vr a0), some (vi x1), some (vi x2), some (vi (x3 + 1)), none]) 4 rfl ?_
      exact hyp
    · have hyp := hf c21
      clear ht hf
      refine ex_iload_n 22 dX10_bestLife_21 rfl rfl ?_
      refine ex_iconst 23 dX10_bestLife_22 rfl ?_
      obtain ⟨o8, hyp⟩ := hyp
      obtain ⟨ht, hf⟩ := hyp
      refine ex_icmp_eq 41 26 dX10_bestLife_23 (by decide) rfl o8 ⟨by decide, by decide⟩ (fun c20 => ?_) (fun c20 => ?_)
      · have hyp := ht c20
        clear ht hf
        refine ex_iconst 42 dX10_bestLife_41 rfl ?_
        refine ex_goto 46 dX10_bestLife_42 (by decide) ?_
        refine q_istore [some (vr a0), some (vi x1), some (vi x2), some (vi x3), some (vi 1)] 48 dX10_bestLife_46 rfl (Nat.le_of_ble_eq_true rfl) rfl rfl ?_
        refine ex_iload 50 dX10_bestLife_48 rfl rfl ?_
        refine ex_if_eq 57 53 dX10_bestLife_50 (by decide) rfl ⟨by decide, by decide⟩ (fun c => absurd c (by decide)) (fun _ => ?_)
        refine ex_iload_n 54 dX10_bestLife_53 rfl rfl ?_
        refine ex_goto 58 dX10_bestLife_54 (by decide) ?_
        refine q_istore_n [some (vr a0), some (vi x1), some (vi x3), some (vi x3), some (vi 1)] 59 dX10_bestLife_58 rfl (Nat.le_of_ble_eq_true rfl) rfl rfl ?_
        refine q_iinc [some (vr a0), some (vi x1), some (vi x3), some (vi (x3 + 1)), some (vi 1)] 62 dX10_bestLife_59 rfl rfl (Nat.le_of_ble_eq_true rfl) rfl rfl ?_
        refine ex_goto 4 dX10_bestLife_62 (by decide) ?_
        refine ex_dropL (ls' := [some (vr a0), some (vi x1), some (vi x3), some (vi (x3 + 1)), none]) 4 rfl ?_
        exact hyp
      · have hyp := hf c20
        clear ht hf
        refine ex_aload_n 27 dX10_bestLife_26 rfl rfl ?_
        refine ex_iload_n 28 dX10_bestLife_27 rfl rfl ?_
        refine ex_iload_n 29 dX10_bestLife_28 rfl rfl ?_
        have f9 := OB.of k5 o1
        refine q_callVi [vi x1, vi x3] 32 dX10_bestLife_29 rfl cvX10_228 rfl rfl ⟨Nat.le_of_ble_eq_true rfl, Nat.le_of_ble_eq_true rfl⟩ (Nat.le_of_ble_eq_true rfl) f9 hyp (fun y12 h10 k11 hyp => ?_)
        refine ex_aload_n 33 dX10_bestLife_32 rfl rfl ?_
        refine ex_iload_n 34 dX10_bestLife_33 rfl rfl ?_
        refine ex_iload_n 35 dX10_bestLife_34 rfl rfl ?_
        have f13 := OB.of k11 f9
        refine q_callVi [vi x1, vi x2] 38 dX10_bestLife_35 rfl cvX10_228 rfl rfl ⟨Nat.le_of_ble_eq_true rfl, Nat.le_of_ble_eq_true rfl⟩ (Nat.le_of_ble_eq_true rfl) f13 hyp (fun y16 h14 k15 hyp => ?_)
        obtain ⟨o17, hyp⟩ := hyp
        obtain ⟨o18, hyp⟩ := hyp
        obtain ⟨ht, hf⟩ := hyp
        refine ex_icmp_le 45 41 dX10_bestLife_38 (by decide) rfl o17 o18 (fun c19 => ?_) (fun c19 => ?_)
        · have hyp := ht c19
          clear ht hf
          refine ex_iconst 46 dX10_bestLife_45 rfl ?_
          refine q_istore [some (vr a0), some (vi x1), some (vi x2), some (vi x3), some (vi 0)] 48 dX10_bestLife_46 rfl (Nat.le_of_ble_eq_true rfl) rfl rfl ?_
          refine ex_iload 50 dX10_bestLife_48 rfl rfl ?_
          refine ex_if_eq 57 53 dX10_bestLife_50 (by decide) rfl ⟨by decide, by decide⟩ (fun _ => ?_) (fun c => absurd c (by decide))
          refine ex_iload_n 58 dX10_bestLife_57 rfl rfl ?_
          refine q_istore_n [some (vr a0), some (vi x1), some (vi x2), some (vi x3), some (vi 0)] 59 dX10_bestLife_58 rfl (Nat.le_of_ble_eq_true rfl) rfl rfl ?_
          refine q_iinc [some (vr a0), some (vi x1), some (vi x2), some (vi (x3 + 1)), some (vi 0)] 62 dX10_bestLife_59 rfl rfl (Nat.le_of_ble_eq_true rfl) rfl rfl ?_
          refine ex_goto 4 dX10_bestLife_62 (by decide) ?_
          refine ex_dropL (ls' := [some (vr a0), some (vi x1), some (vi x2), some (vi (x3 + 1)), none]) 4 rfl ?_
          exact hyp
        · have hyp := hf c19
          clear ht hf
          refine ex_iconst 42 dX10_bestLife_41 rfl ?_
          refine ex_goto 46 dX10_bestLife_42 (by decide) ?_
          refine q_istore [some (vr a0), some (vi x1), some (vi x2), some (vi x3), some (vi 1)] 48 dX10_bestLife_46 rfl (Nat.le_of_ble_eq_true rfl) rfl rfl ?_
          refine ex_iload 50 dX10_bestLife_48 rfl rfl ?_
          refine ex_if_eq 57 53 dX10_bestLife_50 (by decide) rfl ⟨by decide, by decide⟩ (fun c => absurd c (by decide)) (fun _ => ?_)
          refine ex_iload_n 54 dX10_bestLife_53 rfl rfl ?_
          refine ex_goto 58 dX10_bestLife_54 (by decide) ?_
          refine q_istore_n [some (vr a0), some (vi x1), some (vi x3), some (vi x3), some (vi 1)] 59 dX10_bestLife_58 rfl (Nat.le_of_ble_eq_true rfl) rfl rfl ?_
          refine q_iinc [some (vr a0), some (vi x1), some (vi x3), some (vi (x3 + 1)), some (vi 1)] 62 dX10_bestLife_59 rfl rfl (Nat.le_of_ble_eq_true rfl) rfl rfl ?_
          refine ex_goto 4 dX10_bestLife_62 (by decide) ?_
          refine ex_dropL (ls' := [some (vr a0), some (vi x1), some (vi x3), some (vi (x3 + 1)), none]) 4 rfl ?_
          exact hyp
set_option maxRecDepth 4000 in
theorem tX10_isInDoubt {P : Int → PH → Prop} (h0 : PH) (a0 : Nat) (x1 : Int) (x2 : Int) (hyp : EXi mX10_isInDoubt 5 [some (vr a0), some (vi x1), some (vi x2), some (vi 0), some (vi 0)] [] h0 P) : METi mX10_isInDoubt [vr a0, vi x1, vi x2] h0 P := by
  refine met_of_ex (by decide +kernel) (Nat.le_of_ble_eq_true rfl) ?_
  show EX mX10_isInDoubt 0 [some (vr a0), some (vi x1), some (vi x2), none, none] [] h0 (0, 0) _
  refine ex_iconst 1 dX10_isInDoubt_0 rfl ?_
  refine q_istore_n [some (vr a0), some (vi x1), some (vi x2), some (vi 0), none] 2 dX10_isInDoubt_1 rfl (Nat.le_of_ble_eq_true rfl) rfl rfl ?_
  refine ex_iconst 3 dX10_isInDoubt_2 rfl ?_
  refine q_istore [some (vr a0), some (vi x1), some (vi x2), some (vi 0), some (vi 0)] 5 dX10_isInDoubt_3 rfl (Nat.le_of_ble_eq_true rfl) rfl rfl ?_
  exact hyp
set_option maxRecDepth 4000 in
theorem tX10_isInDoubt_5 {P : Int → PH → Prop} (h0 : PH) (a0 : Nat) (x1 : Int) (x2 : Int) (x3 : Int) (x4 : Int) (hyp : OB h0 10 a0 ∧ rng x4 ∧ rng (h0.2.1 a0 28) ∧ (h0.2.1 a0 28 ≤ x4 → ((x3 = 0 ∨ x3 = 1) ∧ P x3 h0)) ∧ (x4 < h0.2.1 a0 28 → (rng x3 ∧ (¬ x3 = 0 → (EXi mX10_isInDoubt 5 [some (vr a0), some (vi x1), some (vi x2), some (vi 1), some (vi (x4 + 1))] [] h0 P)) ∧ (x3 = 0 → (rng x2 ∧ (x4 = x2 → (EXi mX10_isInDoubt 5 [some (vr a0), some (vi x1), some (vi x2), some (vi 0), some (vi (x4 + 1))] [] h0 P)) ∧ (¬ x4 = x2 → (METi mX10_canGo [vr a0, vi x1, vi x4] h0 (fun y8 h6 => h6.1 = h0.1 → (rng y8 ∧ (y8 = 0 → (EXi mX10_isInDoubt 5 [some (vr a0), some (vi x1), some (vi x2), some (vi 0), some (vi (x4 + 1))] [] h6 P)) ∧ (¬ y8 = 0 → (METi mX10_worthAt [vr a0, vi x1, vi x2] h6 (fun y13 h11 => h11.1 = h6.1 → (METi mX10_worthAt [vr a0, vi x1, vi x4] h11 (fun y17 h15 => h15.1 = h11.1 → (∃ r19 : Nat, h15.2.2 a0 9 = some r19 ∧ AI h15 20 r19 2 ∧ rng (y13 - y17) ∧ rng (h15.2.1 r19 (2 : Int).toNat) ∧ (h15.2.1 r19 (2 : Int).toNat < y13 - y17 → (EXi mX10_isInDoubt 5 [some (vr a0), some (vi x1), some (vi x2), some (vi 0), some (vi (x4 + 1))] [] h15 P)) ∧ (y13 - y17 ≤ h15.2.1 r19 (2 : Int).toNat → (EXi mX10_isInDoubt 5 [some (vr a0), some (vi x1), some (vi x2), some (vi 1), some (vi (x4 + 1))] [] h15 P))))))))))))))))) : EXi mX10_isInDoubt 5 [some (vr a0), some (vi x1), some (vi x2), some (vi x3), some (vi x4)] [] h0 P := by
  refine ex_iload 7 dX10_isInDoubt_5 rfl rfl ?_
  refine ex_aload_n 8 dX10_isInDoubt_7 rfl rfl ?_
  obtain ⟨o1, hyp⟩ := hyp
  refine q_getI 10 28 11 dX10_isInDoubt_8 rfl fiX10_212 (Or.inl rfl) o1 ?_
  obtain ⟨o2, hyp⟩ := hyp
  obtain ⟨o3, hyp⟩ := hyp
  obtain ⟨ht, hf⟩ := hyp
  refine ex_icmp_ge 69 14 dX10_isInDoubt_11 (by decide) rfl o2 o3 (fun c28 => ?_) (fun c28 => ?_)
  · have hyp := ht c28
    clear ht hf
    refine ex_iload_n 70 dX10_isInDoubt_69 rfl rfl ?_
    exact ex_iret dX10_isInDoubt_70 (Or.inr ⟨rfl, hyp.1⟩) ⟨_, rfl, hyp.2⟩
  · have hyp := hf c28
    clear ht hf
    refine ex_iload_n 15 dX10_isInDoubt_14 rfl rfl ?_
    obtain ⟨o4, hyp⟩ := hyp
    obtain ⟨ht, hf⟩ := hyp
    refine ex_if_ne 57 18 dX10_isInDoubt_15 (by decide) rfl o4 (fun c27 => ?_) (fun c27 => ?_)
    · have hyp := ht c27
      clear ht hf
      refine ex_iconst 58 dX10_isInDoubt_57 rfl ?_
      refine ex_goto 62 dX10_isInDoubt_58 (by decide) ?_
      refine q_istore_n [some (vr a0), some (vi x1), some (vi x2), some (vi 1), some (vi x4)] 63 dX10_isInDoubt_62 rfl (Nat.le_of_ble_eq_true rfl) rfl rfl ?_
      refine q_iinc [some (vr a0), some (vi x1), some (vi x2), some (vi 1), some (vi (x4 + 1))] 66 dX10_isInDoubt_63 rfl rfl (Nat.le_of_ble_eq_true rfl) rfl rfl ?_
      refine ex_goto 5 dX10_isInDoubt_66 (by decide) ?_
      exact hyp
    · have hyp := hf c27
      clear ht hf
      refine ex_iload 20 dX10_isInDoubt_18 rfl rfl ?_
      refine ex_iload_n 21 dX10_isInDoubt_20 rfl rfl ?_
      obtain ⟨o5, hyp⟩ := hyp
      obtain ⟨ht, hf⟩ := hyp
      refine ex_icmp_eq 61 24 dX10_isInDoubt_21 (by decide) rfl o2 o5 (fun c26 => ?_) (fun c26 => ?_)
      · have hyp := ht c26
        clear ht hf
        refine ex_iconst 62 dX10_isInDoubt_61 rfl ?_
        refine q_istore_n [some (vr a0), some (vi x1), some (vi x2), some (vi 0), some (vi x4)] 63 dX10_isInDoubt_62 rfl (Nat.le_of_ble_eq_true rfl) rfl rfl ?_
        refine q_iinc [some (vr a0), some (vi x1), some (vi x2), some (vi 0), some (vi (x4 + 1))] 66 dX10_isInDoubt_63 rfl rfl (Nat.le_of_ble_eq_true rfl) rfl rfl ?_
        refine ex_goto 5 dX10_isInDoubt_66 (by decide) ?_
        exact hyp
      · have hyp := hf c26
        clear ht hf
        refine ex_aload_n 25 dX10_isInDoubt_24 rfl rfl ?_
        refine ex_iload_n 26 dX10_isInDoubt_25 rfl rfl ?_
        refine ex_iload 28 dX10_isInDoubt_26 rfl rfl ?_
        refine q_callVi [vi x1, vi x4] 31 dX10_isInDoubt_28 rfl cvX10_225 rfl rfl ⟨Nat.le_of_ble_eq_true rfl, Nat.le_of_ble_eq_true rfl⟩ (Nat.le_of_ble_eq_true rfl) o1 hyp (fun y8 h6 k7 hyp => ?_)
        obtain ⟨o9, hyp⟩ := hyp
        obtain ⟨ht, hf⟩ := hyp
        refine ex_if_eq 61 34 dX10_isInDoubt_31 (by decide) rfl o9 (fun c25 => ?_) (fun c25 => ?_)
        · have hyp := ht c25
          clear ht hf
          refine ex_iconst 62 dX10_isInDoubt_61 rfl ?_
          refine q_istore_n [some (vr a0), some (vi x1), some (vi x2), some (vi 0), some (vi x4)] 63 dX10_isInDoubt_62 rfl (Nat.le_of_ble_eq_true rfl) rfl rfl ?_
          refine q_iinc [some (vr a0), some (vi x1), some (vi x2), some (vi 0), some (vi (x4 + 1))] 66 dX10_isInDoubt_63 rfl rfl (Nat.le_of_ble_eq_true rfl) rfl rfl ?_
          refine ex_goto 5 dX10_isInDoubt_66 (by decide) ?_
          exact hyp
        · have hyp := hf c25
          clear ht hf
          refine ex_aload_n 35 dX10_isInDoubt_34 rfl rfl ?_
          refine ex_iload_n 36 dX10_isInDoubt_35 rfl rfl ?_
          refine ex_iload_n 37 dX10_isInDoubt_36 rfl rfl ?_
          have f10 := OB.of k7 o1
          refine q_callVi [vi x1, vi x2] 40 dX10_isInDoubt_37 rfl cvX10_228 rfl rfl ⟨Nat.le_of_ble_eq_true rfl, Nat.le_of_ble_eq_true rfl⟩ (Nat.le_of_ble_eq_true rfl) f10 hyp (fun y13 h11 k12 hyp => ?_)
          refine ex_aload_n 41 dX10_isInDoubt_40 rfl rfl ?_
          refine ex_iload_n 42 dX10_isInDoubt_41 rfl rfl ?_
          refine ex_iload 44 dX10_isInDoubt_42 rfl rfl ?_
          have f14 := OB.of k12 f10
          refine q_callVi [vi x1, vi x4] 47 dX10_isInDoubt_44 rfl cvX10_228 rfl rfl ⟨Nat.le_of_ble_eq_true rfl, Nat.le_of_ble_eq_true rfl⟩ (Nat.le_of_ble_eq_true rfl) f14 hyp (fun y17 h15 k16 hyp => ?_)
          refine ex_isub 48 dX10_isInDoubt_47 rfl ?_
          refine ex_aload_n 49 dX10_isInDoubt_48 rfl rfl ?_
          have f18 := OB.of k16 f14
          obtain ⟨r19, f20, hyp⟩ := hyp
          refine q_getR 10 9 52 dX10_isInDoubt_49 rfl fiX10_31 rfl f18 f20 ?_
          refine ex_iconst 53 dX10_isInDoubt_52 rfl ?_
          obtain ⟨o21, hyp⟩ := hyp
          refine ex_iald 54 dX10_isInDoubt_53 rfl o21 ?_
          obtain ⟨o22, hyp⟩ := hyp
          obtain ⟨o23, hyp⟩ := hyp
          obtain ⟨ht, hf⟩ := hyp
          refine ex_icmp_gt 61 57 dX10_isInDoubt_54 (by decide) rfl o22 o23 (fun c24 => ?_) (fun c24 => ?_)
          · have hyp := ht c24
            clear ht hf
            refine ex_iconst 62 dX10_isInDoubt_61 rfl ?_
            refine q_istore_n [some (vr a0), some (vi x1), some (vi x2), some (vi 0), some (vi x4)] 63 dX10_isInDoubt_62 rfl (Nat.le_of_ble_eq_true rfl) rfl rfl ?_
            refine q_iinc [some (vr a0), some (vi x1), some (vi x2), some (vi 0), some (vi (x4 + 1))] 66 dX10_isInDoubt_63 rfl rfl (Nat.le_of_ble_eq_true rfl) rfl rfl ?_
            refine ex_goto 5 dX10_isInDoubt_66 (by decide) ?_
            exact hyp
          · have hyp := hf c24
            clear ht hf
            refine ex_iconst 58 dX10_isInDoubt_57 rfl ?_
            refine ex_goto 62 dX10_isInDoubt_58 (by decide) ?_
            refine q_istore_n [some (vr a0), some (vi x1), some (vi x2), some (vi 1), some (vi x4)] 63 dX10_isInDoubt_62 rfl (Nat.le_of_ble_eq_true rfl) rfl rfl ?_
            refine q_iinc [some (vr a0), some (vi x1), some (vi x2), some (vi 1), some (vi (x4 + 1))] 66 dX10_isInDoubt_63 rfl rfl (Nat.le_of_ble_eq_true rfl) rfl rfl ?_
            refine ex_goto 5 dX10_isInDoubt_66 (by decide) ?_
            exact hyp
set_option maxRecDepth 4000 in
theorem tX10_layLives {P : PH → Prop} (h0 : PH) (a0 : Nat) (hyp : OB h0 10 a0 ∧ METv mX10_layFirstLives [vr a0] h0 (0, 0) (fun h2 => h2.1 = h0.1 → (EXv mX10_layLives 6 [some (vr a0), some (vi 0)] [] h2 (0, 0) P))) : METv mX10_layLives [vr a0] h0 (0, 0) P := by
  refine met_of_ex (by decide +kernel) (Nat.le_of_ble_eq_true rfl) ?_
  show EX mX10_layLives 0 [some (vr a0), none] [] h0 (0, 0) _
  refine ex_aload_n 1 dX10_layLives_0 rfl rfl ?_
  obtain ⟨o1, hyp⟩ := hyp
  refine q_callVv [] 4 dX10_layLives_1 rfl cvX10_231 rfl rfl ⟨Nat.le_of_ble_eq_true rfl, Nat.le_of_ble_eq_true rfl⟩ (Nat.le_of_ble_eq_true rfl) o1 hyp (fun h2 k3 hyp => ?_)
  refine ex_iconst 5 dX10_layLives_4 rfl ?_
  refine q_istore_n [some (vr a0), some (vi 0)] 6 dX10_layLives_5 rfl (Nat.le_of_ble_eq_true rfl) rfl rfl ?_
  exact hyp
set_option maxRecDepth 4000 in
theorem tX10_layLives_6 {P : PH → Prop} (h0 : PH) (a0 : Nat) (x1 : Int) (hyp : OB h0 10 a0 ∧ rng x1 ∧ rng (h0.2.1 a0 2) ∧ (h0.2.1 a0 2 ≤ x1 → (P h0)) ∧ (x1 < h0.2.1 a0 2 → (∃ r4 : Nat, h0.2.2 a0 3 = some r4 ∧ AI h0 20 r4 x1 ∧ rng (h0.2.1 r4 (x1).toNat) ∧ (¬ h0.2.1 r4 (x1).toNat = 1 → (EXv mX10_layLives 6 [some (vr a0), some (vi (x1 + 1))] [] h0 (0, 0) P)) ∧ (h0.2.1 r4 (x1).toNat = 1 → (METv mX10_layWedding [vr a0, vi x1] h0 (0, 0) (fun h8 => h8.1 = h0.1 → (EXv mX10_layLives 6 [some (vr a0), some (vi (x1 + 1))] [] h8 (0, 0) P))))))) : EXv mX10_layLives 6 [some (vr a0), some (vi x1)] [] h0 (0, 0) P := by
  refine ex_iload_n 7 dX10_layLives_6 rfl rfl ?_
  refine ex_aload_n 8 dX10_layLives_7 rfl rfl ?_
  obtain ⟨o1, hyp⟩ := hyp
  refine q_getI 10 2 11 dX10_layLives_8 rfl fiX10_118 (Or.inl rfl) o1 ?_
  obtain ⟨o2, hyp⟩ := hyp
  obtain ⟨o3, hyp⟩ := hyp
  obtain ⟨ht, hf⟩ := hyp
  refine ex_icmp_ge 35 14 dX10_layLives_11 (by decide) rfl o2 o3 (fun c11 => ?_) (fun c11 => ?_)
  · have hyp := ht c11
    clear ht hf
    exact ex_vret dX10_layLives_35 rfl ⟨rfl, hyp⟩
  · have hyp := hf c11
    clear ht hf
    refine ex_aload_n 15 dX10_layLives_14 rfl rfl ?_
    obtain ⟨r4, f5, hyp⟩ := hyp
    refine q_getR 10 3 18 dX10_layLives_15 rfl fiX10_13 rfl o1 f5 ?_
    refine ex_iload_n 19 dX10_layLives_18 rfl rfl ?_
    obtain ⟨o6, hyp⟩ := hyp
    refine ex_iald 20 dX10_layLives_19 rfl o6 ?_
    refine ex_iconst 21 dX10_layLives_20 rfl ?_
    obtain ⟨o7, hyp⟩ := hyp
    obtain ⟨ht, hf⟩ := hyp
    refine ex_icmp_ne 29 24 dX10_layLives_21 (by decide) rfl o7 ⟨by decide, by decide⟩ (fun c10 => ?_) (fun c10 => ?_)
    · have hyp := ht c10
      clear ht hf
      refine q_iinc [some (vr a0), some (vi (x1 + 1))] 32 dX10_layLives_29 rfl rfl (Nat.le_of_ble_eq_true rfl) rfl rfl ?_
      refine ex_goto 6 dX10_layLives_32 (by decide) ?_
      exact hyp
    · have hyp := hf c10
      clear ht hf
      refine ex_aload_n 25 dX10_layLives_24 rfl rfl ?_
      refine ex_iload_n 26 dX10_layLives_25 rfl rfl ?_
      refine q_callVv [vi x1] 29 dX10_layLives_26 rfl cvX10_234 rfl rfl ⟨Nat.le_of_ble_eq_true rfl, Nat.le_of_ble_eq_true rfl⟩ (Nat.le_of_ble_eq_true rfl) o1 hyp (fun h8 k9 hyp => ?_)
      refine q_iinc [some (vr a0), some (vi (x1 + 1))] 32 dX10_layLives_29 rfl rfl (Nat.le_of_ble_eq_true rfl) rfl rfl ?_
      refine ex_goto 6 dX10_layLives_32 (by decide) ?_
      exact hyp
set_option maxRecDepth 4000 in
theorem tX10_layWedding {P : PH → Prop} (h0 : PH) (a0 : Nat) (x1 : Int) (hyp : OB h0 10 a0 ∧ METi mX10_bestLife [vr a0, vi x1] h0 (fun y4 h2 => h2.1 = h0.1 → (rng y4 ∧ (¬ y4 = (-1) → (METi mX10_isInDoubt [vr a0, vi x1, vi y4] h2 (fun y9 h7 => h7.1 = h2.1 → (rng y9 ∧ (¬ y9 = 0 → (P h7)) ∧ (y9 = 0 → (∃ r12 : Nat, h7.2.2 a0 32 = some r12 ∧ AI h7 20 r12 x1 ∧ ∀ h15 : PH, h15 = px_upI h7 r12 (x1).toNat y4 → (∃ r18 : Nat, h15.2.2 a0 31 = some r18 ∧ AI h15 20 r18 y4 ∧ ∀ h21 : PH, h21 = px_upI h15 r18 (y4).toNat ((h15.2.1 r18 (y4).toNat) + 1) → (P h21)))))))) ∧ (y4 = (-1) → (∃ r25 : Nat, h2.2.2 a0 32 = some r25 ∧ AI h2 20 r25 x1 ∧ ∀ h28 : PH, h28 = px_upI h2 r25 (x1).toNat (h2.2.1 a0 28) → (METv mX10_beginLife [vr a0, vi (-1), vi (-1)] h28 (0, 0) (fun h31 => h31.1 = h28.1 → (∃ r34 : Nat, h31.2.2 a0 31 = some r34 ∧ AI h31 20 r34 ((h31.2.1 a0 28) - 1) ∧ ∀ h37 : PH, h37 = px_upI h31 r34 ((h31.2.1 a0 28) - 1).toNat 1 → (P h37))))))))) : METv mX10_layWedding [vr a0, vi x1] h0 (0, 0) P := by
  refine met_of_ex (by decide +kernel) (Nat.le_of_ble_eq_true rfl) ?_
  show EX mX10_layWedding 0 [some (vr a0), some (vi x1), none] [] h0 (0, 0) _
  refine ex_aload_n 1 dX10_layWedding_0 rfl rfl ?_
  refine ex_iload_n 2 dX10_layWedding_1 rfl rfl ?_
  obtain ⟨o1, hyp⟩ := hyp
  refine q_callVi [vi x1] 5 dX10_layWedding_2 rfl cvX10_238 rfl rfl ⟨Nat.le_of_ble_eq_true rfl, Nat.le_of_ble_eq_true rfl⟩ (Nat.le_of_ble_eq_true rfl) o1 hyp (fun y4 h2 k3 hyp => ?_)
  refine q_istore_n [some (vr a0), some (vi x1), some (vi y4)] 6 dX10_layWedding_5 rfl (Nat.le_of_ble_eq_true rfl) rfl rfl ?_
  refine ex_iload_n 7 dX10_layWedding_6 rfl rfl ?_
  refine ex_iconst 8 dX10_layWedding_7 rfl ?_
  obtain ⟨o5, hyp⟩ := hyp
  obtain ⟨ht, hf⟩ := hyp
  refine ex_icmp_ne 42 11 dX10_layWedding_8 (by decide) rfl o5 ⟨by decide, by decide⟩ (fun c39 => ?_) (fun c39 => ?_)
  · have hyp := ht c39
    clear ht hf
    refine ex_aload_n 43 dX10_layWedding_42 rfl rfl ?_
    refine ex_iload_n 44 dX10_layWedding_43 rfl rfl ?_
    refine ex_iload_n 45 dX10_layWedding_44 rfl rfl ?_
    have f6 := OB.of k3 o1
    refine q_callVi [vi x1, vi y4] 48 dX10_layWedding_45 rfl cvX10_241 rfl rfl ⟨Nat.le_of_ble_eq_true rfl, Nat.le_of_ble_eq_true rfl⟩ (Nat.le_of_ble_eq_true rfl) f6 hyp (fun y9 h7 k8 hyp => ?_)
    obtain ⟨o10, hyp⟩ := hyp
    obtain ⟨ht, hf⟩ := hyp
    refine ex_if_ne 68 51 dX10_layWedding_48 (by decide) rfl o10 (fun c23 => ?_) (fun c23 => ?_)
    · have hyp := ht c23
      clear ht hf
      exact ex_vret dX10_layWedding_68 rfl ⟨rfl, hyp⟩
    · have hyp := hf c23
      clear ht hf
      refine ex_aload_n 52 dX10_layWedding_51 rfl rfl ?_
      have f11 := OB.of k8 f6
      obtain ⟨r12, f13, hyp⟩ := hyp
      refine q_getR 10 32 55 dX10_layWedding_52 rfl fiX10_73 rfl f11 f13 ?_
      refine ex_iload_n 56 dX10_layWedding_55 rfl rfl ?_
      refine ex_iload_n 57 dX10_layWedding_56 rfl rfl ?_
      obtain ⟨o14, hyp⟩ := hyp
      refine ex_iast 58 dX10_layWedding_57 rfl o14 (fun h15 e16 => ?_)
      have hyp := hyp h15 e16
      refine ex_aload_n 59 dX10_layWedding_58 rfl rfl ?_
      have f17 := OB.of (KI e16) f11
      obtain ⟨r18, f19, hyp⟩ := hyp
      refine q_getR 10 31 62 dX10_layWedding_59 rfl fiX10_70 rfl f17 f19 ?_
      refine ex_iload_n 63 dX10_layWedding_62 rfl rfl ?_
      refine ex_dup2 64 dX10_layWedding_63 rfl rfl rfl ?_
      obtain ⟨o20, hyp⟩ := hyp
      refine ex_iald 65 dX10_layWedding_64 rfl o20 ?_
      refine ex_iconst 66 dX10_layWedding_65 rfl ?_
      refine ex_iadd 67 dX10_layWedding_66 rfl ?_
      refine ex_iast 68 dX10_layWedding_67 rfl o20 (fun h21 e22 => ?_)
      have hyp := hyp h21 e22
      exact ex_vret dX10_layWedding_68 rfl ⟨rfl, hyp⟩
  · have hyp := hf c39
    clear ht hf
    refine ex_aload_n 12 dX10_layWedding_11 rfl rfl ?_
    have f24 := OB.of k3 o1
    obtain ⟨r25, f26, hyp⟩ := hyp
    refine q_getR 10 32 15 dX10_layWedding_12 rfl fiX10_73 rfl f24 f26 ?_
    refine ex_iload_n 16 dX10_layWedding_15 rfl rfl ?_
    refine ex_aload_n 17 dX10_layWedding_16 rfl rfl ?_
    refine q_getI 10 28 20 dX10_layWedding_17 rfl fiX10_212 (Or.inl rfl) f24 ?_
    obtain ⟨o27, hyp⟩ := hyp
    refine ex_iast 21 dX10_layWedding_20 rfl o27 (fun h28 e29 => ?_)
    have hyp := hyp h28 e29
    refine ex_aload_n 22 dX10_layWedding_21 rfl rfl ?_
    refine ex_iconst 23 dX10_layWedding_22 rfl ?_
    refine ex_iconst 24 dX10_layWedding_23 rfl ?_
    have f30 := OB.of (KI e29) f24
    refine q_callVv [vi (-1), vi (-1)] 27 dX10_layWedding_24 rfl cvX10_218 rfl rfl ⟨Nat.le_of_ble_eq_true rfl, Nat.le_of_ble_eq_true rfl⟩ (Nat.le_of_ble_eq_true rfl) f30 hyp (fun h31 k32 hyp => ?_)
    refine ex_aload_n 28 dX10_layWedding_27 rfl rfl ?_
    have f33 := OB.of k32 f30
    obtain ⟨r34, f35, hyp⟩ := hyp
    refine q_getR 10 31 31 dX10_layWedding_28 rfl fiX10_70 rfl f33 f35 ?_
    refine ex_aload_n 32 dX10_layWedding_31 rfl rfl ?_
    refine q_getI 10 28 35 dX10_layWedding_32 rfl fiX10_212 (Or.inl rfl) f33 ?_
    refine ex_iconst 36 dX10_layWedding_35 rfl ?_
    refine ex_isub 37 dX10_layWedding_36 rfl ?_
    refine ex_iconst 38 dX10_layWedding_37 rfl ?_
    obtain ⟨o36, hyp⟩ := hyp
    refine ex_iast 39 dX10_layWedding_38 rfl o36 (fun h37 e38 => ?_)
    have hyp := hyp h37 e38
    refine ex_goto 68 dX10_layWedding_39 (by decide) ?_
    exact ex_vret dX10_layWedding_68 rfl ⟨rfl, hyp⟩
set_option maxRecDepth 4000 in
theorem tX10_isShaky {P : Int → PH → Prop} (h0 : PH) (a0 : Nat) (x1 : Int) (hyp : OB h0 10 a0 ∧ ∃ r2 : Nat, h0.2.2 a0 29 = some r2 ∧ AI h0 20 r2 x1 ∧ ∃ r5 : Nat, h0.2.2 a0 30 = some r5 ∧ AI h0 20 r5 x1 ∧ rng (h0.2.1 r2 (x1).toNat) ∧ (h0.2.1 r2 (x1).toNat = (-1) → (P 0 h0)) ∧ (¬ h0.2.1 r2 (x1).toNat = (-1) → (rng (h0.2.1 r5 (x1).toNat) ∧ (¬ h0.2.1 r5 (x1).toNat = (-1) → (METi mX10_worthOf [vr a0, vi (h0.2.1 r2 (x1).toNat), vi (h0.2.1 r5 (x1).toNat)] h0 (fun y12 h10 => h10.1 = h0.1 → (∃ r14 : Nat, h10.2.2 a0 9 = some r14 ∧ AI h10 20 r14 2 ∧ EXi mX10_isShaky 47 [some (vr a0), none, some (vi (h0.2.1 r2 (x1).toNat)), some (vi (h0.2.1 r5 (x1).toNat)), some (vi (y12 - (h10.2.1 r14 (2 : Int).toNat))), some (vi 0), some (vi 0), none, none] [] h10 P)))) ∧ (h0.2.1 r5 (x1).toNat = (-1) → (P 0 h0))))) : METi mX10_isShaky [vr a0, vi x1] h0 P := by
  refine met_of_ex (by decide +kernel) (Nat.le_of_ble_eq_true rfl) ?_
  show EX mX10_isShaky 0 [some (vr a0), some (vi x1), none, none, none, none, none, none, none] [] h0 (0, 0) _
  refine ex_aload_n 1 dX10_isShaky_0 rfl rfl ?_
  obtain ⟨o1, hyp⟩ := hyp
  obtain ⟨r2, f3, hyp⟩ := hyp
  refine q_getR 10 29 4 dX10_isShaky_1 rfl fiX10_64 rfl o1 f3 ?_
  refine ex_iload_n 5 dX10_isShaky_4 rfl rfl ?_
  obtain ⟨o4, hyp⟩ := hyp
  refine ex_iald 6 dX10_isShaky_5 rfl o4 ?_
  refine q_istore_n [some (vr a0), some (vi x1), some (vi (h0.2.1 r2 (x1).toNat)), none, none, none, none, none, none] 7 dX10_isShaky_6 rfl (Nat.le_of_ble_eq_true rfl) rfl rfl ?_
  refine ex_aload_n 8 dX10_isShaky_7 rfl rfl ?_
  obtain ⟨r5, f6, hyp⟩ := hyp
  refine q_getR 10 30 11 dX10_isShaky_8 rfl fiX10_67 rfl o1 f6 ?_
  refine ex_iload_n 12 dX10_isShaky_11 rfl rfl ?_
  obtain ⟨o7, hyp⟩ := hyp
  refine ex_iald 13 dX10_isShaky_12 rfl o7 ?_
  refine q_istore_n [some (vr a0), some (vi x1), some (vi (h0.2.1 r2 (x1).toNat)), some (vi (h0.2.1 r5 (x1).toNat)), none, none, none, none, none] 14 dX10_isShaky_13 rfl (Nat.le_of_ble_eq_true rfl) rfl rfl ?_
  refine ex_iload_n 15 dX10_isShaky_14 rfl rfl ?_
  refine ex_iconst 16 dX10_isShaky_15 rfl ?_
  obtain ⟨o8, hyp⟩ := hyp
  obtain ⟨ht, hf⟩ := hyp
  refine ex_icmp_eq 24 19 dX10_isShaky_16 (by decide) rfl o8 ⟨by decide, by decide⟩ (fun c18 => ?_) (fun c18 => ?_)
  · have hyp := ht c18
    clear ht hf
    refine ex_iconst 25 dX10_isShaky_24 rfl ?_
    exact ex_iret dX10_isShaky_25 (Or.inr ⟨rfl, Or.inl rfl⟩) ⟨_, rfl, hyp⟩
  · have hyp := hf c18
    clear ht hf
    refine ex_iload_n 20 dX10_isShaky_19 rfl rfl ?_
    refine ex_iconst 21 dX10_isShaky_20 rfl ?_
    obtain ⟨o9, hyp⟩ := hyp
    obtain ⟨ht, hf⟩ := hyp
    refine ex_icmp_ne 26 24 dX10_isShaky_21 (by decide) rfl o9 ⟨by decide, by decide⟩ (fun c17 => ?_) (fun c17 => ?_)
    · have hyp := ht c17
      clear ht hf
      refine ex_aload_n 27 dX10_isShaky_26 rfl rfl ?_
      refine ex_iload_n 28 dX10_isShaky_27 rfl rfl ?_
      refine ex_iload_n 29 dX10_isShaky_28 rfl rfl ?_
      refine q_callVi [vi (h0.2.1 r2 (x1).toNat), vi (h0.2.1 r5 (x1).toNat)] 32 dX10_isShaky_29 rfl cvX10_175 rfl rfl ⟨Nat.le_of_ble_eq_true rfl, Nat.le_of_ble_eq_true rfl⟩ (Nat.le_of_ble_eq_true rfl) o1 hyp (fun y12 h10 k11 hyp => ?_)
      refine ex_aload_n 33 dX10_isShaky_32 rfl rfl ?_
      have f13 := OB.of k11 o1
      obtain ⟨r14, f15, hyp⟩ := hyp
      refine q_getR 10 9 36 dX10_isShaky_33 rfl fiX10_31 rfl f13 f15 ?_
      refine ex_iconst 37 dX10_isShaky_36 rfl ?_
      obtain ⟨o16, hyp⟩ := hyp
      refine ex_iald 38 dX10_isShaky_37 rfl o16 ?_
      refine ex_isub 39 dX10_isShaky_38 rfl ?_
      refine q_istore [some (vr a0), some (vi x1), some (vi (h0.2.1 r2 (x1).toNat)), some (vi (h0.2.1 r5 (x1).toNat)), some (vi (y12 - (h10.2.1 r14 (2 : Int).toNat))), none, none, none, none] 41 dX10_isShaky_39 rfl (Nat.le_of_ble_eq_true rfl) rfl rfl ?_
      refine ex_iconst 42 dX10_isShaky_41 rfl ?_
      refine q_istore [some (vr a0), some (vi x1), some (vi (h0.2.1 r2 (x1).toNat)), some (vi (h0.2.1 r5 (x1).toNat)), some (vi (y12 - (h10.2.1 r14 (2 : Int).toNat))), some (vi 0), none, none, none] 44 dX10_isShaky_42 rfl (Nat.le_of_ble_eq_true rfl) rfl rfl ?_
      refine ex_iconst 45 dX10_isShaky_44 rfl ?_
      refine q_istore [some (vr a0), some (vi x1), some (vi (h0.2.1 r2 (x1).toNat)), some (vi (h0.2.1 r5 (x1).toNat)), some (vi (y12 - (h10.2.1 r14 (2 : Int).toNat))), some (vi 0), some (vi 0), none, none] 47 dX10_isShaky_45 rfl (Nat.le_of_ble_eq_true rfl) rfl rfl ?_
      refine ex_dropL (ls' := [some (vr a0), none, some (vi (h0.2.1 r2 (x1).toNat)), some (vi (h0.2.1 r5 (x1).toNat)), some (vi (y12 - (h10.2.1 r14 (2 : Int).toNat))), some (vi 0), some (vi 0), none, none]) 1 rfl ?_
      exact hyp
    · have hyp := hf c17
      clear ht hf
      refine ex_iconst 25 dX10_isShaky_24 rfl ?_
      exact ex_iret dX10_isShaky_25 (Or.inr ⟨rfl, Or.inl rfl⟩) ⟨_, rfl, hyp⟩
set_option maxRecDepth 4000 in
theorem tX10_isShaky_47 {P : Int → PH → Prop} (h0 : PH) (a0 : Nat) (x2 : Int) (x3 : Int) (x4 : Int) (x5 : Int) (x6 : Int) (hyp : OB h0 10 a0 ∧ rng x6 ∧ rng (h0.2.1 a0 2) ∧ (h0.2.1 a0 2 ≤ x6 → ((x5 = 0 ∨ x5 = 1) ∧ P x5 h0)) ∧ (x6 < h0.2.1 a0 2 → (∃ r4 : Nat, h0.2.2 a0 3 = some r4 ∧ AI h0 20 r4 x6 ∧ rng (h0.2.1 r4 (x6).toNat) ∧ (¬ h0.2.1 r4 (x6).toNat = 2 → (EXi mX10_isShaky 99 [some (vr a0), none, some (vi x2), some (vi x3), some (vi x4), some (vi x5), some (vi x6), none, none] [] h0 P)) ∧ (h0.2.1 r4 (x6).toNat = 2 → (rng x3 ∧ (x6 = x3 → (EXi mX10_isShaky 99 [some (vr a0), none, some (vi x2), some (vi x3), some (vi x4), some (vi x5), some (vi x6), none, none] [] h0 P)) ∧ (¬ x6 = x3 → (METi mX10_isFit [vr a0, vi x2, vi x6] h0 (fun y11 h9 => h9.1 = h0.1 → (rng y11 ∧ (y11 = 0 → (EXi mX10_isShaky 99 [some (vr a0), none, some (vi x2), some (vi x3), some (vi x4), some (vi x5), some (vi x6), none, none] [] h9 P)) ∧ (¬ y11 = 0 → (METi mX10_worthOf [vr a0, vi x2, vi x6] h9 (fun y16 h14 => h14.1 = h9.1 → (rng y16 ∧ rng x4 ∧ (y16 < x4 → (EXi mX10_isShaky 99 [some (vr a0), none, some (vi x2), some (vi x3), some (vi x4), some (vi x5), some (vi x6), none, none] [] h14 P)) ∧ (x4 ≤ y16 → (EXi mX10_isShaky 100 [some (vr a0), none, some (vi x2), some (vi x3), some (vi x4), some (vi x5), some (vi x6), none, none] [vi 1] h14 P))))))))))))))) : EXi mX10_isShaky 47 [some (vr a0), none, some (vi x2), some (vi x3), some (vi x4), some (vi x5), some (vi x6), none, none] [] h0 P := by
  refine ex_iload 49 dX10_isShaky_47 rfl rfl ?_
  refine ex_aload_n 50 dX10_isShaky_49 rfl rfl ?_
  obtain ⟨o1, hyp⟩ := hyp
  refine q_getI 10 2 53 dX10_isShaky_50 rfl fiX10_118 (Or.inl rfl) o1 ?_
  obtain ⟨o2, hyp⟩ := hyp
  obtain ⟨o3, hyp⟩ := hyp
  obtain ⟨ht, hf⟩ := hyp
  refine ex_icmp_ge 175 56 dX10_isShaky_53 (by decide) rfl o2 o3 (fun c23 => ?_) (fun c23 => ?_)
  · have hyp := ht c23
    clear ht hf
    refine ex_iload 177 dX10_isShaky_175 rfl rfl ?_
    exact ex_iret dX10_isShaky_177 (Or.inr ⟨rfl, hyp.1⟩) ⟨_, rfl, hyp.2⟩
  · have hyp := hf c23
    clear ht hf
    refine ex_aload_n 57 dX10_isShaky_56 rfl rfl ?_
    obtain ⟨r4, f5, hyp⟩ := hyp
    refine q_getR 10 3 60 dX10_isShaky_57 rfl fiX10_13 rfl o1 f5 ?_
    refine ex_iload 62 dX10_isShaky_60 rfl rfl ?_
    obtain ⟨o6, hyp⟩ := hyp
    refine ex_iald 63 dX10_isShaky_62 rfl o6 ?_
    refine ex_iconst 64 dX10_isShaky_63 rfl ?_
    obtain ⟨o7, hyp⟩ := hyp
    obtain ⟨ht, hf⟩ := hyp
    refine ex_icmp_ne 99 67 dX10_isShaky_64 (by decide) rfl o7 ⟨by decide, by decide⟩ (fun c22 => ?_) (fun c22 => ?_)
    · have hyp := ht c22
      clear ht hf
      exact hyp
    · have hyp := hf c22
      clear ht hf
      refine ex_iload 69 dX10_isShaky_67 rfl rfl ?_
      refine ex_iload_n 70 dX10_isShaky_69 rfl rfl ?_
      obtain ⟨o8, hyp⟩ := hyp
      obtain ⟨ht, hf⟩ := hyp
      refine ex_icmp_eq 99 73 dX10_isShaky_70 (by decide) rfl o2 o8 (fun c21 => ?_) (fun c21 => ?_)
      · have hyp := ht c21
        clear ht hf
        exact hyp
      · have hyp := hf c21
        clear ht hf
        refine ex_aload_n 74 dX10_isShaky_73 rfl rfl ?_
        refine ex_iload_n 75 dX10_isShaky_74 rfl rfl ?_
        refine ex_iload 77 dX10_isShaky_75 rfl rfl ?_
        refine q_callVi [vi x2, vi x6] 80 dX10_isShaky_77 rfl cvX10_172 rfl rfl ⟨Nat.le_of_ble_eq_true rfl, Nat.le_of_ble_eq_true rfl⟩ (Nat.le_of_ble_eq_true rfl) o1 hyp (fun y11 h9 k10 hyp => ?_)
        obtain ⟨o12, hyp⟩ := hyp
        obtain ⟨ht, hf⟩ := hyp
        refine ex_if_eq 99 83 dX10_isShaky_80 (by decide) rfl o12 (fun c20 => ?_) (fun c20 => ?_)
        · have hyp := ht c20
          clear ht hf
          exact hyp
        · have hyp := hf c20
          clear ht hf
          refine ex_aload_n 84 dX10_isShaky_83 rfl rfl ?_
          refine ex_iload_n 85 dX10_isShaky_84 rfl rfl ?_
          refine ex_iload 87 dX10_isShaky_85 rfl rfl ?_
          have f13 := OB.of k10 o1
          refine q_callVi [vi x2, vi x6] 90 dX10_isShaky_87 rfl cvX10_175 rfl rfl ⟨Nat.le_of_ble_eq_true rfl, Nat.le_of_ble_eq_true rfl⟩ (Nat.le_of_ble_eq_true rfl) f13 hyp (fun y16 h14 k15 hyp => ?_)
          refine ex_iload 92 dX10_isShaky_90 rfl rfl ?_
          obtain ⟨o17, hyp⟩ := hyp
          obtain ⟨o18, hyp⟩ := hyp
          obtain ⟨ht, hf⟩ := hyp
          refine ex_icmp_lt 99 95 dX10_isShaky_92 (by decide) rfl o17 o18 (fun c19 => ?_) (fun c19 => ?_)
          · have hyp := ht c19
            clear ht hf
            exact hyp
          · have hyp := hf c19
            clear ht hf
            refine ex_iconst 96 dX10_isShaky_95 rfl ?_
            refine ex_goto 100 dX10_isShaky_96 (by decide) ?_
            exact hyp
set_option maxRecDepth 4000 in
theorem tX10_isShaky_99 {P : Int → PH → Prop} (h0 : PH) (a0 : Nat) (x2 : Int) (x3 : Int) (x4 : Int) (x5 : Int) (x6 : Int) (hyp : EXi mX10_isShaky 100 [some (vr a0), none, some (vi x2), some (vi x3), some (vi x4), some (vi x5), some (vi x6), none, none] [vi 0] h0 P) : EXi mX10_isShaky 99 [some (vr a0), none, some (vi x2), some (vi x3), some (vi x4), some (vi x5), some (vi x6), none, none] [] h0 P := by
  refine ex_iconst 100 dX10_isShaky_99 rfl ?_
  exact hyp
set_option maxRecDepth 4000 in
theorem tX10_isShaky_100 {P : Int → PH → Prop} (h0 : PH) (a0 : Nat) (x2 : Int) (x3 : Int) (x4 : Int) (x5 : Int) (x6 : Int) (xs0 : Int) (hyp : OB h0 10 a0 ∧ ∃ r2 : Nat, h0.2.2 a0 3 = some r2 ∧ AI h0 20 r2 x6 ∧ rng (h0.2.1 r2 (x6).toNat) ∧ (¬ h0.2.1 r2 (x6).toNat = 0 → (rng x5 ∧ (¬ x5 = 0 → (EXi mX10_isShaky 47 [some (vr a0), none, some (vi x2), some (vi x3), some (vi x4), some (vi 1), some (vi (x6 + 1)), none, none] [] h0 P)) ∧ (x5 = 0 → (rng xs0 ∧ (¬ xs0 = 0 → (EXi mX10_isShaky 47 [some (vr a0), none, some (vi x2), some (vi x3), some (vi x4), some (vi 1), some (vi (x6 + 1)), none, none] [] h0 P)) ∧ (xs0 = 0 → (EXi mX10_isShaky 47 [some (vr a0), none, some (vi x2), some (vi x3), some (vi x4), some (vi 0), some (vi (x6 + 1)), none, none] [] h0 P)))))) ∧ (h0.2.1 r2 (x6).toNat = 0 → (rng x6 ∧ rng x2 ∧ (x6 = x2 → (rng x5 ∧ (¬ x5 = 0 → (EXi mX10_isShaky 47 [some (vr a0), none, some (vi x2), some (vi x3), some (vi x4), some (vi 1), some (vi (x6 + 1)), none, none] [] h0 P)) ∧ (x5 = 0 → (rng xs0 ∧ (¬ xs0 = 0 → (EXi mX10_isShaky 47 [some (vr a0), none, some (vi x2), some (vi x3), some (vi x4), some (vi 1), some (vi (x6 + 1)), none, none] [] h0 P)) ∧ (xs0 = 0 → (EXi mX10_isShaky 47 [some (vr a0), none, some (vi x2), some (vi x3), some (vi x4), some (vi 0), some (vi (x6 + 1)), none, none] [] h0 P)))))) ∧ (¬ x6 = x2 → (METi mX10_isFit [vr a0, vi x6, vi x3] h0 (fun y18 h16 => h16.1 = h0.1 → (rng y18 ∧ (y18 = 0 → (rng x5 ∧ (¬ x5 = 0 → (EXi mX10_isShaky 47 [some (vr a0), none, some (vi x2), some (vi x3), some (vi x4), some (vi 1), some (vi (x6 + 1)), none, none] [] h16 P)) ∧ (x5 = 0 → (rng xs0 ∧ (¬ xs0 = 0 → (EXi mX10_isShaky 47 [some (vr a0), none, some (vi x2), some (vi x3), some (vi x4), some (vi 1), some (vi (x6 + 1)), none, none] [] h16 P)) ∧ (xs0 = 0 → (EXi mX10_isShaky 47 [some (vr a0), none, some (vi x2), some (vi x3), some (vi x4), some (vi 0), some (vi (x6 + 1)), none, none] [] h16 P)))))) ∧ (¬ y18 = 0 → (METi mX10_worthOf [vr a0, vi x6, vi x3] h16 (fun y27 h25 => h25.1 = h16.1 → (rng y27 ∧ rng x4 ∧ (y27 < x4 → (rng x5 ∧ (¬ x5 = 0 → (EXi mX10_isShaky 47 [some (vr a0), none, some (vi x2), some (vi x3), some (vi x4), some (vi 1), some (vi (x6 + 1)), none, none] [] h25 P)) ∧ (x5 = 0 → (rng xs0 ∧ (¬ xs0 = 0 → (EXi mX10_isShaky 47 [some (vr a0), none, some (vi x2), some (vi x3), some (vi x4), some (vi 1), some (vi (x6 + 1)), none, none] [] h25 P)) ∧ (xs0 = 0 → (EXi mX10_isShaky 47 [some (vr a0), none, some (vi x2), some (vi x3), some (vi x4), some (vi 0), some (vi (x6 + 1)), none, none] [] h25 P)))))) ∧ (x4 ≤ y27 → (rng x5 ∧ (¬ x5 = 0 → (EXi mX10_isShaky 47 [some (vr a0), none, some (vi x2), some (vi x3), some (vi x4), some (vi 1), some (vi (x6 + 1)), none, none] [] h25 P)) ∧ (x5 = 0 → (rng xs0 ∧ (¬ xs0 = 0 → (EXi mX10_isShaky 47 [some (vr a0), none, some (vi x2), some (vi x3), some (vi x4), some (vi 1), some (vi (x6 + 1)), none, none] [] h25 P)) ∧ (xs0 = 0 → (EXi mX10_isShaky 47 [some (vr a0), none, some (vi x2), some (vi x3), some (vi x4), some (vi 1), some (vi (x6 + 1)), none, none] [] h25 P))))))))))))))))) : EXi mX10_isShaky 100 [some (vr a0), none, some (vi x2), some (vi x3), some (vi x4), some (vi x5), some (vi x6), none, none] [vi xs0] h0 P := by
  refine q_istore [some (vr a0), none, some (vi x2), some (vi x3), some (vi x4), some (vi x5), some (vi x6), some (vi xs0), none] 102 dX10_isShaky_100 rfl (Nat.le_of_ble_eq_true rfl) rfl rfl ?_
  refine ex_aload_n 103 dX10_isShaky_102 rfl rfl ?_
  obtain ⟨o1, hyp⟩ := hyp
  obtain ⟨r2, f3, hyp⟩ := hyp
  refine q_getR 10 3 106 dX10_isShaky_103 rfl fiX10_13 rfl o1 f3 ?_
  refine ex_iload 108 dX10_isShaky_106 rfl rfl ?_
  obtain ⟨o4, hyp⟩ := hyp
  refine ex_iald 109 dX10_isShaky_108 rfl o4 ?_
  obtain ⟨o5, hyp⟩ := hyp
  obtain ⟨ht, hf⟩ := hyp
  refine ex_if_ne 144 112 dX10_isShaky_109 (by decide) rfl o5 (fun c41 => ?_) (fun c41 => ?_)
  · have hyp := ht c41
    clear ht hf
    refine ex_iconst 145 dX10_isShaky_144 rfl ?_
    refine q_istore [some (vr a0), none, some (vi x2), some (vi x3), some (vi x4), some (vi x5), some (vi x6), some (vi xs0), some (vi 0)] 147 dX10_isShaky_145 rfl (Nat.le_of_ble_eq_true rfl) rfl rfl ?_
    refine ex_iload 149 dX10_isShaky_147 rfl rfl ?_
    obtain ⟨o6, hyp⟩ := hyp
    obtain ⟨ht, hf⟩ := hyp
    refine ex_if_ne 162 152 dX10_isShaky_149 (by decide) rfl o6 (fun c9 => ?_) (fun c9 => ?_)
    · have hyp := ht c9
      clear ht hf
      refine ex_iconst 163 dX10_isShaky_162 rfl ?_
      refine ex_goto 167 dX10_isShaky_163 (by decide) ?_
      refine q_istore [some (vr a0), none, some (vi x2), some (vi x3), some (vi x4), some (vi 1), some (vi x6), some (vi xs0), some (vi 0)] 169 dX10_isShaky_167 rfl (Nat.le_of_ble_eq_true rfl) rfl rfl ?_
      refine q_iinc [some (vr a0), none, some (vi x2), some (vi x3), some (vi x4), some (vi 1), some (vi (x6 + 1)), some (vi xs0), some (vi 0)] 172 dX10_isShaky_169 rfl rfl (Nat.le_of_ble_eq_true rfl) rfl rfl ?_
      refine ex_goto 47 dX10_isShaky_172 (by decide) ?_
      refine ex_dropL (ls' := [some (vr a0), none, some (vi x2), some (vi x3), some (vi x4), some (vi 1), some (vi (x6 + 1)), none, some (vi 0)]) 7 rfl ?_
      refine ex_dropL (ls' := [some (vr a0), none, some (vi x2), some (vi x3), some (vi x4), some (vi 1), some (vi (x6 + 1)), none, none]) 8 rfl ?_
      exact hyp
    · have hyp := hf c9
      clear ht hf
      refine ex_iload 154 dX10_isShaky_152 rfl rfl ?_
      obtain ⟨o7, hyp⟩ := hyp
      obtain ⟨ht, hf⟩ := hyp
      refine ex_if_ne 162 157 dX10_isShaky_154 (by decide) rfl o7 (fun c8 => ?_) (fun c8 => ?_)
      · have hyp := ht c8
        clear ht hf
        refine ex_iconst 163 dX10_isShaky_162 rfl ?_
        refine ex_goto 167 dX10_isShaky_163 (by decide) ?_
        refine q_istore [some (vr a0), none, some (vi x2), some (vi x3), some (vi x4), some (vi 1), some (vi x6), some (vi xs0), some (vi 0)] 169 dX10_isShaky_167 rfl (Nat.le_of_ble_eq_true rfl) rfl rfl ?_
        refine q_iinc [some (vr a0), none, some (vi x2), some (vi x3), some (vi x4), some (vi 1), some (vi (x6 + 1)), some (vi xs0), some (vi 0)] 172 dX10_isShaky_169 rfl rfl (Nat.le_of_ble_eq_true rfl) rfl rfl ?_
        refine ex_goto 47 dX10_isShaky_172 (by decide) ?_
        refine ex_dropL (ls' := [some (vr a0), none, some (vi x2), some (vi x3), some (vi x4), some (vi 1), some (vi (x6 + 1)), none, some (vi 0)]) 7 rfl ?_
        refine ex_dropL (ls' := [some (vr a0), none, some (vi x2), some (vi x3), some (vi x4), some (vi 1), some (vi (x6 + 1)), none, none]) 8 rfl ?_
        exact hyp
      · have hyp := hf c8
        clear ht hf
        refine ex_iload 159 dX10_isShaky_157 rfl rfl ?_
        refine ex_if_eq 166 162 dX10_isShaky_159 (by decide) rfl ⟨by decide, by decide⟩ (fun _ => ?_) (fun c => absurd c (by decide))
        refine ex_iconst 167 dX10_isShaky_166 rfl ?_
        refine q_istore [some (vr a0), none, some (vi x2), some (vi x3), some (vi x4), some (vi 0), some (vi x6), some (vi xs0), some (vi 0)] 169 dX10_isShaky_167 rfl (Nat.le_of_ble_eq_true rfl) rfl rfl ?_
        refine q_iinc [some (vr a0), none, some (vi x2), some (vi x3), some (vi x4), some (vi 0), some (vi (x6 + 1)), some (vi xs0), some (vi 0)] 172 dX10_isShaky_169 rfl rfl (Nat.le_of_ble_eq_true rfl) rfl rfl ?_
        refine ex_goto 47 dX10_isShaky_172 (by decide) ?_
        refine ex_dropL (ls' := [some (vr a0), none, some (vi x2), some (vi x3), some (vi x4), some (vi 0), some (vi (x6 + 1)), none, some (vi 0)]) 7 rfl ?_
        refine ex_dropL (ls' := [some (vr a0), none, some (vi x2), some (vi x3), some (vi x4), some (vi 0), some (vi (x6 + 1)), none, none]) 8 rfl ?_
        exact hyp
  · have hyp := hf c41
    clear ht hf
    refine ex_iload 114 dX10_isShaky_112 rfl rfl ?_
    refine ex_iload_n 115 dX10_isShaky_114 rfl rfl ?_
    obtain ⟨o10, hyp⟩ := hyp
    obtain ⟨o11, hyp⟩ := hyp
    obtain ⟨ht, hf⟩ := hyp
    refine ex_icmp_eq 144 118 dX10_isShaky_115 (by decide) rfl o10 o11 (fun c40 => ?_) (fun c40 => ?_)
    · have hyp := ht c40
      clear ht hf
      refine ex_iconst 145 dX10_isShaky_144 rfl ?_
      refine q_istore [some (vr a0), none, some (vi x2), some (vi x3), some (vi x4), some (vi x5), some (vi x6), some (vi xs0), some (vi 0)] 147 dX10_isShaky_145 rfl (Nat.le_of_ble_eq_true rfl) rfl rfl ?_
      refine ex_iload 149 dX10_isShaky_147 rfl rfl ?_
      obtain ⟨o12, hyp⟩ := hyp
      obtain ⟨ht, hf⟩ := hyp
      refine ex_if_ne 162 152 dX10_isShaky_149 (by decide) rfl o12 (fun c15 => ?_) (fun c15 => ?_)
      · have hyp := ht c15
        clear ht hf
        refine ex_iconst 163 dX10_isShaky_162 rfl ?_
        refine ex_goto 167 dX10_isShaky_163 (by decide) ?_
        refine q_istore [some (vr a0), none, some (vi x2), some (vi x3), some (vi x4), some (vi 1), some (vi x6), some (vi xs0), some (vi 0)] 169 dX10_isShaky_167 rfl (Nat.le_of_ble_eq_true rfl) rfl rfl ?_
        refine q_iinc [some (vr a0), none, some (vi x2), some (vi x3), some (vi x4), some (vi 1), some (vi (x6 + 1)), some (vi xs0), some (vi 0)] 172 dX10_isShaky_169 rfl rfl (Nat.le_of_ble_eq_true rfl) rfl rfl ?_
        refine ex_goto 47 dX10_isShaky_172 (by decide) ?_
        refine ex_dropL (ls' := [some (vr a0), none, some (vi x2), some (vi x3), some (vi x4), some (vi 1), some (vi (x6 + 1)), none, some (vi 0)]) 7 rfl ?_
        refine ex_dropL (ls' := [some (vr a0), none, some (vi x2), some (vi x3), some (vi x4), some (vi 1), some (vi (x6 + 1)), none, none]) 8 rfl ?_
        exact hyp
      · have hyp := hf c15
        clear ht hf
        refine ex_iload 154 dX10_isShaky_152 rfl rfl ?_
        obtain ⟨o13, hyp⟩ := hyp
        obtain ⟨ht, hf⟩ := hyp
        refine ex_if_ne 162 157 dX10_isShaky_154 (by decide) rfl o13 (fun c14 => ?_) (fun c14 => ?_)
        · have hyp := ht c14
          clear ht hf
          refine ex_iconst 163 dX10_isShaky_162 rfl ?_
          refine ex_goto 167 dX10_isShaky_163 (by decide) ?_
          refine q_istore [some (vr a0), none, some (vi x2), some (vi x3), some (vi x4), some (vi 1), some (vi x6), some (vi xs0), some (vi 0)] 169 dX10_isShaky_167 rfl (Nat.le_of_ble_eq_true rfl) rfl rfl ?_
          refine q_iinc [some (vr a0), none, some (vi x2), some (vi x3), some (vi x4), some (vi 1), some (vi (x6 + 1)), some (vi xs0), some (vi 0)] 172 dX10_isShaky_169 rfl rfl (Nat.le_of_ble_eq_true rfl) rfl rfl ?_
          refine ex_goto 47 dX10_isShaky_172 (by decide) ?_
          refine ex_dropL (ls' := [some (vr a0), none, some (vi x2), some (vi x3), some (vi x4), some (vi 1), some (vi (x6 + 1)), none, some (vi 0)]) 7 rfl ?_
          refine ex_dropL (ls' := [some (vr a0), none, some (vi x2), some (vi x3), some (vi x4), some (vi 1), some (vi (x6 + 1)), none, none]) 8 rfl ?_
          exact hyp
        · have hyp := hf c14
          clear ht hf
          refine ex_iload 159 dX10_isShaky_157 rfl rfl ?_
          refine ex_if_eq 166 162 dX10_isShaky_159 (by decide) rfl ⟨by decide, by decide⟩ (fun _ => ?_) (fun c => absurd c (by decide))
          refine ex_iconst 167 dX10_isShaky_166 rfl ?_
          refine q_istore [some (vr a0), none, some (vi x2), some (vi x3), some (vi x4), some (vi 0), some (vi x6), some (vi xs0), some (vi 0)] 169 dX10_isShaky_167 rfl (Nat.le_of_ble_eq_true rfl) rfl rfl ?_
          refine q_iinc [some (vr a0), none, some (vi x2), some (vi x3), some (vi x4), some (vi 0), some (vi (x6 + 1)), some (vi xs0), some (vi 0)] 172 dX10_isShaky_169 rfl rfl (Nat.le_of_ble_eq_true rfl) rfl rfl ?_
          refine ex_goto 47 dX10_isShaky_172 (by decide) ?_
          refine ex_dropL (ls' := [some (vr a0), none, some (vi x2), some (vi x3), some (vi x4), some (vi 0), some (vi (x6 + 1)), none, some (vi 0)]) 7 rfl ?_
          refine ex_dropL (ls' := [some (vr a0), none, some (vi x2), some (vi x3), some (vi x4), some (vi 0), some (vi (x6 + 1)), none, none]) 8 rfl ?_
          exact hyp
    · have hyp := hf c40
      clear ht hf
      refine ex_aload_n 119 dX10_isShaky_118 rfl rfl ?_
      refine ex_iload 121 dX10_isShaky_119 rfl rfl ?_
      refine ex_iload_n 122 dX10_isShaky_121 rfl rfl ?_
      refine q_callVi [vi x6, vi x3] 125 dX10_isShaky_122 rfl cvX10_172 rfl rfl ⟨Nat.le_of_ble_eq_true rfl, Nat.le_of_ble_eq_true rfl⟩ (Nat.le_of_ble_eq_true rfl) o1 hyp (fun y18 h16 k17 hyp => ?_)
      obtain ⟨o19, hyp⟩ := hyp
      obtain ⟨ht, hf⟩ := hyp
      refine ex_if_eq 144 128 dX10_isShaky_125 (by decide) rfl o19 (fun c39 => ?_) (fun c39 => ?_)
      · have hyp := ht c39
        clear ht hf
        refine ex_iconst 145 dX10_isShaky_144 rfl ?_
        refine q_istore [some (vr a0), none, some (vi x2), some (vi x3), some (vi x4), some (vi x5), some (vi x6), some (vi xs0), some (vi 0)] 147 dX10_isShaky_145 rfl (Nat.le_of_ble_eq_true rfl) rfl rfl ?_
        refine ex_iload 149 dX10_isShaky_147 rfl rfl ?_
        obtain ⟨o20, hyp⟩ := hyp
        obtain ⟨ht, hf⟩ := hyp
        refine ex_if_ne 162 152 dX10_isShaky_149 (by decide) rfl o20 (fun c23 => ?_) (fun c23 => ?_)
        · have hyp := ht c23
          clear ht hf
          refine ex_iconst 163 dX10_isShaky_162 rfl ?_
          refine ex_goto 167 dX10_isShaky_163 (by decide) ?_
          refine q_istore [some (vr a0), none, some (vi x2), some (vi x3), some (vi x4), some (vi 1), some (vi x6), some (vi xs0), some (vi 0)] 169 dX10_isShaky_167 rfl (Nat.le_of_ble_eq_true rfl) rfl rfl ?_
          refine q_iinc [some (vr a0), none, some (vi x2), some (vi x3), some (vi x4), some (vi 1), some (vi (x6 + 1)), some (vi xs0), some (vi 0)] 172 dX10_isShaky_169 rfl rfl (Nat.le_of_ble_eq_true rfl) rfl rfl ?_
          refine ex_goto 47 dX10_isShaky_172 (by decide) ?_
          refine ex_dropL (ls' := [some (vr a0), none, some (vi x2), some (vi x3), some (vi x4), some (vi 1), some (vi (x6 + 1)), none, some (vi 0)]) 7 rfl ?_
          refine ex_dropL (ls' := [some (vr a0), none, some (vi x2), some (vi x3), some (vi x4), some (vi 1), some (vi (x6 + 1)), none, none]) 8 rfl ?_
          exact hyp
        · have hyp := hf c23
          clear ht hf
          refine ex_iload 154 dX10_isShaky_152 rfl rfl ?_
          obtain ⟨o21, hyp⟩ := hyp
          obtain ⟨ht, hf⟩ := hyp
          refine ex_if_ne 162 157 dX10_isShaky_154 (by decide) rfl o21 (fun c22 => ?_) (fun c22 => ?_)
          · have hyp := ht c22
            clear ht hf
            refine ex_iconst 163 dX10_isShaky_162 rfl ?_
            refine ex_goto 167 dX10_isShaky_163 (by decide) ?_
            refine q_istore [some (vr a0), none, some (vi x2), some (vi x3), some (vi x4), some (vi 1), some (vi x6), some (vi xs0), some (vi 0)] 169 dX10_isShaky_167 rfl (Nat.le_of_ble_eq_true rfl) rfl rfl ?_
            refine q_iinc [some (vr a0), none, some (vi x2), some (vi x3), some (vi x4), some (vi 1), some (vi (x6 + 1)), some (vi xs0), some (vi 0)] 172 dX10_isShaky_169 rfl rfl (Nat.le_of_ble_eq_true rfl) rfl rfl ?_
            refine ex_goto 47 dX10_isShaky_172 (by decide) ?_
            refine ex_dropL (ls' := [some (vr a0), none, some (vi x2), some (vi x3), some (vi x4), some (vi 1), some (vi (x6 + 1)), none, some (vi 0)]) 7 rfl ?_
            refine ex_dropL (ls' := [some (vr a0), none, some (vi x2), some (vi x3), some (vi x4), some (vi 1), some (vi (x6 + 1)), none, none]) 8 rfl ?_
            exact hyp
          · have hyp := hf c22
            clear ht hf
            refine ex_iload 159 dX10_isShaky_157 rfl rfl ?_
            refine ex_if_eq 166 162 dX10_isShaky_159 (by decide) rfl ⟨by decide, by decide⟩ (fun _ => ?_) (fun c => absurd c (by decide))
            refine ex_iconst 167 dX10_isShaky_166 rfl ?_
            refine q_istore [some (vr a0), none, some (vi x2), some (vi x3), some (vi x4), some (vi 0), some (vi x6), some (vi xs0), some (vi 0)] 169 dX10_isShaky_167 rfl (Nat.le_of_ble_eq_true rfl) rfl rfl ?_
            refine q_iinc [some (vr a0), none, some (vi x2), some (vi x3), some (vi x4), some (vi 0), some (vi (x6 + 1)), some (vi xs0), some (vi 0)] 172 dX10_isShaky_169 rfl rfl (Nat.le_of_ble_eq_true rfl) rfl rfl ?_
            refine ex_goto 47 dX10_isShaky_172 (by decide) ?_
            refine ex_dropL (ls' := [some (vr a0), none, some (vi x2), some (vi x3), some (vi x4), some (vi 0), some (vi (x6 + 1)), none, some (vi 0)]) 7 rfl ?_
            refine ex_dropL (ls' := [some (vr a0), none, some (vi x2), some (vi x3), some (vi x4), some (vi 0), some (vi (x6 + 1)), none, none]) 8 rfl ?_
            exact hyp
      · have hyp := hf c39
        clear ht hf
        refine ex_aload_n 129 dX10_isShaky_128 rfl rfl ?_
        refine ex_iload 131 dX10_isShaky_129 rfl rfl ?_
        refine ex_iload_n 132 dX10_isShaky_131 rfl rfl ?_
        have f24 := OB.of k17 o1
        refine q_callVi [vi x6, vi x3] 135 dX10_isShaky_132 rfl cvX10_175 rfl rfl ⟨Nat.le_of_ble_eq_true rfl, Nat.le_of_ble_eq_true rfl⟩ (Nat.le_of_ble_eq_true rfl) f24 hyp (fun y27 h25 k26 hyp => ?_)
        refine ex_iload 137 dX10_isShaky_135 rfl rfl ?_
        obtain ⟨o28, hyp⟩ := hyp
        obtain ⟨o29, hyp⟩ := hyp
        obtain ⟨ht, hf⟩ := hyp
        refine ex_icmp_lt 144 140 dX10_isShaky_137 (by decide) rfl o28 o29 (fun c38 => ?_) (fun c38 => ?_)
        · have hyp := ht c38
          clear ht hf
          refine ex_iconst 145 dX10_isShaky_144 rfl ?_
          refine q_istore [some (vr a0), none, some (vi x2), some (vi x3), some (vi x4), some (vi x5), some (vi x6), some (vi xs0), some (vi 0)] 147 dX10_isShaky_145 rfl (Nat.le_of_ble_eq_true rfl) rfl rfl ?_
          refine ex_iload 149 dX10_isShaky_147 rfl rfl ?_
          obtain ⟨o30, hyp⟩ := hyp
          obtain ⟨ht, hf⟩ := hyp
          refine ex_if_ne 162 152 dX10_isShaky_149 (by decide) rfl o30 (fun c33 => ?_) (fun c33 => ?_)
          · have hyp := ht c33
            clear ht hf
            refine ex_iconst 163 dX10_isShaky_162 rfl ?_
            refine ex_goto 167 dX10_isShaky_163 (by decide) ?_
            refine q_istore [some (vr a0), none, some (vi x2), some (vi x3), some (vi x4), some (vi 1), some (vi x6), some (vi xs0), some (vi 0)] 169 dX10_isShaky_167 rfl (Nat.le_of_ble_eq_true rfl) rfl rfl ?_
            refine q_iinc [some (vr a0), none, some (vi x2), some (vi x3), some (vi x4), some (vi 1), some (vi (x6 + 1)), some (vi xs0), some (vi 0)] 172 dX10_isShaky_169 rfl rfl (Nat.le_of_ble_eq_true rfl) rfl rfl ?_
            refine ex_goto 47 dX10_isShaky_172 (by decide) ?_
            refine ex_dropL (ls' := [some (vr a0), none, some (vi x2), some (vi x3), some (vi x4), some (vi 1), some (vi (x6 + 1)), none, some (vi 0)]) 7 rfl ?_
            refine ex_dropL (ls' := [some (vr a0), none, some (vi x2), some (vi x3), some (vi x4), some (vi 1), some (vi (x6 + 1)), none, none]) 8 rfl ?_
            exact hyp
          · have hyp := hf c33
            clear ht hf
            refine ex_iload 154 dX10_isShaky_152 rfl rfl ?_
            obtain ⟨o31, hyp⟩ := hyp
            obtain ⟨ht, hf⟩ := hyp
            refine ex_if_ne 162 157 dX10_isShaky_154 (by decide) rfl o31 (fun c32 => ?_) (fun c32 => ?_)
            · have hyp := ht c32
              clear ht hf
              refine ex_iconst 163 dX10_isShaky_162 rfl ?_
              refine ex_goto 167 dX10_isShaky_163 (by decide) ?_
              refine q_istore [some (vr a0), none, some (vi x2), some (vi x3), some (vi x4), some (vi 1), some (vi x6), some (vi xs0), some (vi 0)] 169 dX10_isShaky_167 rfl (Nat.le_of_ble_eq_true rfl) rfl rfl ?_
              refine q_iinc [some (vr a0), none, some (vi x2), some (vi x3), some (vi x4), some (vi 1), some (vi (x6 + 1)), some (vi xs0), some (vi 0)] 172 dX10_isShaky_169 rfl rfl (Nat.le_of_ble_eq_true rfl) rfl rfl ?_
              refine ex_goto 47 dX10_isShaky_172 (by decide) ?_
              refine ex_dropL (ls' := [some (vr a0), none, some (vi x2), some (vi x3), some (vi x4), some (vi 1), some (vi (x6 + 1)), none, some (vi 0)]) 7 rfl ?_
              refine ex_dropL (ls' := [some (vr a0), none, some (vi x2), some (vi x3), some (vi x4), some (vi 1), some (vi (x6 + 1)), none, none]) 8 rfl ?_
              exact hyp
            · have hyp := hf c32
              clear ht hf
              refine ex_iload 159 dX10_isShaky_157 rfl rfl ?_
              refine ex_if_eq 166 162 dX10_isShaky_159 (by decide) rfl ⟨by decide, by decide⟩ (fun _ => ?_) (fun c => absurd c (by decide))
              refine ex_iconst 167 dX10_isShaky_166 rfl ?_
              refine q_istore [some (vr a0), none, some (vi x2), some (vi x3), some (vi x4), some (vi 0), some (vi x6), some (vi xs0), some (vi 0)] 169 dX10_isShaky_167 rfl (Nat.le_of_ble_eq_true rfl) rfl rfl ?_
              refine q_iinc [some (vr a0), none, some (vi x2), some (vi x3), some (vi x4), some (vi 0), some (vi (x6 + 1)), some (vi xs0), some (vi 0)] 172 dX10_isShaky_169 rfl rfl (Nat.le_of_ble_eq_true rfl) rfl rfl ?_
              refine ex_goto 47 dX10_isShaky_172 (by decide) ?_
              refine ex_dropL (ls' := [some (vr a0), none, some (vi x2), some (vi x3), some (vi x4), some (vi 0), some (vi (x6 + 1)), none, some (vi 0)]) 7 rfl ?_
              refine ex_dropL (ls' := [some (vr a0), none, some (vi x2), some (vi x3), some (vi x4), some (vi 0), some (vi (x6 + 1)), none, none]) 8 rfl ?_
              exact hyp
        · have hyp := hf c38
          clear ht hf
          refine ex_iconst 141 dX10_isShaky_140 rfl ?_
          refine ex_goto 145 dX10_isShaky_141 (by decide) ?_
          refine q_istore [some (vr a0), none, some (vi x2), some (vi x3), some (vi x4), some (vi x5), some (vi x6), some (vi xs0), some (vi 1)] 147 dX10_isShaky_145 rfl (Nat.le_of_ble_eq_true rfl) rfl rfl ?_
          refine ex_iload 149 dX10_isShaky_147 rfl rfl ?_
          obtain ⟨o34, hyp⟩ := hyp
          obtain ⟨ht, hf⟩ := hyp
          refine ex_if_ne 162 152 dX10_isShaky_149 (by decide) rfl o34 (fun c37 => ?_) (fun c37 => ?_)
          · have hyp := ht c37
            clear ht hf
            refine ex_iconst 163 dX10_isShaky_162 rfl ?_
            refine ex_goto 167 dX10_isShaky_163 (by decide) ?_
            refine q_istore [some (vr a0), none, some (vi x2), some (vi x3), some (vi x4), some (vi 1), some (vi x6), some (vi xs0), some (vi 1)] 169 dX10_isShaky_167 rfl (Nat.le_of_ble_eq_true rfl) rfl rfl ?_
            refine q_iinc [some (vr a0), none, some (vi x2), some (vi x3), some (vi x4), some (vi 1), some (vi (x6 + 1)), some (vi xs0), some (vi 1)] 172 dX10_isShaky_169 rfl rfl (Nat.le_of_ble_eq_true rfl) rfl rfl ?_
            refine ex_goto 47 dX10_isShaky_172 (by decide) ?_
            refine ex_dropL (ls' := [some (vr a0), none, some (vi x2), some (vi x3), some (vi x4), some (vi 1), some (vi (x6 + 1)), none, some (vi 1)]) 7 rfl ?_
            refine ex_dropL (ls' := [some (vr a0), none, some (vi x2), some (vi x3), some (vi x4), some (vi 1), some (vi (x6 + 1)), none, none]) 8 rfl ?_
            exact hyp
          · have hyp := hf c37
            clear ht hf
            refine ex_iload 154 dX10_isShaky_152 rfl rfl ?_
            obtain ⟨o35, hyp⟩ := hyp
            obtain ⟨ht, hf⟩ := hyp
            refine ex_if_ne 162 157 dX10_isShaky_154 (by decide) rfl o35 (fun c36 => ?_) (fun c36 => ?_)
            · have hyp := ht c36
              clear ht hf
              refine ex_iconst 163 dX10_isShaky_162 rfl ?_
              refine ex_goto 167 dX10_isShaky_163 (by decide) ?_
              refine q_istore [some (vr a0), none, some (vi x2), some (vi x3), some (vi x4), some (vi 1), some (vi x6), some (vi xs0), some (vi 1)] 169 dX10_isShaky_167 rfl (Nat.le_of_ble_eq_true rfl) rfl rfl ?_
              refine q_iinc [some (vr a0), none, some (vi x2), some (vi x3), some (vi x4), some (vi 1), some (vi (x6 + 1)), some (vi xs0), some (vi 1)] 172 dX10_isShaky_169 rfl rfl (Nat.le_of_ble_eq_true rfl) rfl rfl ?_
              refine ex_goto 47 dX10_isShaky_172 (by decide) ?_
              refine ex_dropL (ls' := [some (vr a0), none, some (vi x2), some (vi x3), some (vi x4), some (vi 1), some (vi (x6 + 1)), none, some (vi 1)]) 7 rfl ?_
              refine ex_dropL (ls' := [some (vr a0), none, some (vi x2), some (vi x3), some (vi x4), some (vi 1), some (vi (x6 + 1)), none, none]) 8 rfl ?_
              exact hyp
            · have hyp := hf c36
              clear ht hf
              refine ex_iload 159 dX10_isShaky_157 rfl rfl ?_
              refine ex_if_eq 166 162 dX10_isShaky_159 (by decide) rfl ⟨by decide, by decide⟩ (fun c => absurd c (by decide)) (fun _ => ?_)
              refine ex_iconst 163 dX10_isShaky_162 rfl ?_
              refine ex_goto 167 dX10_isShaky_163 (by decide) ?_
              refine q_istore [some (vr a0), none, some (vi x2), some (vi x3), some (vi x4), some (vi 1), some (vi x6), some (vi xs0), some (vi 1)] 169 dX10_isShaky_167 rfl (Nat.le_of_ble_eq_true rfl) rfl rfl ?_
              refine q_iinc [some (vr a0), none, some (vi x2), some (vi x3), some (vi x4), some (vi 1), some (vi (x6 + 1)), some (vi xs0), some (vi 1)] 172 dX10_isShaky_169 rfl rfl (Nat.le_of_ble_eq_true rfl) rfl rfl ?_
              refine ex_goto 47 dX10_isShaky_172 (by decide) ?_
              refine ex_dropL (ls' := [some (vr a0), none, some (vi x2), some (vi x3), some (vi x4), some (vi 1), some (vi (x6 + 1)), none, some (vi 1)]) 7 rfl ?_
              refine ex_dropL (ls' := [some (vr a0), none, some (vi x2), some (vi x3), some (vi x4), some (vi 1), some (vi (x6 + 1)), none, none]) 8 rfl ?_
              exact hyp
set_option maxRecDepth 4000 in
theorem tX10_entriesOf {P : Int → PH → Prop} (h0 : PH) (a0 : Nat) (x1 : Int) (hyp : EXi mX10_entriesOf 4 [some (vr a0), some (vi x1), some (vi 0), some (vi 0)] [] h0 P) : METi mX10_entriesOf [vr a0, vi x1] h0 P := by
  refine met_of_ex (by decide +kernel) (Nat.le_of_ble_eq_true rfl) ?_
  show EX mX10_entriesOf 0 [some (vr a0), some (vi x1), none, none] [] h0 (0, 0) _
  refine ex_iconst 1 dX10_entriesOf_0 rfl ?_
  refine q_istore_n [some (vr a0), some (vi x1), some (vi 0), none] 2 dX10_entriesOf_1 rfl (Nat.le_of_ble_eq_true rfl) rfl rfl ?_
  refine ex_iconst 3 dX10_entriesOf_2 rfl ?_
  refine q_istore_n [some (vr a0), some (vi x1), some (vi 0), some (vi 0)] 4 dX10_entriesOf_3 rfl (Nat.le_of_ble_eq_true rfl) rfl rfl ?_
  exact hyp
set_option maxRecDepth 4000 in
theorem tX10_entriesOf_4 {P : Int → PH → Prop} (h0 : PH) (a0 : Nat) (x1 : Int) (x2 : Int) (x3 : Int) (hyp : OB h0 10 a0 ∧ rng x3 ∧ rng (h0.2.1 a0 2) ∧ (h0.2.1 a0 2 ≤ x3 → (P x2 h0)) ∧ (x3 < h0.2.1 a0 2 → (METi mX10_isOf [vr a0, vi x3, vi x1] h0 (fun y6 h4 => h4.1 = h0.1 → (rng y6 ∧ (y6 = 0 → (EXi mX10_entriesOf 4 [some (vr a0), some (vi x1), some (vi (x2 + 0)), some (vi (x3 + 1))] [] h4 P)) ∧ (¬ y6 = 0 → (EXi mX10_entriesOf 4 [some (vr a0), some (vi x1), some (vi (x2 + 1)), some (vi (x3 + 1))] [] h4 P))))))) : EXi mX10_entriesOf 4 [some (vr a0), some (vi x1), some (vi x2), some (vi x3)] [] h0 P := by
  refine ex_iload_n 5 dX10_entriesOf_4 rfl rfl ?_
  refine ex_aload_n 6 dX10_entriesOf_5 rfl rfl ?_
  obtain ⟨o1, hyp⟩ := hyp
  refine q_getI 10 2 9 dX10_entriesOf_6 rfl fiX10_118 (Or.inl rfl) o1 ?_
  obtain ⟨o2, hyp⟩ := hyp
  obtain ⟨o3, hyp⟩ := hyp
  obtain ⟨ht, hf⟩ := hyp
  refine ex_icmp_ge 35 12 dX10_entriesOf_9 (by decide) rfl o2 o3 (fun c9 => ?_) (fun c9 => ?_)
  · have hyp := ht c9
    clear ht hf
    refine ex_iload_n 36 dX10_entriesOf_35 rfl rfl ?_
    exact ex_iret dX10_entriesOf_36 (Or.inl rfl) ⟨_, rfl, hyp⟩
  · have hyp := hf c9
    clear ht hf
    refine ex_iload_n 13 dX10_entriesOf_12 rfl rfl ?_
    refine ex_aload_n 14 dX10_entriesOf_13 rfl rfl ?_
    refine ex_iload_n 15 dX10_entriesOf_14 rfl rfl ?_
    refine ex_iload_n 16 dX10_entriesOf_15 rfl rfl ?_
    refine q_callVi [vi x3, vi x1] 19 dX10_entriesOf_16 rfl cvX10_222 rfl rfl ⟨Nat.le_of_ble_eq_true rfl, Nat.le_of_ble_eq_true rfl⟩ (Nat.le_of_ble_eq_true rfl) o1 hyp (fun y6 h4 k5 hyp => ?_)
    obtain ⟨o7, hyp⟩ := hyp
    obtain ⟨ht, hf⟩ := hyp
    refine ex_if_eq 26 22 dX10_entriesOf_19 (by decide) rfl o7 (fun c8 => ?_) (fun c8 => ?_)
    · have hyp := ht c8
      clear ht hf
      refine ex_iconst 27 dX10_entriesOf_26 rfl ?_
      refine ex_iadd 28 dX10_entriesOf_27 rfl ?_
      refine q_istore_n [some (vr a0), some (vi x1), some (vi (x2 + 0)), some (vi x3)] 29 dX10_entriesOf_28 rfl (Nat.le_of_ble_eq_true rfl) rfl rfl ?_
      refine q_iinc [some (vr a0), some (vi x1), some (vi (x2 + 0)), some (vi (x3 + 1))] 32 dX10_entriesOf_29 rfl rfl (Nat.le_of_ble_eq_true rfl) rfl rfl ?_
      refine ex_goto 4 dX10_entriesOf_32 (by decide) ?_
      exact hyp
    · have hyp := hf c8
      clear ht hf
      refine ex_iconst 23 dX10_entriesOf_22 rfl ?_
      refine ex_goto 27 dX10_entriesOf_23 (by decide) ?_
      refine ex_iadd 28 dX10_entriesOf_27 rfl ?_
      refine q_istore_n [some (vr a0), some (vi x1), some (vi (x2 + 1)), some (vi x3)] 29 dX10_entriesOf_28 rfl (Nat.le_of_ble_eq_true rfl) rfl rfl ?_
      refine q_iinc [some (vr a0), some (vi x1), some (vi (x2 + 1)), some (vi (x3 + 1))] 32 dX10_entriesOf_29 rfl rfl (Nat.le_of_ble_eq_true rfl) rfl rfl ?_
      refine ex_goto 4 dX10_entriesOf_32 (by decide) ?_
      exact hyp
set_option maxRecDepth 4000 in
theorem tX10_doubtful {P : Int → PH → Prop} (h0 : PH) (a0 : Nat) (hyp : EXi mX10_doubtful 4 [some (vr a0), some (vi 0), some (vi 0)] [] h0 P) : METi mX10_doubtful [vr a0] h0 P := by
  refine met_of_ex (by decide +kernel) (Nat.le_of_ble_eq_true rfl) ?_
  show EX mX10_doubtful 0 [some (vr a0), none, none] [] h0 (0, 0) _
  refine ex_iconst 1 dX10_doubtful_0 rfl ?_
  refine q_istore_n [some (vr a0), some (vi 0), none] 2 dX10_doubtful_1 rfl (Nat.le_of_ble_eq_true rfl) rfl rfl ?_
  refine ex_iconst 3 dX10_doubtful_2 rfl ?_
  refine q_istore_n [some (vr a0), some (vi 0), some (vi 0)] 4 dX10_doubtful_3 rfl (Nat.le_of_ble_eq_true rfl) rfl rfl ?_
  exact hyp
set_option maxRecDepth 4000 in
theorem tX10_doubtful_4 {P : Int → PH → Prop} (h0 : PH) (a0 : Nat) (x1 : Int) (x2 : Int) (hyp : OB h0 10 a0 ∧ rng x2 ∧ rng (h0.2.1 a0 2) ∧ (h0.2.1 a0 2 ≤ x2 → (P x1 h0)) ∧ (x2 < h0.2.1 a0 2 → (∃ r4 : Nat, h0.2.2 a0 32 = some r4 ∧ AI h0 20 r4 x2 ∧ rng (h0.2.1 r4 (x2).toNat) ∧ (¬ h0.2.1 r4 (x2).toNat = (-1) → (EXi mX10_doubtful 4 [some (vr a0), some (vi (x1 + 0)), some (vi (x2 + 1))] [] h0 P)) ∧ (h0.2.1 r4 (x2).toNat = (-1) → (EXi mX10_doubtful 4 [some (vr a0), some (vi (x1 + 1)), some (vi (x2 + 1))] [] h0 P))))) : EXi mX10_doubtful 4 [some (vr a0), some (vi x1), some (vi x2)] [] h0 P := by
  refine ex_iload_n 5 dX10_doubtful_4 rfl rfl ?_
  refine ex_aload_n 6 dX10_doubtful_5 rfl rfl ?_
  obtain ⟨o1, hyp⟩ := hyp
  refine q_getI 10 2 9 dX10_doubtful_6 rfl fiX10_118 (Or.inl rfl) o1 ?_
  obtain ⟨o2, hyp⟩ := hyp
  obtain ⟨o3, hyp⟩ := hyp
  obtain ⟨ht, hf⟩ := hyp
  refine ex_icmp_ge 36 12 dX10_doubtful_9 (by decide) rfl o2 o3 (fun c9 => ?_) (fun c9 => ?_)
  · have hyp := ht c9
    clear ht hf
    refine ex_iload_n 37 dX10_doubtful_36 rfl rfl ?_
    exact ex_iret dX10_doubtful_37 (Or.inl rfl) ⟨_, rfl, hyp⟩
  · have hyp := hf c9
    clear ht hf
    refine ex_iload_n 13 dX10_doubtful_12 rfl rfl ?_
    refine ex_aload_n 14 dX10_doubtful_13 rfl rfl ?_
    obtain ⟨r4, f5, hyp⟩ := hyp
    refine q_getR 10 32 17 dX10_doubtful_14 rfl fiX10_73 rfl o1 f5 ?_
    refine ex_iload_n 18 dX10_doubtful_17 rfl rfl ?_
    obtain ⟨o6, hyp⟩ := hyp
    refine ex_iald 19 dX10_doubtful_18 rfl o6 ?_
    refine ex_iconst 20 dX10_doubtful_19 rfl ?_
    obtain ⟨o7, hyp⟩ := hyp
    obtain ⟨ht, hf⟩ := hyp
    refine ex_icmp_ne 27 23 dX10_doubtful_20 (by decide) rfl o7 ⟨by decide, by decide⟩ (fun c8 => ?_) (fun c8 => ?_)
    · have hyp := ht c8
      clear ht hf
      refine ex_iconst 28 dX10_doubtful_27 rfl ?_
      refine ex_iadd 29 dX10_doubtful_28 rfl ?_
      refine q_istore_n [some (vr a0), some (vi (x1 + 0)), some (vi x2)] 30 dX10_doubtful_29 rfl (Nat.le_of_ble_eq_true rfl) rfl rfl ?_
      refine q_iinc [some (vr a0), some (vi (x1 + 0)), some (vi (x2 + 1))] 33 dX10_doubtful_30 rfl rfl (Nat.le_of_ble_eq_true rfl) rfl rfl ?_
      refine ex_goto 4 dX10_doubtful_33 (by decide) ?_
      exact hyp
    · have hyp := hf c8
      clear ht hf
      refine ex_iconst 24 dX10_doubtful_23 rfl ?_
      refine ex_goto 28 dX10_doubtful_24 (by decide) ?_
      refine ex_iadd 29 dX10_doubtful_28 rfl ?_
      refine q_istore_n [some (vr a0), some (vi (x1 + 1)), some (vi x2)] 30 dX10_doubtful_29 rfl (Nat.le_of_ble_eq_true rfl) rfl rfl ?_
      refine q_iinc [some (vr a0), some (vi (x1 + 1)), some (vi (x2 + 1))] 33 dX10_doubtful_30 rfl rfl (Nat.le_of_ble_eq_true rfl) rfl rfl ?_
      refine ex_goto 4 dX10_doubtful_33 (by decide) ?_
      exact hyp
set_option maxRecDepth 4000 in
theorem tX10_shakyMany {P : Int → PH → Prop} (h0 : PH) (a0 : Nat) (hyp : EXi mX10_shakyMany 4 [some (vr a0), some (vi 0), some (vi 0)] [] h0 P) : METi mX10_shakyMany [vr a0] h0 P := by
  refine met_of_ex (by decide +kernel) (Nat.le_of_ble_eq_true rfl) ?_
  show EX mX10_shakyMany 0 [some (vr a0), none, none] [] h0 (0, 0) _
  refine ex_iconst 1 dX10_shakyMany_0 rfl ?_
  refine q_istore_n [some (vr a0), some (vi 0), none] 2 dX10_shakyMany_1 rfl (Nat.le_of_ble_eq_true rfl) rfl rfl ?_
  refine ex_iconst 3 dX10_shakyMany_2 rfl ?_
  refine q_istore_n [some (vr a0), some (vi 0), some (vi 0)] 4 dX10_shakyMany_3 rfl (Nat.le_of_ble_eq_true rfl) rfl rfl ?_
  exact hyp
set_option maxRecDepth 4000 in
theorem tX10_shakyMany_4 {P : Int → PH → Prop} (h0 : PH) (a0 : Nat) (x1 : Int) (x2 : Int) (hyp : OB h0 10 a0 ∧ rng x2 ∧ rng (h0.2.1 a0 28) ∧ (h0.2.1 a0 28 ≤ x2 → (P x1 h0)) ∧ (x2 < h0.2.1 a0 28 → (METi mX10_isShaky [vr a0, vi x2] h0 (fun y6 h4 => h4.1 = h0.1 → (rng y6 ∧ (y6 = 0 → (EXi mX10_shakyMany 4 [some (vr a0), some (vi (x1 + 0)), some (vi (x2 + 1))] [] h4 P)) ∧ (¬ y6 = 0 → (EXi mX10_shakyMany 4 [some (vr a0), some (vi (x1 + 1)), some (vi (x2 + 1))] [] h4 P))))))) : EXi mX10_shakyMany 4 [some (vr a0), some (vi x1), some (vi x2)] [] h0 P := by
  refine ex_iload_n 5 dX10_shakyMany_4 rfl rfl ?_
  refine ex_aload_n 6 dX10_shakyMany_5 rfl rfl ?_
  obtain ⟨o1, hyp⟩ := hyp
  refine q_getI 10 28 9 dX10_shakyMany_6 rfl fiX10_212 (Or.inl rfl) o1 ?_
  obtain ⟨o2, hyp⟩ := hyp
  obtain ⟨o3, hyp⟩ := hyp
  obtain ⟨ht, hf⟩ := hyp
  refine ex_icmp_ge 34 12 dX10_shakyMany_9 (by decide) rfl o2 o3 (fun c9 => ?_) (fun c9 => ?_)
  · have hyp := ht c9
    clear ht hf
    refine ex_iload_n 35 dX10_shakyMany_34 rfl rfl ?_
    exact ex_iret dX10_shakyMany_35 (Or.inl rfl) ⟨_, rfl, hyp⟩
  · have hyp := hf c9
    clear ht hf
    refine ex_iload_n 13 dX10_shakyMany_12 rfl rfl ?_
    refine ex_aload_n 14 dX10_shakyMany_13 rfl rfl ?_
    refine ex_iload_n 15 dX10_shakyMany_14 rfl rfl ?_
    refine q_callVi [vi x2] 18 dX10_shakyMany_15 rfl cvX10_244 rfl rfl ⟨Nat.le_of_ble_eq_true rfl, Nat.le_of_ble_eq_true rfl⟩ (Nat.le_of_ble_eq_true rfl) o1 hyp (fun y6 h4 k5 hyp => ?_)
    obtain ⟨o7, hyp⟩ := hyp
    obtain ⟨ht, hf⟩ := hyp
    refine ex_if_eq 25 21 dX10_shakyMany_18 (by decide) rfl o7 (fun c8 => ?_) (fun c8 => ?_)
    · have hyp := ht c8
      clear ht hf
      refine ex_iconst 26 dX10_shakyMany_25 rfl ?_
      refine ex_iadd 27 dX10_shakyMany_26 rfl ?_
      refine q_istore_n [some (vr a0), some (vi (x1 + 0)), some (vi x2)] 28 dX10_shakyMany_27 rfl (Nat.le_of_ble_eq_true rfl) rfl rfl ?_
      refine q_iinc [some (vr a0), some (vi (x1 + 0)), some (vi (x2 + 1))] 31 dX10_shakyMany_28 rfl rfl (Nat.le_of_ble_eq_true rfl) rfl rfl ?_
      refine ex_goto 4 dX10_shakyMany_31 (by decide) ?_
      exact hyp
    · have hyp := hf c8
      clear ht hf
      refine ex_iconst 22 dX10_shakyMany_21 rfl ?_
      refine ex_goto 26 dX10_shakyMany_22 (by decide) ?_
      refine ex_iadd 27 dX10_shakyMany_26 rfl ?_
      refine q_istore_n [some (vr a0), some (vi (x1 + 1)), some (vi x2)] 28 dX10_shakyMany_27 rfl (Nat.le_of_ble_eq_true rfl) rfl rfl ?_
      refine q_iinc [some (vr a0), some (vi (x1 + 1)), some (vi (x2 + 1))] 31 dX10_shakyMany_28 rfl rfl (Nat.le_of_ble_eq_true rfl) rfl rfl ?_
      refine ex_goto 4 dX10_shakyMany_31 (by decide) ?_
      exact hyp
set_option maxRecDepth 4000 in
theorem tX10_onlyMany {P : Int → PH → Prop} (h0 : PH) (a0 : Nat) (hyp : EXi mX10_onlyMany 4 [some (vr a0), some (vi 0), some (vi 0)] [] h0 P) : METi mX10_onlyMany [vr a0] h0 P := by
  refine met_of_ex (by decide +kernel) (Nat.le_of_ble_eq_true rfl) ?_
  show EX mX10_onlyMany 0 [some (vr a0), none, none] [] h0 (0, 0) _
  refine ex_iconst 1 dX10_onlyMany_0 rfl ?_
  refine q_istore_n [some (vr a0), some (vi 0), none] 2 dX10_onlyMany_1 rfl (Nat.le_of_ble_eq_true rfl) rfl rfl ?_
  refine ex_iconst 3 dX10_onlyMany_2 rfl ?_
  refine q_istore_n [some (vr a0), some (vi 0), some (vi 0)] 4 dX10_onlyMany_3 rfl (Nat.le_of_ble_eq_true rfl) rfl rfl ?_
  exact hyp
set_option maxRecDepth 4000 in
theorem tX10_onlyMany_4 {P : Int → PH → Prop} (h0 : PH) (a0 : Nat) (x1 : Int) (x2 : Int) (hyp : OB h0 10 a0 ∧ rng x2 ∧ rng (h0.2.1 a0 28) ∧ (h0.2.1 a0 28 ≤ x2 → (P x1 h0)) ∧ (x2 < h0.2.1 a0 28 → (METi mX10_entriesOf [vr a0, vi x2] h0 (fun y6 h4 => h4.1 = h0.1 → (rng y6 ∧ (¬ y6 = 1 → (EXi mX10_onlyMany 4 [some (vr a0), some (vi (x1 + 0)), some (vi (x2 + 1))] [] h4 P)) ∧ (y6 = 1 → (EXi mX10_onlyMany 4 [some (vr a0), some (vi (x1 + 1)), some (vi (x2 + 1))] [] h4 P))))))) : EXi mX10_onlyMany 4 [some (vr a0), some (vi x1), some (vi x2)] [] h0 P := by
  refine ex_iload_n 5 dX10_onlyMany_4 rfl rfl ?_
  refine ex_aload_n 6 dX10_onlyMany_5 rfl rfl ?_
  obtain ⟨o1, hyp⟩ := hyp
  refine q_getI 10 28 9 dX10_onlyMany_6 rfl fiX10_212 (Or.inl rfl) o1 ?_
  obtain ⟨o2, hyp⟩ := hyp
  obtain ⟨o3, hyp⟩ := hyp
  obtain ⟨ht, hf⟩ := hyp
  refine ex_icmp_ge 35 12 dX10_onlyMany_9 (by decide) rfl o2 o3 (fun c9 => ?_) (fun c9 => ?_)
  · have hyp := ht c9
    clear ht hf
    refine ex_iload_n 36 dX10_onlyMany_35 rfl rfl ?_
    exact ex_iret dX10_onlyMany_36 (Or.inl rfl) ⟨_, rfl, hyp⟩
  · have hyp := hf c9
    clear ht hf
    refine ex_iload_n 13 dX10_onlyMany_12 rfl rfl ?_
    refine ex_aload_n 14 dX10_onlyMany_13 rfl rfl ?_
    refine ex_iload_n 15 dX10_onlyMany_14 rfl rfl ?_
    refine q_callVi [vi x2] 18 dX10_onlyMany_15 rfl cvX10_247 rfl rfl ⟨Nat.le_of_ble_eq_true rfl, Nat.le_of_ble_eq_true rfl⟩ (Nat.le_of_ble_eq_true rfl) o1 hyp (fun y6 h4 k5 hyp => ?_)
    refine ex_iconst 19 dX10_onlyMany_18 rfl ?_
    obtain ⟨o7, hyp⟩ := hyp
    obtain ⟨ht, hf⟩ := hyp
    refine ex_icmp_ne 26 22 dX10_onlyMany_19 (by decide) rfl o7 ⟨by decide, by decide⟩ (fun c8 => ?_) (fun c8 => ?_)
    · have hyp := ht c8
      clear ht hf
      refine ex_iconst 27 dX10_onlyMany_26 rfl ?_
      refine ex_iadd 28 dX10_onlyMany_27 rfl ?_
      refine q_istore_n [some (vr a0), some (vi (x1 + 0)), some (vi x2)] 29 dX10_onlyMany_28 rfl (Nat.le_of_ble_eq_true rfl) rfl rfl ?_
      refine q_iinc [some (vr a0), some (vi (x1 + 0)), some (vi (x2 + 1))] 32 dX10_onlyMany_29 rfl rfl (Nat.le_of_ble_eq_true rfl) rfl rfl ?_
      refine ex_goto 4 dX10_onlyMany_32 (by decide) ?_
      exact hyp
    · have hyp := hf c8
      clear ht hf
      refine ex_iconst 23 dX10_onlyMany_22 rfl ?_
      refine ex_goto 27 dX10_onlyMany_23 (by decide) ?_
      refine ex_iadd 28 dX10_onlyMany_27 rfl ?_
      refine q_istore_n [some (vr a0), some (vi (x1 + 1)), some (vi x2)] 29 dX10_onlyMany_28 rfl (Nat.le_of_ble_eq_true rfl) rfl rfl ?_
      refine q_iinc [some (vr a0), some (vi (x1 + 1)), some (vi (x2 + 1))] 32 dX10_onlyMany_29 rfl rfl (Nat.le_of_ble_eq_true rfl) rfl rfl ?_
      refine ex_goto 4 dX10_onlyMany_32 (by decide) ?_
      exact hyp
set_option maxRecDepth 4000 in
theorem tX10_livesNow {P : Int → PH → Prop} (h0 : PH) (a0 : Nat) (x1 : Int) (hyp : OB h0 10 a0 ∧ METv mX10_layLives [vr a0] h0 (0, 0) (fun h2 => h2.1 = h0.1 → (rng x1 ∧ (x1 < 0 ∨ 4 < x1 → (METi mX10_onlyMany [vr a0] h2 (fun y8 h6 => h6.1 = h2.1 → (P y8 h6)))) ∧ (x1 = 0 → (P (h2.2.1 a0 28) h2)) ∧ (x1 = 1 → (P (h2.2.1 a0 26) h2)) ∧ (x1 = 2 → (P (h2.2.1 a0 27) h2)) ∧ (x1 = 3 → (METi mX10_doubtful [vr a0] h2 (fun y15 h13 => h13.1 = h2.1 → (P y15 h13)))) ∧ (x1 = 4 → (METi mX10_shakyMany [vr a0] h2 (fun y19 h17 => h17.1 = h2.1 → (P y19 h17))))))) : METi mX10_livesNow [vr a0, vi x1] h0 P := by
  refine met_of_ex (by decide +kernel) (Nat.le_of_ble_eq_true rfl) ?_
  show EX mX10_livesNow 0 [some (vr a0), some (vi x1)] [] h0 (0, 0) _
  refine ex_aload_n 1 dX10_livesNow_0 rfl rfl ?_
  obtain ⟨o1, hyp⟩ := hyp
  refine q_callVv [] 4 dX10_livesNow_1 rfl cvX10_250 rfl rfl ⟨Nat.le_of_ble_eq_true rfl, Nat.le_of_ble_eq_true rfl⟩ (Nat.le_of_ble_eq_true rfl) o1 hyp (fun h2 k3 hyp => ?_)
  refine ex_iload_n 5 dX10_livesNow_4 rfl rfl ?_
  obtain ⟨o4, hyp⟩ := hyp
  obtain ⟨hd, hv0, hv1, hv2, hv3, hv4⟩ := hyp
  rcases (show (x1 < 0 ∨ 4 < x1) ∨ x1 = 0 ∨ x1 = 1 ∨ x1 = 2 ∨ x1 = 3 ∨ x1 = 4 by omega) with c | c | c | c | c | c
  · refine ex_tswOut 65 dX10_livesNow_5 o4 c (by decide) ?_
    have hyp := hd c
    refine ex_aload_n 66 dX10_livesNow_65 rfl rfl ?_
    have f5 := OB.of k3 o1
    refine q_callVi [] 69 dX10_livesNow_66 rfl cvX10_259 rfl rfl ⟨Nat.le_of_ble_eq_true rfl, Nat.le_of_ble_eq_true rfl⟩ (Nat.le_of_ble_eq_true rfl) f5 hyp (fun y8 h6 k7 hyp => ?_)
    exact ex_iret dX10_livesNow_69 (Or.inl rfl) ⟨_, rfl, hyp⟩
  · refine ex_tswIn 0 40 dX10_livesNow_5 c ⟨by decide, by decide⟩ (by decide) (by decide) rfl (by decide) ?_
    have hyp := hv0 c
    refine ex_aload_n 41 dX10_livesNow_40 rfl rfl ?_
    have f9 := OB.of k3 o1
    refine q_getI 10 28 44 dX10_livesNow_41 rfl fiX10_212 (Or.inl rfl) f9 ?_
    exact ex_iret dX10_livesNow_44 (Or.inl rfl) ⟨_, rfl, hyp⟩
  · refine ex_tswIn 1 45 dX10_livesNow_5 c ⟨by decide, by decide⟩ (by decide) (by decide) rfl (by decide) ?_
    have hyp := hv1 c
    refine ex_aload_n 46 dX10_livesNow_45 rfl rfl ?_
    have f10 := OB.of k3 o1
    refine q_getI 10 26 49 dX10_livesNow_46 rfl fiX10_206 (Or.inl rfl) f10 ?_
    exact ex_iret dX10_livesNow_49 (Or.inl rfl) ⟨_, rfl, hyp⟩
  · refine ex_tswIn 2 50 dX10_livesNow_5 c ⟨by decide, by decide⟩ (by decide) (by decide) rfl (by decide) ?_
    have hyp := hv2 c
    refine ex_aload_n 51 dX10_livesNow_50 rfl rfl ?_
    have f11 := OB.of k3 o1
    refine q_getI 10 27 54 dX10_livesNow_51 rfl fiX10_209 (Or.inl rfl) f11 ?_
    exact ex_iret dX10_livesNow_54 (Or.inl rfl) ⟨_, rfl, hyp⟩
  · refine ex_tswIn 3 55 dX10_livesNow_5 c ⟨by decide, by decide⟩ (by decide) (by decide) rfl (by decide) ?_
    have hyp := hv3 c
    refine ex_aload_n 56 dX10_livesNow_55 rfl rfl ?_
    have f12 := OB.of k3 o1
    refine q_callVi [] 59 dX10_livesNow_56 rfl cvX10_253 rfl rfl ⟨Nat.le_of_ble_eq_true rfl, Nat.le_of_ble_eq_true rfl⟩ (Nat.le_of_ble_eq_true rfl) f12 hyp (fun y15 h13 k14 hyp => ?_)
    exact ex_iret dX10_livesNow_59 (Or.inl rfl) ⟨_, rfl, hyp⟩
  · refine ex_tswIn 4 60 dX10_livesNow_5 c ⟨by decide, by decide⟩ (by decide) (by decide) rfl (by decide) ?_
    have hyp := hv4 c
    refine ex_aload_n 61 dX10_livesNow_60 rfl rfl ?_
    have f16 := OB.of k3 o1
    refine q_callVi [] 64 dX10_livesNow_61 rfl cvX10_256 rfl rfl ⟨Nat.le_of_ble_eq_true rfl, Nat.le_of_ble_eq_true rfl⟩ (Nat.le_of_ble_eq_true rfl) f16 hyp (fun y19 h17 k18 hyp => ?_)
    exact ex_iret dX10_livesNow_64 (Or.inl rfl) ⟨_, rfl, hyp⟩
set_option maxRecDepth 4000 in
theorem tX10_lives {P : Int → PH → Prop} (h0 : PH) (a0 : Nat) (x1 : Int) (hyp : METi mX10_within [vi x1, vi 0, vi 5] h0 (fun y3 h1 => h1.1 = h0.1 → (rng y3 ∧ (y3 = 0 → (P (-102) h1)) ∧ (¬ y3 = 0 → (OB h1 10 a0 ∧ METi mX10_livesNow [vr a0, vi x1] h1 (fun y8 h6 => h6.1 = h1.1 → (P y8 h6))))))) : METi mX10_lives [vr a0, vi x1] h0 P := by
  refine met_of_ex (by decide +kernel) (Nat.le_of_ble_eq_true rfl) ?_
  show EX mX10_lives 0 [some (vr a0), some (vi x1)] [] h0 (0, 0) _
  refine ex_iload_n 1 dX10_lives_0 rfl rfl ?_
  refine ex_iconst 2 dX10_lives_1 rfl ?_
  refine ex_iconst 3 dX10_lives_2 rfl ?_
  refine q_callSi [vi x1, vi 0, vi 5] 6 dX10_lives_3 rfl cvX10_76 rfl rfl ⟨Nat.le_of_ble_eq_true rfl, Nat.le_of_ble_eq_true rfl⟩ (Nat.le_of_ble_eq_true rfl) hyp (fun y3 h1 k2 hyp => ?_)
  obtain ⟨o4, hyp⟩ := hyp
  obtain ⟨ht, hf⟩ := hyp
  refine ex_if_eq 17 9 dX10_lives_6 (by decide) rfl o4 (fun c9 => ?_) (fun c9 => ?_)
  · have hyp := ht c9
    clear ht hf
    refine ex_bipush 19 dX10_lives_17 rfl ⟨by decide, by decide⟩ ?_
    exact ex_iret dX10_lives_19 (Or.inl rfl) ⟨_, rfl, hyp⟩
  · have hyp := hf c9
    clear ht hf
    refine ex_aload_n 10 dX10_lives_9 rfl rfl ?_
    refine ex_iload_n 11 dX10_lives_10 rfl rfl ?_
    obtain ⟨o5, hyp⟩ := hyp
    refine q_callVi [vi x1] 14 dX10_lives_11 rfl cvX10_262 rfl rfl ⟨Nat.le_of_ble_eq_true rfl, Nat.le_of_ble_eq_true rfl⟩ (Nat.le_of_ble_eq_true rfl) o5 hyp (fun y8 h6 k7 hyp => ?_)
    refine ex_goto 19 dX10_lives_14 (by decide) ?_
    exact ex_iret dX10_lives_19 (Or.inl rfl) ⟨_, rfl, hyp⟩
set_option maxRecDepth 4000 in
theorem tX10_bornOf {P : Int → PH → Prop} (h0 : PH) (a0 : Nat) (x1 : Int) (x2 : Int) (hyp : EXi mX10_bornOf 10 [some (vr a0), some (vi x1), some (vi x2), some (vi 0), some (vi 100000), some (vi 0)] [] h0 P) : METi mX10_bornOf [vr a0, vi x1, vi x2] h0 P := by
  refine met_of_ex (by decide +kernel) (Nat.le_of_ble_eq_true rfl) ?_
  show EX mX10_bornOf 0 [some (vr a0), some (vi x1), some (vi x2), none, none, none] [] h0 (0, 0) _
  refine ex_iconst 1 dX10_bornOf_0 rfl ?_
  refine q_istore_n [some (vr a0), some (vi x1), some (vi x2), some (vi 0), none, none] 2 dX10_bornOf_1 rfl (Nat.le_of_ble_eq_true rfl) rfl rfl ?_
  refine ex_ldcw (n := 100000) 5 dX10_bornOf_2 rfl (wt5 189 rfl rfl) ?_
  refine q_istore [some (vr a0), some (vi x1), some (vi x2), some (vi 0), some (vi 100000), none] 7 dX10_bornOf_5 rfl (Nat.le_of_ble_eq_true rfl) rfl rfl ?_
  refine ex_iconst 8 dX10_bornOf_7 rfl ?_
  refine q_istore [some (vr a0), some (vi x1), some (vi x2), some (vi 0), some (vi 100000), some (vi 0)] 10 dX10_bornOf_8 rfl (Nat.le_of_ble_eq_true rfl) rfl rfl ?_
  exact hyp
set_option maxRecDepth 4000 in
theorem tX10_bornOf_10 {P : Int → PH → Prop} (h0 : PH) (a0 : Nat) (x1 : Int) (x2 : Int) (x3 : Int) (x4 : Int) (x5 : Int) (hyp : OB h0 10 a0 ∧ rng x5 ∧ rng (h0.2.1 a0 2) ∧ (h0.2.1 a0 2 ≤ x5 → (rng x3 ∧ rng x4 ∧ (x3 ≤ x4 → (rng x2 ∧ (x2 = 0 → (P x4 h0)) ∧ (¬ x2 = 0 → (P x3 h0)))) ∧ (x4 < x3 → (P (-1) h0)))) ∧ (x5 < h0.2.1 a0 2 → (METi mX10_isOf [vr a0, vi x5, vi x1] h0 (fun y11 h9 => h9.1 = h0.1 → (rng y11 ∧ (y11 = 0 → (EXi mX10_bornOf 10 [some (vr a0), some (vi x1), some (vi x2), some (vi x3), some (vi x4), some (vi (x5 + 1))] [] h9 P)) ∧ (¬ y11 = 0 → (METi mX10_firstBorn [vr a0, vi x5] h9 (fun y16 h14 => h14.1 = h9.1 → (METi mX10_greater [vi x3, vi y16] h14 (fun y19 h17 => h17.1 = h14.1 → (METi mX10_lastBorn [vr a0, vi x5] h17 (fun y24 h22 => h22.1 = h17.1 → (METi mX10_lesser [vi x4, vi y24] h22 (fun y27 h25 => h25.1 = h22.1 → (EXi mX10_bornOf 10 [some (vr a0), some (vi x1), some (vi x2), some (vi y19), some (vi y27), some (vi (x5 + 1))] [] h25 P))))))))))))))) : EXi mX10_bornOf 10 [some (vr a0), some (vi x1), some (vi x2), some (vi x3), some (vi x4), some (vi x5)] [] h0 P := by
  refine ex_iload 12 dX10_bornOf_10 rfl rfl ?_
  refine ex_aload_n 13 dX10_bornOf_12 rfl rfl ?_
  obtain ⟨o1, hyp⟩ := hyp
  refine q_getI 10 2 16 dX10_bornOf_13 rfl fiX10_118 (Or.inl rfl) o1 ?_
  obtain ⟨o2, hyp⟩ := hyp
  obtain ⟨o3, hyp⟩ := hyp
  obtain ⟨ht, hf⟩ := hyp
  refine ex_icmp_ge 59 19 dX10_bornOf_16 (by decide) rfl o2 o3 (fun c29 => ?_) (fun c29 => ?_)
  · have hyp := ht c29
    clear ht hf
    refine ex_iload_n 60 dX10_bornOf_59 rfl rfl ?_
    refine ex_iload 62 dX10_bornOf_60 rfl rfl ?_
    obtain ⟨o4, hyp⟩ := hyp
    obtain ⟨o5, hyp⟩ := hyp
    obtain ⟨ht, hf⟩ := hyp
    refine ex_icmp_le 69 65 dX10_bornOf_62 (by decide) rfl o4 o5 (fun c8 => ?_) (fun c8 => ?_)
    · have hyp := ht c8
      clear ht hf
      refine ex_iload_n 70 dX10_bornOf_69 rfl rfl ?_
      obtain ⟨o6, hyp⟩ := hyp
      obtain ⟨ht, hf⟩ := hyp
      refine ex_if_eq 77 73 dX10_bornOf_70 (by decide) rfl o6 (fun c7 => ?_) (fun c7 => ?_)
      · have hyp := ht c7
        clear ht hf
        refine ex_iload 79 dX10_bornOf_77 rfl rfl ?_
        exact ex_iret dX10_bornOf_79 (Or.inl rfl) ⟨_, rfl, hyp⟩
      · have hyp := hf c7
        clear ht hf
        refine ex_iload_n 74 dX10_bornOf_73 rfl rfl ?_
        refine ex_goto 79 dX10_bornOf_74 (by decide) ?_
        exact ex_iret dX10_bornOf_79 (Or.inl rfl) ⟨_, rfl, hyp⟩
    · have hyp := hf c8
      clear ht hf
      refine ex_iconst 66 dX10_bornOf_65 rfl ?_
      refine ex_goto 79 dX10_bornOf_66 (by decide) ?_
      exact ex_iret dX10_bornOf_79 (Or.inl rfl) ⟨_, rfl, hyp⟩
  · have hyp := hf c29
    clear ht hf
    refine ex_aload_n 20 dX10_bornOf_19 rfl rfl ?_
    refine ex_iload 22 dX10_bornOf_20 rfl rfl ?_
    refine ex_iload_n 23 dX10_bornOf_22 rfl rfl ?_
    refine q_callVi [vi x5, vi x1] 26 dX10_bornOf_23 rfl cvX10_222 rfl rfl ⟨Nat.le_of_ble_eq_true rfl, Nat.le_of_ble_eq_true rfl⟩ (Nat.le_of_ble_eq_true rfl) o1 hyp (fun y11 h9 k10 hyp => ?_)
    obtain ⟨o12, hyp⟩ := hyp
    obtain ⟨ht, hf⟩ := hyp
    refine ex_if_eq 53 29 dX10_bornOf_26 (by decide) rfl o12 (fun c28 => ?_) (fun c28 => ?_)
    · have hyp := ht c28
      clear ht hf
      refine q_iinc [some (vr a0), some (vi x1), some (vi x2), some (vi x3), some (vi x4), some (vi (x5 + 1))] 56 dX10_bornOf_53 rfl rfl (Nat.le_of_ble_eq_true rfl) rfl rfl ?_
      refine ex_goto 10 dX10_bornOf_56 (by decide) ?_
      exact hyp
    · have hyp := hf c28
      clear ht hf
      refine ex_iload_n 30 dX10_bornOf_29 rfl rfl ?_
      refine ex_aload_n 31 dX10_bornOf_30 rfl rfl ?_
      refine ex_iload 33 dX10_bornOf_31 rfl rfl ?_
      have f13 := OB.of k10 o1
      refine q_callVi [vi x5] 36 dX10_bornOf_33 rfl cvX10_151 rfl rfl ⟨Nat.le_of_ble_eq_true rfl, Nat.le_of_ble_eq_true rfl⟩ (Nat.le_of_ble_eq_true rfl) f13 hyp (fun y16 h14 k15 hyp => ?_)
      refine q_callSi [vi x3, vi y16] 39 dX10_bornOf_36 rfl cvX10_148 rfl rfl ⟨Nat.le_of_ble_eq_true rfl, Nat.le_of_ble_eq_true rfl⟩ (Nat.le_of_ble_eq_true rfl) hyp (fun y19 h17 k18 hyp => ?_)
      refine q_istore_n [some (vr a0), some (vi x1), some (vi x2), some (vi y19), some (vi x4), some (vi x5)] 40 dX10_bornOf_39 rfl (Nat.le_of_ble_eq_true rfl) rfl rfl ?_
      refine ex_iload 42 dX10_bornOf_40 rfl rfl ?_
      refine ex_aload_n 43 dX10_bornOf_42 rfl rfl ?_
      refine ex_iload 45 dX10_bornOf_43 rfl rfl ?_
      have f20 := OB.of k15 f13
      have f21 := OB.of k18 f20
      refine q_callVi [vi x5] 48 dX10_bornOf_45 rfl cvX10_154 rfl rfl ⟨Nat.le_of_ble_eq_true rfl, Nat.le_of_ble_eq_true rfl⟩ (Nat.le_of_ble_eq_true rfl) f21 hyp (fun y24 h22 k23 hyp => ?_)
      refine q_callSi [vi x4, vi y24] 51 dX10_bornOf_48 rfl cvX10_138 rfl rfl ⟨Nat.le_of_ble_eq_true rfl, Nat.le_of_ble_eq_true rfl⟩ (Nat.le_of_ble_eq_true rfl) hyp (fun y27 h25 k26 hyp => ?_)
      refine q_istore [some (vr a0), some (vi x1), some (vi x2), some (vi y19), some (vi y27), some (vi x5)] 53 dX10_bornOf_51 rfl (Nat.le_of_ble_eq_true rfl) rfl rfl ?_
      refine q_iinc [some (vr a0), some (vi x1), some (vi x2), some (vi y19), some (vi y27), some (vi (x5 + 1))] 56 dX10_bornOf_53 rfl rfl (Nat.le_of_ble_eq_true rfl) rfl rfl ?_
      refine ex_goto 10 dX10_bornOf_56 (by decide) ?_
      exact hyp
set_option maxRecDepth 4000 in
theorem tX10_lastYear {P : Int → PH → Prop} (h0 : PH) (a0 : Nat) (x1 : Int) (hyp : EXi mX10_lastYear 4 [some (vr a0), some (vi x1), some (vi 0), some (vi 0)] [] h0 P) : METi mX10_lastYear [vr a0, vi x1] h0 P := by
  refine met_of_ex (by decide +kernel) (Nat.le_of_ble_eq_true rfl) ?_
  show EX mX10_lastYear 0 [some (vr a0), some (vi x1), none, none] [] h0 (0, 0) _
  refine ex_iconst 1 dX10_lastYear_0 rfl ?_
  refine q_istore_n [some (vr a0), some (vi x1), some (vi 0), none] 2 dX10_lastYear_1 rfl (Nat.le_of_ble_eq_true rfl) rfl rfl ?_
  refine ex_iconst 3 dX10_lastYear_2 rfl ?_
  refine q_istore_n [some (vr a0), some (vi x1), some (vi 0), some (vi 0)] 4 dX10_lastYear_3 rfl (Nat.le_of_ble_eq_true rfl) rfl rfl ?_
  exact hyp
set_option maxRecDepth 4000 in
theorem tX10_lastYear_4 {P : Int → PH → Prop} (h0 : PH) (a0 : Nat) (x1 : Int) (x2 : Int) (x3 : Int) (hyp : OB h0 10 a0 ∧ rng x3 ∧ rng (h0.2.1 a0 2) ∧ (h0.2.1 a0 2 ≤ x3 → (P x2 h0)) ∧ (x3 < h0.2.1 a0 2 → (METi mX10_isOf [vr a0, vi x3, vi x1] h0 (fun y6 h4 => h4.1 = h0.1 → (rng y6 ∧ (y6 = 0 → (EXi mX10_lastYear 4 [some (vr a0), some (vi x1), some (vi x2), some (vi (x3 + 1))] [] h4 P)) ∧ (¬ y6 = 0 → (∃ r9 : Nat, h4.2.2 a0 4 = some r9 ∧ AI h4 20 r9 x3 ∧ METi mX10_greater [vi x2, vi (h4.2.1 r9 (x3).toNat)] h4 (fun y14 h12 => h12.1 = h4.1 → (EXi mX10_lastYear 4 [some (vr a0), some (vi x1), some (vi y14), some (vi (x3 + 1))] [] h12 P))))))))) : EXi mX10_lastYear 4 [some (vr a0), some (vi x1), some (vi x2), some (vi x3)] [] h0 P := by
  refine ex_iload_n 5 dX10_lastYear_4 rfl rfl ?_
  refine ex_aload_n 6 dX10_lastYear_5 rfl rfl ?_
  obtain ⟨o1, hyp⟩ := hyp
  refine q_getI 10 2 9 dX10_lastYear_6 rfl fiX10_118 (Or.inl rfl) o1 ?_
  obtain ⟨o2, hyp⟩ := hyp
  obtain ⟨o3, hyp⟩ := hyp
  obtain ⟨ht, hf⟩ := hyp
  refine ex_icmp_ge 42 12 dX10_lastYear_9 (by decide) rfl o2 o3 (fun c16 => ?_) (fun c16 => ?_)
  · have hyp := ht c16
    clear ht hf
    refine ex_iload_n 43 dX10_lastYear_42 rfl rfl ?_
    exact ex_iret dX10_lastYear_43 (Or.inl rfl) ⟨_, rfl, hyp⟩
  · have hyp := hf c16
    clear ht hf
    refine ex_aload_n 13 dX10_lastYear_12 rfl rfl ?_
    refine ex_iload_n 14 dX10_lastYear_13 rfl rfl ?_
    refine ex_iload_n 15 dX10_lastYear_14 rfl rfl ?_
    refine q_callVi [vi x3, vi x1] 18 dX10_lastYear_15 rfl cvX10_222 rfl rfl ⟨Nat.le_of_ble_eq_true rfl, Nat.le_of_ble_eq_true rfl⟩ (Nat.le_of_ble_eq_true rfl) o1 hyp (fun y6 h4 k5 hyp => ?_)
    obtain ⟨o7, hyp⟩ := hyp
    obtain ⟨ht, hf⟩ := hyp
    refine ex_if_eq 34 21 dX10_lastYear_18 (by decide) rfl o7 (fun c15 => ?_) (fun c15 => ?_)
    · have hyp := ht c15
      clear ht hf
      refine ex_iload_n 35 dX10_lastYear_34 rfl rfl ?_
      refine q_istore_n [some (vr a0), some (vi x1), some (vi x2), some (vi x3)] 36 dX10_lastYear_35 rfl (Nat.le_of_ble_eq_true rfl) rfl rfl ?_
      refine q_iinc [some (vr a0), some (vi x1), some (vi x2), some (vi (x3 + 1))] 39 dX10_lastYear_36 rfl rfl (Nat.le_of_ble_eq_true rfl) rfl rfl ?_
      refine ex_goto 4 dX10_lastYear_39 (by decide) ?_
      exact hyp
    · have hyp := hf c15
      clear ht hf
      refine ex_iload_n 22 dX10_lastYear_21 rfl rfl ?_
      refine ex_aload_n 23 dX10_lastYear_22 rfl rfl ?_
      have f8 := OB.of k5 o1
      obtain ⟨r9, f10, hyp⟩ := hyp
      refine q_getR 10 4 26 dX10_lastYear_23 rfl fiX10_16 rfl f8 f10 ?_
      refine ex_iload_n 27 dX10_lastYear_26 rfl rfl ?_
      obtain ⟨o11, hyp⟩ := hyp
      refine ex_iald 28 dX10_lastYear_27 rfl o11 ?_
      refine q_callSi [vi x2, vi (h4.2.1 r9 (x3).toNat)] 31 dX10_lastYear_28 rfl cvX10_148 rfl rfl ⟨Nat.le_of_ble_eq_true rfl, Nat.le_of_ble_eq_true rfl⟩ (Nat.le_of_ble_eq_true rfl) hyp (fun y14 h12 k13 hyp => ?_)
      refine ex_goto 35 dX10_lastYear_31 (by decide) ?_
      refine q_istore_n [some (vr a0), some (vi x1), some (vi y14), some (vi x3)] 36 dX10_lastYear_35 rfl (Nat.le_of_ble_eq_true rfl) rfl rfl ?_
      refine q_iinc [some (vr a0), some (vi x1), some (vi y14), some (vi (x3 + 1))] 39 dX10_lastYear_36 rfl rfl (Nat.le_of_ble_eq_true rfl) rfl rfl ?_
      refine ex_goto 4 dX10_lastYear_39 (by decide) ?_
      exact hyp
set_option maxRecDepth 4000 in
theorem tX10_lifeNow {P : Int → PH → Prop} (h0 : PH) (a0 : Nat) (x1 : Int) (x2 : Int) (hyp : rng x2 ∧ (x2 < 0 ∨ 6 < x2 → (OB h0 10 a0 ∧ METi mX10_lastYear [vr a0, vi x1] h0 (fun y5 h3 => h3.1 = h0.1 → (P y5 h3)))) ∧ (x2 = 0 → (OB h0 10 a0 ∧ ∃ r7 : Nat, h0.2.2 a0 29 = some r7 ∧ AI h0 20 r7 x1 ∧ P (h0.2.1 r7 (x1).toNat) h0)) ∧ (x2 = 1 → (OB h0 10 a0 ∧ ∃ r11 : Nat, h0.2.2 a0 30 = some r11 ∧ AI h0 20 r11 x1 ∧ P (h0.2.1 r11 (x1).toNat) h0)) ∧ (x2 = 2 → (OB h0 10 a0 ∧ ∃ r15 : Nat, h0.2.2 a0 31 = some r15 ∧ AI h0 20 r15 x1 ∧ P (h0.2.1 r15 (x1).toNat) h0)) ∧ (x2 = 3 → (OB h0 10 a0 ∧ METi mX10_bornOf [vr a0, vi x1, vi 1] h0 (fun y21 h19 => h19.1 = h0.1 → (P y21 h19)))) ∧ (x2 = 4 → (OB h0 10 a0 ∧ METi mX10_bornOf [vr a0, vi x1, vi 0] h0 (fun y25 h23 => h23.1 = h0.1 → (P y25 h23)))) ∧ (x2 = 5 → (OB h0 10 a0 ∧ METi mX10_isShaky [vr a0, vi x1] h0 (fun y29 h27 => h27.1 = h0.1 → (rng y29 ∧ (y29 = 0 → (P 0 h27)) ∧ (¬ y29 = 0 → (P 1 h27)))))) ∧ (x2 = 6 → (OB h0 10 a0 ∧ METi mX10_entriesOf [vr a0, vi x1] h0 (fun y35 h33 => h33.1 = h0.1 → (P y35 h33))))) : METi mX10_lifeNow [vr a0, vi x1, vi x2] h0 P := by
  refine met_of_ex (by decide +kernel) (Nat.le_of_ble_eq_true rfl) ?_
  show EX mX10_lifeNow 0 [some (vr a0), some (vi x1), some (vi x2)] [] h0 (0, 0) _
  refine ex_iload_n 1 dX10_lifeNow_0 rfl rfl ?_
  obtain ⟨o1, hyp⟩ := hyp
  obtain ⟨hd, hv0, hv1, hv2, hv3, hv4, hv5, hv6⟩ := hyp
  rcases (show (x2 < 0 ∨ 6 < x2) ∨ x2 = 0 ∨ x2 = 1 ∨ x2 = 2 ∨ x2 = 3 ∨ x2 = 4 ∨ x2 = 5 ∨ x2 = 6 by omega) with c | c | c | c | c | c | c | c
  · refine ex_tswOut 99 dX10_lifeNow_1 o1 c (by decide) ?_
    have hyp := hd c
    refine ex_aload_n 100 dX10_lifeNow_99 rfl rfl ?_
    refine ex_iload_n 101 dX10_lifeNow_100 rfl rfl ?_
    obtain ⟨o2, hyp⟩ := hyp
    refine q_callVi [vi x1] 104 dX10_lifeNow_101 rfl cvX10_270 rfl rfl ⟨Nat.le_of_ble_eq_true rfl, Nat.le_of_ble_eq_true rfl⟩ (Nat.le_of_ble_eq_true rfl) o2 hyp (fun y5 h3 k4 hyp => ?_)
    exact ex_iret dX10_lifeNow_104 (Or.inl rfl) ⟨_, rfl, hyp⟩
  · refine ex_tswIn 0 44 dX10_lifeNow_1 c ⟨by decide, by decide⟩ (by decide) (by decide) rfl (by decide) ?_
    have hyp := hv0 c
    refine ex_aload_n 45 dX10_lifeNow_44 rfl rfl ?_
    obtain ⟨o6, hyp⟩ := hyp
    obtain ⟨r7, f8, hyp⟩ := hyp
    refine q_getR 10 29 48 dX10_lifeNow_45 rfl fiX10_64 rfl o6 f8 ?_
    refine ex_iload_n 49 dX10_lifeNow_48 rfl rfl ?_
    obtain ⟨o9, hyp⟩ := hyp
    refine ex_iald 50 dX10_lifeNow_49 rfl o9 ?_
    exact ex_iret dX10_lifeNow_50 (Or.inl rfl) ⟨_, rfl, hyp⟩
  · refine ex_tswIn 1 51 dX10_lifeNow_1 c ⟨by decide, by decide⟩ (by decide) (by decide) rfl (by decide) ?_
    have hyp := hv1 c
    refine ex_aload_n 52 dX10_lifeNow_51 rfl rfl ?_
    obtain ⟨o10, hyp⟩ := hyp
    obtain ⟨r11, f12, hyp⟩ := hyp
    refine q_getR 10 30 55 dX10_lifeNow_52 rfl fiX10_67 rfl o10 f12 ?_
    refine ex_iload_n 56 dX10_lifeNow_55 rfl rfl ?_
    obtain ⟨o13, hyp⟩ := hyp
    refine ex_iald 57 dX10_lifeNow_56 rfl o13 ?_
    exact ex_iret dX10_lifeNow_57 (Or.inl rfl) ⟨_, rfl, hyp⟩
  · refine ex_tswIn 2 58 dX10_lifeNow_1 c ⟨by decide, by decide⟩ (by decide) (by decide) rfl (by decide) ?_
    have hyp := hv2 c
    refine ex_aload_n 59 dX10_lifeNow_58 rfl rfl ?_
    obtain ⟨o14, hyp⟩ := hyp
    obtain ⟨r15, f16, hyp⟩ := hyp
    refine q_getR 10 31 62 dX10_lifeNow_59 rfl fiX10_70 rfl o14 f16 ?_
    refine ex_iload_n 63 dX10_lifeNow_62 rfl rfl ?_
    obtain ⟨o17, hyp⟩ := hyp
    refine ex_iald 64 dX10_lifeNow_63 rfl o17 ?_
    exact ex_iret dX10_lifeNow_64 (Or.inl rfl) ⟨_, rfl, hyp⟩
  · refine ex_tswIn 3 65 dX10_lifeNow_1 c ⟨by decide, by decide⟩ (by decide) (by decide) rfl (by decide) ?_
    have hyp := hv3 c
    refine ex_aload_n 66 dX10_lifeNow_65 rfl rfl ?_
    refine ex_iload_n 67 dX10_lifeNow_66 rfl rfl ?_
    refine ex_iconst 68 dX10_lifeNow_67 rfl ?_
    obtain ⟨o18, hyp⟩ := hyp
    refine q_callVi [vi x1, vi 1] 71 dX10_lifeNow_68 rfl cvX10_266 rfl rfl ⟨Nat.le_of_ble_eq_true rfl, Nat.le_of_ble_eq_true rfl⟩ (Nat.le_of_ble_eq_true rfl) o18 hyp (fun y21 h19 k20 hyp => ?_)
    exact ex_iret dX10_lifeNow_71 (Or.inl rfl) ⟨_, rfl, hyp⟩
  · refine ex_tswIn 4 72 dX10_lifeNow_1 c ⟨by decide, by decide⟩ (by decide) (by decide) rfl (by decide) ?_
    have hyp := hv4 c
    refine ex_aload_n 73 dX10_lifeNow_72 rfl rfl ?_
    refine ex_iload_n 74 dX10_lifeNow_73 rfl rfl ?_
    refine ex_iconst 75 dX10_lifeNow_74 rfl ?_
    obtain ⟨o22, hyp⟩ := hyp
    refine q_callVi [vi x1, vi 0] 78 dX10_lifeNow_75 rfl cvX10_266 rfl rfl ⟨Nat.le_of_ble_eq_true rfl, Nat.le_of_ble_eq_true rfl⟩ (Nat.le_of_ble_eq_true rfl) o22 hyp (fun y25 h23 k24 hyp => ?_)
    exact ex_iret dX10_lifeNow_78 (Or.inl rfl) ⟨_, rfl, hyp⟩
  · refine ex_tswIn 5 79 dX10_lifeNow_1 c ⟨by decide, by decide⟩ (by decide) (by decide) rfl (by decide) ?_
    have hyp := hv5 c
    refine ex_aload_n 80 dX10_lifeNow_79 rfl rfl ?_
    refine ex_iload_n 81 dX10_lifeNow_80 rfl rfl ?_
    obtain ⟨o26, hyp⟩ := hyp
    refine q_callVi [vi x1] 84 dX10_lifeNow_81 rfl cvX10_244 rfl rfl ⟨Nat.le_of_ble_eq_true rfl, Nat.le_of_ble_eq_true rfl⟩ (Nat.le_of_ble_eq_true rfl) o26 hyp (fun y29 h27 k28 hyp => ?_)
    obtain ⟨o30, hyp⟩ := hyp
    obtain ⟨ht, hf⟩ := hyp
    refine ex_if_eq 91 87 dX10_lifeNow_84 (by decide) rfl o30 (fun c31 => ?_) (fun c31 => ?_)
    · have hyp := ht c31
      clear ht hf
      refine ex_iconst 92 dX10_lifeNow_91 rfl ?_
      exact ex_iret dX10_lifeNow_92 (Or.inl rfl) ⟨_, rfl, hyp⟩
    · have hyp := hf c31
      clear ht hf
      refine ex_iconst 88 dX10_lifeNow_87 rfl ?_
      refine ex_goto 92 dX10_lifeNow_88 (by decide) ?_
      exact ex_iret dX10_lifeNow_92 (Or.inl rfl) ⟨_, rfl, hyp⟩
  · refine ex_tswIn 6 93 dX10_lifeNow_1 c ⟨by decide, by decide⟩ (by decide) (by decide) rfl (by decide) ?_
    have hyp := hv6 c
    refine ex_aload_n 94 dX10_lifeNow_93 rfl rfl ?_
    refine ex_iload_n 95 dX10_lifeNow_94 rfl rfl ?_
    obtain ⟨o32, hyp⟩ := hyp
    refine q_callVi [vi x1] 98 dX10_lifeNow_95 rfl cvX10_247 rfl rfl ⟨Nat.le_of_ble_eq_true rfl, Nat.le_of_ble_eq_true rfl⟩ (Nat.le_of_ble_eq_true rfl) o32 hyp (fun y35 h33 k34 hyp => ?_)
    exact ex_iret dX10_lifeNow_98 (Or.inl rfl) ⟨_, rfl, hyp⟩
set_option maxRecDepth 4000 in
theorem tX10_life {P : Int → PH → Prop} (h0 : PH) (a0 : Nat) (x1 : Int) (x2 : Int) (hyp : OB h0 10 a0 ∧ METv mX10_layLives [vr a0] h0 (0, 0) (fun h2 => h2.1 = h0.1 → (METi mX10_within [vi x1, vi 0, vi ((h2.2.1 a0 28) - 1)] h2 (fun y7 h5 => h5.1 = h2.1 → (rng y7 ∧ (¬ y7 = 0 → (METi mX10_within [vi x2, vi 0, vi 7] h5 (fun y11 h9 => h9.1 = h5.1 → (rng y11 ∧ (y11 = 0 → (P (-102) h9)) ∧ (¬ y11 = 0 → (METi mX10_lifeNow [vr a0, vi x1, vi x2] h9 (fun y17 h15 => h15.1 = h9.1 → (P y17 h15)))))))) ∧ (y7 = 0 → (P (-101) h5))))))) : METi mX10_life [vr a0, vi x1, vi x2] h0 P := by
  refine met_of_ex (by decide +kernel) (Nat.le_of_ble_eq_true rfl) ?_
  show EX mX10_life 0 [some (vr a0), some (vi x1), some (vi x2)] [] h0 (0, 0) _
  refine ex_aload_n 1 dX10_life_0 rfl rfl ?_
  obtain ⟨o1, hyp⟩ := hyp
  refine q_callVv [] 4 dX10_life_1 rfl cvX10_250 rfl rfl ⟨Nat.le_of_ble_eq_true rfl, Nat.le_of_ble_eq_true rfl⟩ (Nat.le_of_ble_eq_true rfl) o1 hyp (fun h2 k3 hyp => ?_)
  refine ex_iload_n 5 dX10_life_4 rfl rfl ?_
  refine ex_iconst 6 dX10_life_5 rfl ?_
  refine ex_aload_n 7 dX10_life_6 rfl rfl ?_
  have f4 := OB.of k3 o1
  refine q_getI 10 28 10 dX10_life_7 rfl fiX10_212 (Or.inl rfl) f4 ?_
  refine ex_iconst 11 dX10_life_10 rfl ?_
  refine ex_isub 12 dX10_life_11 rfl ?_
  refine q_callSi [vi x1, vi 0, vi ((h2.2.1 a0 28) - 1)] 15 dX10_life_12 rfl cvX10_76 rfl rfl ⟨Nat.le_of_ble_eq_true rfl, Nat.le_of_ble_eq_true rfl⟩ (Nat.le_of_ble_eq_true rfl) hyp (fun y7 h5 k6 hyp => ?_)
  obtain ⟨o8, hyp⟩ := hyp
  obtain ⟨ht, hf⟩ := hyp
  refine ex_if_ne 23 18 dX10_life_15 (by decide) rfl o8 (fun c19 => ?_) (fun c19 => ?_)
  · have hyp := ht c19
    clear ht hf
    refine ex_iload_n 24 dX10_life_23 rfl rfl ?_
    refine ex_iconst 25 dX10_life_24 rfl ?_
    refine ex_bipush 27 dX10_life_25 rfl ⟨by decide, by decide⟩ ?_
    refine q_callSi [vi x2, vi 0, vi 7] 30 dX10_life_27 rfl cvX10_76 rfl rfl ⟨Nat.le_of_ble_eq_true rfl, Nat.le_of_ble_eq_true rfl⟩ (Nat.le_of_ble_eq_true rfl) hyp (fun y11 h9 k10 hyp => ?_)
    obtain ⟨o12, hyp⟩ := hyp
    obtain ⟨ht, hf⟩ := hyp
    refine ex_if_eq 42 33 dX10_life_30 (by decide) rfl o12 (fun c18 => ?_) (fun c18 => ?_)
    · have hyp := ht c18
      clear ht hf
      refine ex_bipush 44 dX10_life_42 rfl ⟨by decide, by decide⟩ ?_
      exact ex_iret dX10_life_44 (Or.inl rfl) ⟨_, rfl, hyp⟩
    · have hyp := hf c18
      clear ht hf
      refine ex_aload_n 34 dX10_life_33 rfl rfl ?_
      refine ex_iload_n 35 dX10_life_34 rfl rfl ?_
      refine ex_iload_n 36 dX10_life_35 rfl rfl ?_
      have f13 := OB.of k6 f4
      have f14 := OB.of k10 f13
      refine q_callVi [vi x1, vi x2] 39 dX10_life_36 rfl cvX10_273 rfl rfl ⟨Nat.le_of_ble_eq_true rfl, Nat.le_of_ble_eq_true rfl⟩ (Nat.le_of_ble_eq_true rfl) f14 hyp (fun y17 h15 k16 hyp => ?_)
      refine ex_goto 44 dX10_life_39 (by decide) ?_
      exact ex_iret dX10_life_44 (Or.inl rfl) ⟨_, rfl, hyp⟩
  · have hyp := hf c19
    clear ht hf
    refine ex_bipush 20 dX10_life_18 rfl ⟨by decide, by decide⟩ ?_
    refine ex_goto 44 dX10_life_20 (by decide) ?_
    exact ex_iret dX10_life_44 (Or.inl rfl) ⟨_, rfl, hyp⟩
set_option maxRecDepth 4000 in
theorem tX10_weddingAt {P : Int → PH → Prop} (h0 : PH) (a0 : Nat) (x1 : Int) (x2 : Int) (hyp : EXi mX10_weddingAt 5 [some (vr a0), some (vi x1), some (vi x2), some (vi x2), some (vi 0)] [] h0 P) : METi mX10_weddingAt [vr a0, vi x1, vi x2] h0 P := by
  refine met_of_ex (by decide +kernel) (Nat.le_of_ble_eq_true rfl) ?_
  show EX mX10_weddingAt 0 [some (vr a0), some (vi x1), some (vi x2), none, none] [] h0 (0, 0) _
  refine ex_iload_n 1 dX10_weddingAt_0 rfl rfl ?_
  refine q_istore_n [some (vr a0), some (vi x1), some (vi x2), some (vi x2), none] 2 dX10_weddingAt_1 rfl (Nat.le_of_ble_eq_true rfl) rfl rfl ?_
  refine ex_iconst 3 dX10_weddingAt_2 rfl ?_
  refine q_istore [some (vr a0), some (vi x1), some (vi x2), some (vi x2), some (vi 0)] 5 dX10_weddingAt_3 rfl (Nat.le_of_ble_eq_true rfl) rfl rfl ?_
  exact hyp
set_option maxRecDepth 4000 in
theorem tX10_weddingAt_5 {P : Int → PH → Prop} (h0 : PH) (a0 : Nat) (x1 : Int) (x2 : Int) (x3 : Int) (x4 : Int) (hyp : OB h0 10 a0 ∧ rng x4 ∧ rng (h0.2.1 a0 2) ∧ (h0.2.1 a0 2 ≤ x4 → (P (-101) h0)) ∧ (x4 < h0.2.1 a0 2 → (rng x2 ∧ (x2 < 0 → (P (-101) h0)) ∧ (0 ≤ x2 → (∃ r5 : Nat, h0.2.2 a0 3 = some r5 ∧ AI h0 20 r5 x4 ∧ rng (h0.2.1 r5 (x4).toNat) ∧ (¬ h0.2.1 r5 (x4).toNat = 1 → (EXi mX10_weddingAt 5 [some (vr a0), some (vi x1), some (vi x2), some (vi x3), some (vi (x4 + 1))] [] h0 P)) ∧ (h0.2.1 r5 (x4).toNat = 1 → (METi mX10_isOf [vr a0, vi x4, vi x1] h0 (fun y11 h9 => h9.1 = h0.1 → (rng y11 ∧ (y11 = 0 → (EXi mX10_weddingAt 5 [some (vr a0), some (vi x1), some (vi x2), some (vi x3), some (vi (x4 + 1))] [] h9 P)) ∧ (¬ y11 = 0 → (rng x3 ∧ (¬ x3 = 0 → (EXi mX10_weddingAt 5 [some (vr a0), some (vi x1), some (vi x2), some (vi (x3 + (-1))), some (vi (x4 + 1))] [] h9 P)) ∧ (x3 = 0 → (P x4 h9))))))))))))) : EXi mX10_weddingAt 5 [some (vr a0), some (vi x1), some (vi x2), some (vi x3), some (vi x4)] [] h0 P := by
  refine ex_iload 7 dX10_weddingAt_5 rfl rfl ?_
  refine ex_aload_n 8 dX10_weddingAt_7 rfl rfl ?_
  obtain ⟨o1, hyp⟩ := hyp
  refine q_getI 10 2 11 dX10_weddingAt_8 rfl fiX10_118 (Or.inl rfl) o1 ?_
  obtain ⟨o2, hyp⟩ := hyp
  obtain ⟨o3, hyp⟩ := hyp
  obtain ⟨ht, hf⟩ := hyp
  refine ex_icmp_ge 55 14 dX10_weddingAt_11 (by decide) rfl o2 o3 (fun c18 => ?_) (fun c18 => ?_)
  · have hyp := ht c18
    clear ht hf
    refine ex_bipush 57 dX10_weddingAt_55 rfl ⟨by decide, by decide⟩ ?_
    exact ex_iret dX10_weddingAt_57 (Or.inl rfl) ⟨_, rfl, hyp⟩
  · have hyp := hf c18
    clear ht hf
    refine ex_iload_n 15 dX10_weddingAt_14 rfl rfl ?_
    obtain ⟨o4, hyp⟩ := hyp
    obtain ⟨ht, hf⟩ := hyp
    refine ex_if_lt 55 18 dX10_weddingAt_15 (by decide) rfl o4 (fun c17 => ?_) (fun c17 => ?_)
    · have hyp := ht c17
      clear ht hf
      refine ex_bipush 57 dX10_weddingAt_55 rfl ⟨by decide, by decide⟩ ?_
      exact ex_iret dX10_weddingAt_57 (Or.inl rfl) ⟨_, rfl, hyp⟩
    · have hyp := hf c17
      clear ht hf
      refine ex_aload_n 19 dX10_weddingAt_18 rfl rfl ?_
      obtain ⟨r5, f6, hyp⟩ := hyp
      refine q_getR 10 3 22 dX10_weddingAt_19 rfl fiX10_13 rfl o1 f6 ?_
      refine ex_iload 24 dX10_weddingAt_22 rfl rfl ?_
      obtain ⟨o7, hyp⟩ := hyp
      refine ex_iald 25 dX10_weddingAt_24 rfl o7 ?_
      refine ex_iconst 26 dX10_weddingAt_25 rfl ?_
      obtain ⟨o8, hyp⟩ := hyp
      obtain ⟨ht, hf⟩ := hyp
      refine ex_icmp_ne 49 29 dX10_weddingAt_26 (by decide) rfl o8 ⟨by decide, by decide⟩ (fun c16 => ?_) (fun c16 => ?_)
      · have hyp := ht c16
        clear ht hf
        refine q_iinc [some (vr a0), some (vi x1), some (vi x2), some (vi x3), some (vi (x4 + 1))] 52 dX10_weddingAt_49 rfl rfl (Nat.le_of_ble_eq_true rfl) rfl rfl ?_
        refine ex_goto 5 dX10_weddingAt_52 (by decide) ?_
        exact hyp
      · have hyp := hf c16
        clear ht hf
        refine ex_aload_n 30 dX10_weddingAt_29 rfl rfl ?_
        refine ex_iload 32 dX10_weddingAt_30 rfl rfl ?_
        refine ex_iload_n 33 dX10_weddingAt_32 rfl rfl ?_
        refine q_callVi [vi x4, vi x1] 36 dX10_weddingAt_33 rfl cvX10_222 rfl rfl ⟨Nat.le_of_ble_eq_true rfl, Nat.le_of_ble_eq_true rfl⟩ (Nat.le_of_ble_eq_true rfl) o1 hyp (fun y11 h9 k10 hyp => ?_)
        obtain ⟨o12, hyp⟩ := hyp
        obtain ⟨ht, hf⟩ := hyp
        refine ex_if_eq 49 39 dX10_weddingAt_36 (by decide) rfl o12 (fun c15 => ?_) (fun c15 => ?_)
        · have hyp := ht c15
          clear ht hf
          refine q_iinc [some (vr a0), some (vi x1), some (vi x2), some (vi x3), some (vi (x4 + 1))] 52 dX10_weddingAt_49 rfl rfl (Nat.le_of_ble_eq_true rfl) rfl rfl ?_
          refine ex_goto 5 dX10_weddingAt_52 (by decide) ?_
          exact hyp
        · have hyp := hf c15
          clear ht hf
          refine ex_iload_n 40 dX10_weddingAt_39 rfl rfl ?_
          obtain ⟨o13, hyp⟩ := hyp
          obtain ⟨ht, hf⟩ := hyp
          refine ex_if_ne 46 43 dX10_weddingAt_40 (by decide) rfl o13 (fun c14 => ?_) (fun c14 => ?_)
          · have hyp := ht c14
            clear ht hf
            refine q_iinc [some (vr a0), some (vi x1), some (vi x2), some (vi (x3 + (-1))), some (vi x4)] 49 dX10_weddingAt_46 rfl rfl (Nat.le_of_ble_eq_true rfl) rfl rfl ?_
            refine q_iinc [some (vr a0), some (vi x1), some (vi x2), some (vi (x3 + (-1))), some (vi (x4 + 1))] 52 dX10_weddingAt_49 rfl rfl (Nat.le_of_ble_eq_true rfl) rfl rfl ?_
            refine ex_goto 5 dX10_weddingAt_52 (by decide) ?_
            exact hyp
          · have hyp := hf c14
            clear ht hf
            refine ex_iload 45 dX10_weddingAt_43 rfl rfl ?_
            exact ex_iret dX10_weddingAt_45 (Or.inl rfl) ⟨_, rfl, hyp⟩
set_option maxRecDepth 4000 in
theorem tX10_wedding {P : Int → PH → Prop} (h0 : PH) (a0 : Nat) (x1 : Int) (x2 : Int) (hyp : OB h0 10 a0 ∧ METv mX10_layLives [vr a0] h0 (0, 0) (fun h2 => h2.1 = h0.1 → (METi mX10_within [vi x1, vi 0, vi ((h2.2.1 a0 28) - 1)] h2 (fun y7 h5 => h5.1 = h2.1 → (rng y7 ∧ (y7 = 0 → (P (-101) h5)) ∧ (¬ y7 = 0 → (METi mX10_weddingAt [vr a0, vi x1, vi x2] h5 (fun y12 h10 => h10.1 = h5.1 → (P y12 h10))))))))) : METi mX10_wedding [vr a0, vi x1, vi x2] h0 P := by
  refine met_of_ex (by decide +kernel) (Nat.le_of_ble_eq_true rfl) ?_
  show EX mX10_wedding 0 [some (vr a0), some (vi x1), some (vi x2)] [] h0 (0, 0) _
  refine ex_aload_n 1 dX10_wedding_0 rfl rfl ?_
  obtain ⟨o1, hyp⟩ := hyp
  refine q_callVv [] 4 dX10_wedding_1 rfl cvX10_250 rfl rfl ⟨Nat.le_of_ble_eq_true rfl, Nat.le_of_ble_eq_true rfl⟩ (Nat.le_of_ble_eq_true rfl) o1 hyp (fun h2 k3 hyp => ?_)
  refine ex_iload_n 5 dX10_wedding_4 rfl rfl ?_
  refine ex_iconst 6 dX10_wedding_5 rfl ?_
  refine ex_aload_n 7 dX10_wedding_6 rfl rfl ?_
  have f4 := OB.of k3 o1
  refine q_getI 10 28 10 dX10_wedding_7 rfl fiX10_212 (Or.inl rfl) f4 ?_
  refine ex_iconst 11 dX10_wedding_10 rfl ?_
  refine ex_isub 12 dX10_wedding_11 rfl ?_
  refine q_callSi [vi x1, vi 0, vi ((h2.2.1 a0 28) - 1)] 15 dX10_wedding_12 rfl cvX10_76 rfl rfl ⟨Nat.le_of_ble_eq_true rfl, Nat.le_of_ble_eq_true rfl⟩ (Nat.le_of_ble_eq_true rfl) hyp (fun y7 h5 k6 hyp => ?_)
  obtain ⟨o8, hyp⟩ := hyp
  obtain ⟨ht, hf⟩ := hyp
  refine ex_if_eq 27 18 dX10_wedding_15 (by decide) rfl o8 (fun c13 => ?_) (fun c13 => ?_)
  · have hyp := ht c13
    clear ht hf
    refine ex_bipush 29 dX10_wedding_27 rfl ⟨by decide, by decide⟩ ?_
    exact ex_iret dX10_wedding_29 (Or.inl rfl) ⟨_, rfl, hyp⟩
  · have hyp := hf c13
    clear ht hf
    refine ex_aload_n 19 dX10_wedding_18 rfl rfl ?_
    refine ex_iload_n 20 dX10_wedding_19 rfl rfl ?_
    refine ex_iload_n 21 dX10_wedding_20 rfl rfl ?_
    have f9 := OB.of k6 f4
    refine q_callVi [vi x1, vi x2] 24 dX10_wedding_21 rfl cvX10_276 rfl rfl ⟨Nat.le_of_ble_eq_true rfl, Nat.le_of_ble_eq_true rfl⟩ (Nat.le_of_ble_eq_true rfl) f9 hyp (fun y12 h10 k11 hyp => ?_)
    refine ex_goto 29 dX10_wedding_24 (by decide) ?_
    exact ex_iret dX10_wedding_29 (Or.inl rfl) ⟨_, rfl, hyp⟩
set_option maxRecDepth 4000 in
theorem tX10_worth {P : Int → PH → Prop} (h0 : PH) (a0 : Nat) (x1 : Int) (x2 : Int) (hyp : OB h0 10 a0 ∧ METv mX10_layFirstLives [vr a0] h0 (0, 0) (fun h2 => h2.1 = h0.1 → (METi mX10_isEntry [vr a0, vi x1] h2 (fun y7 h5 => h5.1 = h2.1 → (rng y7 ∧ (y7 = 0 → (P (-101) h5)) ∧ (¬ y7 = 0 → (∃ r10 : Nat, h5.2.2 a0 3 = some r10 ∧ AI h5 20 r10 x1 ∧ rng (h5.2.1 r10 (x1).toNat) ∧ (¬ h5.2.1 r10 (x1).toNat = 1 → (P (-101) h5)) ∧ (h5.2.1 r10 (x1).toNat = 1 → (METi mX10_within [vi x2, vi 0, vi ((h5.2.1 a0 28) - 1)] h5 (fun y16 h14 => h14.1 = h5.1 → (rng y16 ∧ (¬ y16 = 0 → (METi mX10_canGo [vr a0, vi x1, vi x2] h14 (fun y21 h19 => h19.1 = h14.1 → (rng y21 ∧ (y21 = 0 → (P (-1) h19)) ∧ (¬ y21 = 0 → (METi mX10_worthAt [vr a0, vi x1, vi x2] h19 (fun y26 h24 => h24.1 = h19.1 → (P y26 h24)))))))) ∧ (y16 = 0 → (P (-101) h14))))))))))))) : METi mX10_worth [vr a0, vi x1, vi x2] h0 P := by
  refine met_of_ex (by decide +kernel) (Nat.le_of_ble_eq_true rfl) ?_
  show EX mX10_worth 0 [some (vr a0), some (vi x1), some (vi x2)] [] h0 (0, 0) _
  refine ex_aload_n 1 dX10_worth_0 rfl rfl ?_
  obtain ⟨o1, hyp⟩ := hyp
  refine q_callVv [] 4 dX10_worth_1 rfl cvX10_231 rfl rfl ⟨Nat.le_of_ble_eq_true rfl, Nat.le_of_ble_eq_true rfl⟩ (Nat.le_of_ble_eq_true rfl) o1 hyp (fun h2 k3 hyp => ?_)
  refine ex_aload_n 5 dX10_worth_4 rfl rfl ?_
  refine ex_iload_n 6 dX10_worth_5 rfl rfl ?_
  have f4 := OB.of k3 o1
  refine q_callVi [vi x1] 9 dX10_worth_6 rfl cvX10_178 rfl rfl ⟨Nat.le_of_ble_eq_true rfl, Nat.le_of_ble_eq_true rfl⟩ (Nat.le_of_ble_eq_true rfl) f4 hyp (fun y7 h5 k6 hyp => ?_)
  obtain ⟨o8, hyp⟩ := hyp
  obtain ⟨ht, hf⟩ := hyp
  refine ex_if_eq 36 12 dX10_worth_9 (by decide) rfl o8 (fun c30 => ?_) (fun c30 => ?_)
  · have hyp := ht c30
    clear ht hf
    refine ex_bipush 38 dX10_worth_36 rfl ⟨by decide, by decide⟩ ?_
    exact ex_iret dX10_worth_38 (Or.inl rfl) ⟨_, rfl, hyp⟩
  · have hyp := hf c30
    clear ht hf
    refine ex_aload_n 13 dX10_worth_12 rfl rfl ?_
    have f9 := OB.of k6 f4
    obtain ⟨r10, f11, hyp⟩ := hyp
    refine q_getR 10 3 16 dX10_worth_13 rfl fiX10_13 rfl f9 f11 ?_
    refine ex_iload_n 17 dX10_worth_16 rfl rfl ?_
    obtain ⟨o12, hyp⟩ := hyp
    refine ex_iald 18 dX10_worth_17 rfl o12 ?_
    refine ex_iconst 19 dX10_worth_18 rfl ?_
    obtain ⟨o13, hyp⟩ := hyp
    obtain ⟨ht, hf⟩ := hyp
    refine ex_icmp_ne 36 22 dX10_worth_19 (by decide) rfl o13 ⟨by decide, by decide⟩ (fun c29 => ?_) (fun c29 => ?_)
    · have hyp := ht c29
      clear ht hf
      refine ex_bipush 38 dX10_worth_36 rfl ⟨by decide, by decide⟩ ?_
      exact ex_iret dX10_worth_38 (Or.inl rfl) ⟨_, rfl, hyp⟩
    · have hyp := hf c29
      clear ht hf
      refine ex_iload_n 23 dX10_worth_22 rfl rfl ?_
      refine ex_iconst 24 dX10_worth_23 rfl ?_
      refine ex_aload_n 25 dX10_worth_24 rfl rfl ?_
      refine q_getI 10 28 28 dX10_worth_25 rfl fiX10_212 (Or.inl rfl) f9 ?_
      refine ex_iconst 29 dX10_worth_28 rfl ?_
      refine ex_isub 30 dX10_worth_29 rfl ?_
      refine q_callSi [vi x2, vi 0, vi ((h5.2.1 a0 28) - 1)] 33 dX10_worth_30 rfl cvX10_76 rfl rfl ⟨Nat.le_of_ble_eq_true rfl, Nat.le_of_ble_eq_true rfl⟩ (Nat.le_of_ble_eq_true rfl) hyp (fun y16 h14 k15 hyp => ?_)
      obtain ⟨o17, hyp⟩ := hyp
      obtain ⟨ht, hf⟩ := hyp
      refine ex_if_ne 39 36 dX10_worth_33 (by decide) rfl o17 (fun c28 => ?_) (fun c28 => ?_)
      · have hyp := ht c28
        clear ht hf
        refine ex_aload_n 40 dX10_worth_39 rfl rfl ?_
        refine ex_iload_n 41 dX10_worth_40 rfl rfl ?_
        refine ex_iload_n 42 dX10_worth_41 rfl rfl ?_
        have f18 := OB.of k15 f9
        refine q_callVi [vi x1, vi x2] 45 dX10_worth_42 rfl cvX10_225 rfl rfl ⟨Nat.le_of_ble_eq_true rfl, Nat.le_of_ble_eq_true rfl⟩ (Nat.le_of_ble_eq_true rfl) f18 hyp (fun y21 h19 k20 hyp => ?_)
        obtain ⟨o22, hyp⟩ := hyp
        obtain ⟨ht, hf⟩ := hyp
        refine ex_if_eq 57 48 dX10_worth_45 (by decide) rfl o22 (fun c27 => ?_) (fun c27 => ?_)
        · have hyp := ht c27
          clear ht hf
          refine ex_iconst 58 dX10_worth_57 rfl ?_
          exact ex_iret dX10_worth_58 (Or.inl rfl) ⟨_, rfl, hyp⟩
        · have hyp := hf c27
          clear ht hf
          refine ex_aload_n 49 dX10_worth_48 rfl rfl ?_
          refine ex_iload_n 50 dX10_worth_49 rfl rfl ?_
          refine ex_iload_n 51 dX10_worth_50 rfl rfl ?_
          have f23 := OB.of k20 f18
          refine q_callVi [vi x1, vi x2] 54 dX10_worth_51 rfl cvX10_228 rfl rfl ⟨Nat.le_of_ble_eq_true rfl, Nat.le_of_ble_eq_true rfl⟩ (Nat.le_of_ble_eq_true rfl) f23 hyp (fun y26 h24 k25 hyp => ?_)
          refine ex_goto 58 dX10_worth_54 (by decide) ?_
          exact ex_iret dX10_worth_58 (Or.inl rfl) ⟨_, rfl, hyp⟩
      · have hyp := hf c28
        clear ht hf
        refine ex_bipush 38 dX10_worth_36 rfl ⟨by decide, by decide⟩ ?_
        exact ex_iret dX10_worth_38 (Or.inl rfl) ⟨_, rfl, hyp⟩
set_option maxRecDepth 4000 in
theorem tX10_mate {P : Int → PH → Prop} (h0 : PH) (a0 : Nat) (x1 : Int) (hyp : OB h0 10 a0 ∧ METi mX10_isEntry [vr a0, vi x1] h0 (fun y4 h2 => h2.1 = h0.1 → (rng y4 ∧ (y4 = 0 → (P (-101) h2)) ∧ (¬ y4 = 0 → (∃ r7 : Nat, h2.2.2 a0 3 = some r7 ∧ AI h2 20 r7 x1 ∧ rng (h2.2.1 r7 (x1).toNat) ∧ (¬ h2.2.1 r7 (x1).toNat = 1 → (METv mX10_layPairs [vr a0] h2 (0, 0) (fun h11 => h11.1 = h2.1 → (∃ r14 : Nat, h11.2.2 a0 25 = some r14 ∧ AI h11 20 r14 x1 ∧ P (h11.2.1 r14 (x1).toNat) h11)))) ∧ (h2.2.1 r7 (x1).toNat = 1 → (P (-101) h2))))))) : METi mX10_mate [vr a0, vi x1] h0 P := by
  refine met_of_ex (by decide +kernel) (Nat.le_of_ble_eq_true rfl) ?_
  show EX mX10_mate 0 [some (vr a0), some (vi x1)] [] h0 (0, 0) _
  refine ex_aload_n 1 dX10_mate_0 rfl rfl ?_
  refine ex_iload_n 2 dX10_mate_1 rfl rfl ?_
  obtain ⟨o1, hyp⟩ := hyp
  refine q_callVi [vi x1] 5 dX10_mate_2 rfl cvX10_178 rfl rfl ⟨Nat.le_of_ble_eq_true rfl, Nat.le_of_ble_eq_true rfl⟩ (Nat.le_of_ble_eq_true rfl) o1 hyp (fun y4 h2 k3 hyp => ?_)
  obtain ⟨o5, hyp⟩ := hyp
  obtain ⟨ht, hf⟩ := hyp
  refine ex_if_eq 18 8 dX10_mate_5 (by decide) rfl o5 (fun c18 => ?_) (fun c18 => ?_)
  · have hyp := ht c18
    clear ht hf
    refine ex_bipush 20 dX10_mate_18 rfl ⟨by decide, by decide⟩ ?_
    exact ex_iret dX10_mate_20 (Or.inl rfl) ⟨_, rfl, hyp⟩
  · have hyp := hf c18
    clear ht hf
    refine ex_aload_n 9 dX10_mate_8 rfl rfl ?_
    have f6 := OB.of k3 o1
    obtain ⟨r7, f8, hyp⟩ := hyp
    refine q_getR 10 3 12 dX10_mate_9 rfl fiX10_13 rfl f6 f8 ?_
    refine ex_iload_n 13 dX10_mate_12 rfl rfl ?_
    obtain ⟨o9, hyp⟩ := hyp
    refine ex_iald 14 dX10_mate_13 rfl o9 ?_
    refine ex_iconst 15 dX10_mate_14 rfl ?_
    obtain ⟨o10, hyp⟩ := hyp
    obtain ⟨ht, hf⟩ := hyp
    refine ex_icmp_ne 21 18 dX10_mate_15 (by decide) rfl o10 ⟨by decide, by decide⟩ (fun c17 => ?_) (fun c17 => ?_)
    · have hyp := ht c17
      clear ht hf
      refine ex_aload_n 22 dX10_mate_21 rfl rfl ?_
      refine q_callVv [] 25 dX10_mate_22 rfl cvX10_215 rfl rfl ⟨Nat.le_of_ble_eq_true rfl, Nat.le_of_ble_eq_true rfl⟩ (Nat.le_of_ble_eq_true rfl) f6 hyp (fun h11 k12 hyp => ?_)
      refine ex_aload_n 26 dX10_mate_25 rfl rfl ?_
      have f13 := OB.of k12 f6
      obtain ⟨r14, f15, hyp⟩ := hyp
      refine q_getR 10 25 29 dX10_mate_26 rfl fiX10_61 rfl f13 f15 ?_
      refine ex_iload_n 30 dX10_mate_29 rfl rfl ?_
      obtain ⟨o16, hyp⟩ := hyp
      refine ex_iald 31 dX10_mate_30 rfl o16 ?_
      exact ex_iret dX10_mate_31 (Or.inl rfl) ⟨_, rfl, hyp⟩
    · have hyp := hf c17
      clear ht hf
      refine ex_bipush 20 dX10_mate_18 rfl ⟨by decide, by decide⟩ ?_
      exact ex_iret dX10_mate_20 (Or.inl rfl) ⟨_, rfl, hyp⟩
set_option maxRecDepth 4000 in
theorem tX10_entryNow {P : Int → PH → Prop} (h0 : PH) (a0 : Nat) (x1 : Int) (x2 : Int) (hyp : rng x2 ∧ (x2 < 0 ∨ 6 < x2 → (OB h0 10 a0 ∧ ∃ r3 : Nat, h0.2.2 a0 32 = some r3 ∧ AI h0 20 r3 x1 ∧ rng (h0.2.1 r3 (x1).toNat) ∧ (¬ h0.2.1 r3 (x1).toNat = (-1) → (P 0 h0)) ∧ (h0.2.1 r3 (x1).toNat = (-1) → (P 1 h0)))) ∧ (x2 = 0 → (OB h0 10 a0 ∧ ∃ r9 : Nat, h0.2.2 a0 3 = some r9 ∧ AI h0 20 r9 x1 ∧ P (h0.2.1 r9 (x1).toNat) h0)) ∧ (x2 = 1 → (OB h0 10 a0 ∧ ∃ r13 : Nat, h0.2.2 a0 4 = some r13 ∧ AI h0 20 r13 x1 ∧ P (h0.2.1 r13 (x1).toNat) h0)) ∧ (x2 = 2 → (OB h0 10 a0 ∧ ∃ r17 : Nat, h0.2.2 a0 5 = some r17 ∧ AI h0 20 r17 x1 ∧ P (h0.2.1 r17 (x1).toNat) h0)) ∧ (x2 = 3 → (OB h0 10 a0 ∧ ∃ r21 : Nat, h0.2.2 a0 6 = some r21 ∧ AI h0 20 r21 x1 ∧ P (h0.2.1 r21 (x1).toNat) h0)) ∧ (x2 = 4 → (OB h0 10 a0 ∧ METi mX10_firstBorn [vr a0, vi x1] h0 (fun y27 h25 => h25.1 = h0.1 → (P y27 h25)))) ∧ (x2 = 5 → (OB h0 10 a0 ∧ METi mX10_lastBorn [vr a0, vi x1] h0 (fun y31 h29 => h29.1 = h0.1 → (P y31 h29)))) ∧ (x2 = 6 → (OB h0 10 a0 ∧ ∃ r33 : Nat, h0.2.2 a0 32 = some r33 ∧ AI h0 20 r33 x1 ∧ P (h0.2.1 r33 (x1).toNat) h0))) : METi mX10_entryNow [vr a0, vi x1, vi x2] h0 P := by
  refine met_of_ex (by decide +kernel) (Nat.le_of_ble_eq_true rfl) ?_
  show EX mX10_entryNow 0 [some (vr a0), some (vi x1), some (vi x2)] [] h0 (0, 0) _
  refine ex_iload_n 1 dX10_entryNow_0 rfl rfl ?_
  obtain ⟨o1, hyp⟩ := hyp
  obtain ⟨hd, hv0, hv1, hv2, hv3, hv4, hv5, hv6⟩ := hyp
  rcases (show (x2 < 0 ∨ 6 < x2) ∨ x2 = 0 ∨ x2 = 1 ∨ x2 = 2 ∨ x2 = 3 ∨ x2 = 4 ∨ x2 = 5 ∨ x2 = 6 by omega) with c | c | c | c | c | c | c | c
  · refine ex_tswOut 91 dX10_entryNow_1 o1 c (by decide) ?_
    have hyp := hd c
    refine ex_aload_n 92 dX10_entryNow_91 rfl rfl ?_
    obtain ⟨o2, hyp⟩ := hyp
    obtain ⟨r3, f4, hyp⟩ := hyp
    refine q_getR 10 32 95 dX10_entryNow_92 rfl fiX10_73 rfl o2 f4 ?_
    refine ex_iload_n 96 dX10_entryNow_95 rfl rfl ?_
    obtain ⟨o5, hyp⟩ := hyp
    refine ex_iald 97 dX10_entryNow_96 rfl o5 ?_
    refine ex_iconst 98 dX10_entryNow_97 rfl ?_
    obtain ⟨o6, hyp⟩ := hyp
    obtain ⟨ht, hf⟩ := hyp
    refine ex_icmp_ne 105 101 dX10_entryNow_98 (by decide) rfl o6 ⟨by decide, by decide⟩ (fun c7 => ?_) (fun c7 => ?_)
    · have hyp := ht c7
      clear ht hf
      refine ex_iconst 106 dX10_entryNow_105 rfl ?_
      exact ex_iret dX10_entryNow_106 (Or.inl rfl) ⟨_, rfl, hyp⟩
    · have hyp := hf c7
      clear ht hf
      refine ex_iconst 102 dX10_entryNow_101 rfl ?_
      refine ex_goto 106 dX10_entryNow_102 (by decide) ?_
      exact ex_iret dX10_entryNow_106 (Or.inl rfl) ⟨_, rfl, hyp⟩
  · refine ex_tswIn 0 44 dX10_entryNow_1 c ⟨by decide, by decide⟩ (by decide) (by decide) rfl (by decide) ?_
    have hyp := hv0 c
    refine ex_aload_n 45 dX10_entryNow_44 rfl rfl ?_
    obtain ⟨o8, hyp⟩ := hyp
    obtain ⟨r9, f10, hyp⟩ := hyp
    refine q_getR 10 3 48 dX10_entryNow_45 rfl fiX10_13 rfl o8 f10 ?_
    refine ex_iload_n 49 dX10_entryNow_48 rfl rfl ?_
    obtain ⟨o11, hyp⟩ := hyp
    refine ex_iald 50 dX10_entryNow_49 rfl o11 ?_
    exact ex_iret dX10_entryNow_50 (Or.inl rfl) ⟨_, rfl, hyp⟩
  · refine ex_tswIn 1 51 dX10_entryNow_1 c ⟨by decide, by decide⟩ (by decide) (by decide) rfl (by decide) ?_
    have hyp := hv1 c
    refine ex_aload_n 52 dX10_entryNow_51 rfl rfl ?_
    obtain ⟨o12, hyp⟩ := hyp
    obtain ⟨r13, f14, hyp⟩ := hyp
    refine q_getR 10 4 55 dX10_entryNow_52 rfl fiX10_16 rfl o12 f14 ?_
    refine ex_iload_n 56 dX10_entryNow_55 rfl rfl ?_
    obtain ⟨o15, hyp⟩ := hyp
    refine ex_iald 57 dX10_entryNow_56 rfl o15 ?_
    exact ex_iret dX10_entryNow_57 (Or.inl rfl) ⟨_, rfl, hyp⟩
  · refine ex_tswIn 2 58 dX10_entryNow_1 c ⟨by decide, by decide⟩ (by decide) (by decide) rfl (by decide) ?_
    have hyp := hv2 c
    refine ex_aload_n 59 dX10_entryNow_58 rfl rfl ?_
    obtain ⟨o16, hyp⟩ := hyp
    obtain ⟨r17, f18, hyp⟩ := hyp
    refine q_getR 10 5 62 dX10_entryNow_59 rfl fiX10_19 rfl o16 f18 ?_
    refine ex_iload_n 63 dX10_entryNow_62 rfl rfl ?_
    obtain ⟨o19, hyp⟩ := hyp
    refine ex_iald 64 dX10_entryNow_63 rfl o19 ?_
    exact ex_iret dX10_entryNow_64 (Or.inl rfl) ⟨_, rfl, hyp⟩
  · refine ex_tswIn 3 65 dX10_entryNow_1 c ⟨by decide, by decide⟩ (by decide) (by decide) rfl (by decide) ?_
    have hyp := hv3 c
    refine ex_aload_n 66 dX10_entryNow_65 rfl rfl ?_
    obtain ⟨o20, hyp⟩ := hyp
    obtain ⟨r21, f22, hyp⟩ := hyp
    refine q_getR 10 6 69 dX10_entryNow_66 rfl fiX10_22 rfl o20 f22 ?_
    refine ex_iload_n 70 dX10_entryNow_69 rfl rfl ?_
    obtain ⟨o23, hyp⟩ := hyp
    refine ex_iald 71 dX10_entryNow_70 rfl o23 ?_
    exact ex_iret dX10_entryNow_71 (Or.inl rfl) ⟨_, rfl, hyp⟩
  · refine ex_tswIn 4 72 dX10_entryNow_1 c ⟨by decide, by decide⟩ (by decide) (by decide) rfl (by decide) ?_
    have hyp := hv4 c
    refine ex_aload_n 73 dX10_entryNow_72 rfl rfl ?_
    refine ex_iload_n 74 dX10_entryNow_73 rfl rfl ?_
    obtain ⟨o24, hyp⟩ := hyp
    refine q_callVi [vi x1] 77 dX10_entryNow_74 rfl cvX10_151 rfl rfl ⟨Nat.le_of_ble_eq_true rfl, Nat.le_of_ble_eq_true rfl⟩ (Nat.le_of_ble_eq_true rfl) o24 hyp (fun y27 h25 k26 hyp => ?_)
    exact ex_iret dX10_entryNow_77 (Or.inl rfl) ⟨_, rfl, hyp⟩
  · refine ex_tswIn 5 78 dX10_entryNow_1 c ⟨by decide, by decide⟩ (by decide) (by decide) rfl (by decide) ?_
    have hyp := hv5 c
    refine ex_aload_n 79 dX10_entryNow_78 rfl rfl ?_
    refine ex_iload_n 80 dX10_entryNow_79 rfl rfl ?_
    obtain ⟨o28, hyp⟩ := hyp
    refine q_callVi [vi x1] 83 dX10_entryNow_80 rfl cvX10_154 rfl rfl ⟨Nat.le_of_ble_eq_true rfl, Nat.le_of_ble_eq_true rfl⟩ (Nat.le_of_ble_eq_true rfl) o28 hyp (fun y31 h29 k30 hyp => ?_)
    exact ex_iret dX10_entryNow_83 (Or.inl rfl) ⟨_, rfl, hyp⟩
  · refine ex_tswIn 6 84 dX10_entryNow_1 c ⟨by decide, by decide⟩ (by decide) (by decide) rfl (by decide) ?_
    have hyp := hv6 c
    refine ex_aload_n 85 dX10_entryNow_84 rfl rfl ?_
    obtain ⟨o32, hyp⟩ := hyp
    obtain ⟨r33, f34, hyp⟩ := hyp
    refine q_getR 10 32 88 dX10_entryNow_85 rfl fiX10_73 rfl o32 f34 ?_
    refine ex_iload_n 89 dX10_entryNow_88 rfl rfl ?_
    obtain ⟨o35, hyp⟩ := hyp
    refine ex_iald 90 dX10_entryNow_89 rfl o35 ?_
    exact ex_iret dX10_entryNow_90 (Or.inl rfl) ⟨_, rfl, hyp⟩
set_option maxRecDepth 4000 in
theorem tX10_entryTold {P : Int → PH → Prop} (h0 : PH) (a0 : Nat) (x1 : Int) (x2 : Int) (hyp : OB h0 10 a0 ∧ METv mX10_layLives [vr a0] h0 (0, 0) (fun h2 => h2.1 = h0.1 → (METi mX10_entryNow [vr a0, vi x1, vi x2] h2 (fun y7 h5 => h5.1 = h2.1 → (P y7 h5))))) : METi mX10_entryTold [vr a0, vi x1, vi x2] h0 P := by
  refine met_of_ex (by decide +kernel) (Nat.le_of_ble_eq_true rfl) ?_
  show EX mX10_entryTold 0 [some (vr a0), some (vi x1), some (vi x2)] [] h0 (0, 0) _
  refine ex_aload_n 1 dX10_entryTold_0 rfl rfl ?_
  obtain ⟨o1, hyp⟩ := hyp
  refine q_callVv [] 4 dX10_entryTold_1 rfl cvX10_250 rfl rfl ⟨Nat.le_of_ble_eq_true rfl, Nat.le_of_ble_eq_true rfl⟩ (Nat.le_of_ble_eq_true rfl) o1 hyp (fun h2 k3 hyp => ?_)
  refine ex_aload_n 5 dX10_entryTold_4 rfl rfl ?_
  refine ex_iload_n 6 dX10_entryTold_5 rfl rfl ?_
  refine ex_iload_n 7 dX10_entryTold_6 rfl rfl ?_
  have f4 := OB.of k3 o1
  refine q_callVi [vi x1, vi x2] 10 dX10_entryTold_7 rfl cvX10_279 rfl rfl ⟨Nat.le_of_ble_eq_true rfl, Nat.le_of_ble_eq_true rfl⟩ (Nat.le_of_ble_eq_true rfl) f4 hyp (fun y7 h5 k6 hyp => ?_)
  exact ex_iret dX10_entryTold_10 (Or.inl rfl) ⟨_, rfl, hyp⟩
set_option maxRecDepth 4000 in
theorem tX10_entry {P : Int → PH → Prop} (h0 : PH) (a0 : Nat) (x1 : Int) (x2 : Int) (hyp : OB h0 10 a0 ∧ METi mX10_isEntry [vr a0, vi x1] h0 (fun y4 h2 => h2.1 = h0.1 → (rng y4 ∧ (¬ y4 = 0 → (METi mX10_within [vi x2, vi 0, vi 7] h2 (fun y8 h6 => h6.1 = h2.1 → (rng y8 ∧ (y8 = 0 → (P (-102) h6)) ∧ (¬ y8 = 0 → (METi mX10_entryTold [vr a0, vi x1, vi x2] h6 (fun y14 h12 => h12.1 = h6.1 → (P y14 h12)))))))) ∧ (y4 = 0 → (P (-101) h2))))) : METi mX10_entry [vr a0, vi x1, vi x2] h0 P := by
  refine met_of_ex (by decide +kernel) (Nat.le_of_ble_eq_true rfl) ?_
  show EX mX10_entry 0 [some (vr a0), some (vi x1), some (vi x2)] [] h0 (0, 0) _
  refine ex_aload_n 1 dX10_entry_0 rfl rfl ?_
  refine ex_iload_n 2 dX10_entry_1 rfl rfl ?_
  obtain ⟨o1, hyp⟩ := hyp
  refine q_callVi [vi x1] 5 dX10_entry_2 rfl cvX10_178 rfl rfl ⟨Nat.le_of_ble_eq_true rfl, Nat.le_of_ble_eq_true rfl⟩ (Nat.le_of_ble_eq_true rfl) o1 hyp (fun y4 h2 k3 hyp => ?_)
  obtain ⟨o5, hyp⟩ := hyp
  obtain ⟨ht, hf⟩ := hyp
  refine ex_if_ne 13 8 dX10_entry_5 (by decide) rfl o5 (fun c16 => ?_) (fun c16 => ?_)
  · have hyp := ht c16
    clear ht hf
    refine ex_iload_n 14 dX10_entry_13 rfl rfl ?_
    refine ex_iconst 15 dX10_entry_14 rfl ?_
    refine ex_bipush 17 dX10_entry_15 rfl ⟨by decide, by decide⟩ ?_
    refine q_callSi [vi x2, vi 0, vi 7] 20 dX10_entry_17 rfl cvX10_76 rfl rfl ⟨Nat.le_of_ble_eq_true rfl, Nat.le_of_ble_eq_true rfl⟩ (Nat.le_of_ble_eq_true rfl) hyp (fun y8 h6 k7 hyp => ?_)
    obtain ⟨o9, hyp⟩ := hyp
    obtain ⟨ht, hf⟩ := hyp
    refine ex_if_eq 32 23 dX10_entry_20 (by decide) rfl o9 (fun c15 => ?_) (fun c15 => ?_)
    · have hyp := ht c15
      clear ht hf
      refine ex_bipush 34 dX10_entry_32 rfl ⟨by decide, by decide⟩ ?_
      exact ex_iret dX10_entry_34 (Or.inl rfl) ⟨_, rfl, hyp⟩
    · have hyp := hf c15
      clear ht hf
      refine ex_aload_n 24 dX10_entry_23 rfl rfl ?_
      refine ex_iload_n 25 dX10_entry_24 rfl rfl ?_
      refine ex_iload_n 26 dX10_entry_25 rfl rfl ?_
      have f10 := OB.of k3 o1
      have f11 := OB.of k7 f10
      refine q_callVi [vi x1, vi x2] 29 dX10_entry_26 rfl cvX10_282 rfl rfl ⟨Nat.le_of_ble_eq_true rfl, Nat.le_of_ble_eq_true rfl⟩ (Nat.le_of_ble_eq_true rfl) f11 hyp (fun y14 h12 k13 hyp => ?_)
      refine ex_goto 34 dX10_entry_29 (by decide) ?_
      exact ex_iret dX10_entry_34 (Or.inl rfl) ⟨_, rfl, hyp⟩
  · have hyp := hf c16
    clear ht hf
    refine ex_bipush 10 dX10_entry_8 rfl ⟨by decide, by decide⟩ ?_
    refine ex_goto 34 dX10_entry_10 (by decide) ?_
    exact ex_iret dX10_entry_34 (Or.inl rfl) ⟨_, rfl, hyp⟩
set_option maxRecDepth 4000 in
theorem tX10_sign {P : Int → PH → Prop} (h0 : PH) (a0 : Nat) (x1 : Int) (x2 : Int) (hyp : OB h0 10 a0 ∧ METi mX10_isEntry [vr a0, vi x1] h0 (fun y4 h2 => h2.1 = h0.1 → (rng y4 ∧ (y4 = 0 → (P (-101) h2)) ∧ (¬ y4 = 0 → (∃ r7 : Nat, h2.2.2 a0 6 = some r7 ∧ AI h2 20 r7 x1 ∧ METi mX10_within [vi x2, vi 0, vi ((h2.2.1 r7 (x1).toNat) - 1)] h2 (fun y12 h10 => h10.1 = h2.1 → (rng y12 ∧ (y12 = 0 → (P (-101) h10)) ∧ (¬ y12 = 0 → (∃ r15 : Nat, h10.2.2 a0 7 = some r15 ∧ AI h10 20 r15 ((8 * x1) + x2) ∧ P (h10.2.1 r15 ((8 * x1) + x2).toNat) h10))))))))) : METi mX10_sign [vr a0, vi x1, vi x2] h0 P := by
  refine met_of_ex (by decide +kernel) (Nat.le_of_ble_eq_true rfl) ?_
  show EX mX10_sign 0 [some (vr a0), some (vi x1), some (vi x2)] [] h0 (0, 0) _
  refine ex_aload_n 1 dX10_sign_0 rfl rfl ?_
  refine ex_iload_n 2 dX10_sign_1 rfl rfl ?_
  obtain ⟨o1, hyp⟩ := hyp
  refine q_callVi [vi x1] 5 dX10_sign_2 rfl cvX10_178 rfl rfl ⟨Nat.le_of_ble_eq_true rfl, Nat.le_of_ble_eq_true rfl⟩ (Nat.le_of_ble_eq_true rfl) o1 hyp (fun y4 h2 k3 hyp => ?_)
  obtain ⟨o5, hyp⟩ := hyp
  obtain ⟨ht, hf⟩ := hyp
  refine ex_if_eq 38 8 dX10_sign_5 (by decide) rfl o5 (fun c19 => ?_) (fun c19 => ?_)
  · have hyp := ht c19
    clear ht hf
    refine ex_bipush 40 dX10_sign_38 rfl ⟨by decide, by decide⟩ ?_
    exact ex_iret dX10_sign_40 (Or.inl rfl) ⟨_, rfl, hyp⟩
  · have hyp := hf c19
    clear ht hf
    refine ex_iload_n 9 dX10_sign_8 rfl rfl ?_
    refine ex_iconst 10 dX10_sign_9 rfl ?_
    refine ex_aload_n 11 dX10_sign_10 rfl rfl ?_
    have f6 := OB.of k3 o1
    obtain ⟨r7, f8, hyp⟩ := hyp
    refine q_getR 10 6 14 dX10_sign_11 rfl fiX10_22 rfl f6 f8 ?_
    refine ex_iload_n 15 dX10_sign_14 rfl rfl ?_
    obtain ⟨o9, hyp⟩ := hyp
    refine ex_iald 16 dX10_sign_15 rfl o9 ?_
    refine ex_iconst 17 dX10_sign_16 rfl ?_
    refine ex_isub 18 dX10_sign_17 rfl ?_
    refine q_callSi [vi x2, vi 0, vi ((h2.2.1 r7 (x1).toNat) - 1)] 21 dX10_sign_18 rfl cvX10_76 rfl rfl ⟨Nat.le_of_ble_eq_true rfl, Nat.le_of_ble_eq_true rfl⟩ (Nat.le_of_ble_eq_true rfl) hyp (fun y12 h10 k11 hyp => ?_)
    obtain ⟨o13, hyp⟩ := hyp
    obtain ⟨ht, hf⟩ := hyp
    refine ex_if_eq 38 24 dX10_sign_21 (by decide) rfl o13 (fun c18 => ?_) (fun c18 => ?_)
    · have hyp := ht c18
      clear ht hf
      refine ex_bipush 40 dX10_sign_38 rfl ⟨by decide, by decide⟩ ?_
      exact ex_iret dX10_sign_40 (Or.inl rfl) ⟨_, rfl, hyp⟩
    · have hyp := hf c18
      clear ht hf
      refine ex_aload_n 25 dX10_sign_24 rfl rfl ?_
      have f14 := OB.of k11 f6
      obtain ⟨r15, f16, hyp⟩ := hyp
      refine q_getR 10 7 28 dX10_sign_25 rfl fiX10_25 rfl f14 f16 ?_
      refine ex_bipush 30 dX10_sign_28 rfl ⟨by decide, by decide⟩ ?_
      refine ex_iload_n 31 dX10_sign_30 rfl rfl ?_
      refine ex_imul 32 dX10_sign_31 rfl ?_
      refine ex_iload_n 33 dX10_sign_32 rfl rfl ?_
      refine ex_iadd 34 dX10_sign_33 rfl ?_
      obtain ⟨o17, hyp⟩ := hyp
      refine ex_iald 35 dX10_sign_34 rfl o17 ?_
      refine ex_goto 40 dX10_sign_35 (by decide) ?_
      exact ex_iret dX10_sign_40 (Or.inl rfl) ⟨_, rfl, hyp⟩
set_option maxRecDepth 4000 in
theorem tX10_as {P : Int → PH → Prop} (h0 : PH) (a0 : Nat) (x1 : Int) (x2 : Int) (hyp : OB h0 10 a0 ∧ METi mX10_isEntry [vr a0, vi x1] h0 (fun y4 h2 => h2.1 = h0.1 → (rng y4 ∧ (¬ y4 = 0 → (METi mX10_within [vi x2, vi 0, vi 2] h2 (fun y8 h6 => h6.1 = h2.1 → (rng y8 ∧ (¬ y8 = 0 → (∃ r12 : Nat, h6.2.2 a0 3 = some r12 ∧ AI h6 20 r12 x1 ∧ rng (h6.2.1 r12 (x1).toNat) ∧ rng x2 ∧ (¬ h6.2.1 r12 (x1).toNat = x2 → (P (-1) h6)) ∧ (h6.2.1 r12 (x1).toNat = x2 → (∃ r17 : Nat, h6.2.2 a0 4 = some r17 ∧ AI h6 20 r17 x1 ∧ P (h6.2.1 r17 (x1).toNat) h6)))) ∧ (y8 = 0 → (P (-102) h6)))))) ∧ (y4 = 0 → (P (-101) h2))))) : METi mX10_as [vr a0, vi x1, vi x2] h0 P := by
  refine met_of_ex (by decide +kernel) (Nat.le_of_ble_eq_true rfl) ?_
  show EX mX10_as 0 [some (vr a0), some (vi x1), some (vi x2)] [] h0 (0, 0) _
  refine ex_aload_n 1 dX10_as_0 rfl rfl ?_
  refine ex_iload_n 2 dX10_as_1 rfl rfl ?_
  obtain ⟨o1, hyp⟩ := hyp
  refine q_callVi [vi x1] 5 dX10_as_2 rfl cvX10_178 rfl rfl ⟨Nat.le_of_ble_eq_true rfl, Nat.le_of_ble_eq_true rfl⟩ (Nat.le_of_ble_eq_true rfl) o1 hyp (fun y4 h2 k3 hyp => ?_)
  obtain ⟨o5, hyp⟩ := hyp
  obtain ⟨ht, hf⟩ := hyp
  refine ex_if_ne 11 8 dX10_as_5 (by decide) rfl o5 (fun c22 => ?_) (fun c22 => ?_)
  · have hyp := ht c22
    clear ht hf
    refine ex_iload_n 12 dX10_as_11 rfl rfl ?_
    refine ex_iconst 13 dX10_as_12 rfl ?_
    refine ex_iconst 14 dX10_as_13 rfl ?_
    refine q_callSi [vi x2, vi 0, vi 2] 17 dX10_as_14 rfl cvX10_76 rfl rfl ⟨Nat.le_of_ble_eq_true rfl, Nat.le_of_ble_eq_true rfl⟩ (Nat.le_of_ble_eq_true rfl) hyp (fun y8 h6 k7 hyp => ?_)
    obtain ⟨o9, hyp⟩ := hyp
    obtain ⟨ht, hf⟩ := hyp
    refine ex_if_ne 23 20 dX10_as_17 (by decide) rfl o9 (fun c21 => ?_) (fun c21 => ?_)
    · have hyp := ht c21
      clear ht hf
      refine ex_aload_n 24 dX10_as_23 rfl rfl ?_
      have f10 := OB.of k3 o1
      have f11 := OB.of k7 f10
      obtain ⟨r12, f13, hyp⟩ := hyp
      refine q_getR 10 3 27 dX10_as_24 rfl fiX10_13 rfl f11 f13 ?_
      refine ex_iload_n 28 dX10_as_27 rfl rfl ?_
      obtain ⟨o14, hyp⟩ := hyp
      refine ex_iald 29 dX10_as_28 rfl o14 ?_
      refine ex_iload_n 30 dX10_as_29 rfl rfl ?_
      obtain ⟨o15, hyp⟩ := hyp
      obtain ⟨o16, hyp⟩ := hyp
      obtain ⟨ht, hf⟩ := hyp
      refine ex_icmp_ne 42 33 dX10_as_30 (by decide) rfl o15 o16 (fun c20 => ?_) (fun c20 => ?_)
      · have hyp := ht c20
        clear ht hf
        refine ex_iconst 43 dX10_as_42 rfl ?_
        exact ex_iret dX10_as_43 (Or.inl rfl) ⟨_, rfl, hyp⟩
      · have hyp := hf c20
        clear ht hf
        refine ex_aload_n 34 dX10_as_33 rfl rfl ?_
        obtain ⟨r17, f18, hyp⟩ := hyp
        refine q_getR 10 4 37 dX10_as_34 rfl fiX10_16 rfl f11 f18 ?_
        refine ex_iload_n 38 dX10_as_37 rfl rfl ?_
        obtain ⟨o19, hyp⟩ := hyp
        refine ex_iald 39 dX10_as_38 rfl o19 ?_
        refine ex_goto 43 dX10_as_39 (by decide) ?_
        exact ex_iret dX10_as_43 (Or.inl rfl) ⟨_, rfl, hyp⟩
    · have hyp := hf c21
      clear ht hf
      refine ex_bipush 22 dX10_as_20 rfl ⟨by decide, by decide⟩ ?_
      exact ex_iret dX10_as_22 (Or.inl rfl) ⟨_, rfl, hyp⟩
  · have hyp := hf c22
    clear ht hf
    refine ex_bipush 10 dX10_as_8 rfl ⟨by decide, by decide⟩ ?_
    exact ex_iret dX10_as_10 (Or.inl rfl) ⟨_, rfl, hyp⟩
set_option maxRecDepth 4000 in
theorem tX10_without {P : Int → PH → Prop} (h0 : PH) (x0 : Int) (x1 : Int) (hyp : P (b_or (b_and x0 ((b_shl 1 x1) - 1)) (b_shl (b_shr x0 (x1 + 1)) x1)) h0) : METi mX10_without [vi x0, vi x1] h0 P := by
  refine met_of_ex (by decide +kernel) (Nat.le_of_ble_eq_true rfl) ?_
  show EX mX10_without 0 [some (vi x0), some (vi x1), none] [] h0 (0, 0) _
  refine ex_iload_n 1 dX10_without_0 rfl rfl ?_
  refine ex_iconst 2 dX10_without_1 rfl ?_
  refine ex_iload_n 3 dX10_without_2 rfl rfl ?_
  refine ex_ishl 4 dX10_without_3 rfl ?_
  refine ex_iconst 5 dX10_without_4 rfl ?_
  refine ex_isub 6 dX10_without_5 rfl ?_
  refine ex_iand 7 dX10_without_6 rfl ?_
  refine q_istore_n [some (vi x0), some (vi x1), some (vi (b_and x0 ((b_shl 1 x1) - 1)))] 8 dX10_without_7 rfl (Nat.le_of_ble_eq_true rfl) rfl rfl ?_
  refine ex_iload_n 9 dX10_without_8 rfl rfl ?_
  refine ex_iload_n 10 dX10_without_9 rfl rfl ?_
  refine ex_iload_n 11 dX10_without_10 rfl rfl ?_
  refine ex_iconst 12 dX10_without_11 rfl ?_
  refine ex_iadd 13 dX10_without_12 rfl ?_
  refine ex_ishr 14 dX10_without_13 rfl ?_
  refine ex_iload_n 15 dX10_without_14 rfl rfl ?_
  refine ex_ishl 16 dX10_without_15 rfl ?_
  refine ex_ior 17 dX10_without_16 rfl ?_
  exact ex_iret dX10_without_17 (Or.inl rfl) ⟨_, rfl, hyp⟩
set_option maxRecDepth 4000 in
theorem tX10_strike {P : Int → PH → Prop} (h0 : PH) (a0 : Nat) (x1 : Int) (hyp : OB h0 10 a0 ∧ METi mX10_isEntry [vr a0, vi x1] h0 (fun y4 h2 => h2.1 = h0.1 → (rng y4 ∧ (¬ y4 = 0 → (∀ h7 : PH, h7 = px_upI h2 a0 2 ((h2.2.1 a0 2) - 1) → (EXi mX10_strike 23 [some (vr a0), some (vi x1), some (vi x1), none] [] h7 P))) ∧ (y4 = 0 → (P (-101) h2))))) : METi mX10_strike [vr a0, vi x1] h0 P := by
  refine met_of_ex (by decide +kernel) (Nat.le_of_ble_eq_true rfl) ?_
  show EX mX10_strike 0 [some (vr a0), some (vi x1), none, none] [] h0 (0, 0) _
  refine ex_aload_n 1 dX10_strike_0 rfl rfl ?_
  refine ex_iload_n 2 dX10_strike_1 rfl rfl ?_
  obtain ⟨o1, hyp⟩ := hyp
  refine q_callVi [vi x1] 5 dX10_strike_2 rfl cvX10_178 rfl rfl ⟨Nat.le_of_ble_eq_true rfl, Nat.le_of_ble_eq_true rfl⟩ (Nat.le_of_ble_eq_true rfl) o1 hyp (fun y4 h2 k3 hyp => ?_)
  obtain ⟨o5, hyp⟩ := hyp
  obtain ⟨ht, hf⟩ := hyp
  refine ex_if_ne 11 8 dX10_strike_5 (by decide) rfl o5 (fun c9 => ?_) (fun c9 => ?_)
  · have hyp := ht c9
    clear ht hf
    refine ex_aload_n 12 dX10_strike_11 rfl rfl ?_
    refine ex_dup 13 dX10_strike_12 rfl rfl ?_
    have f6 := OB.of k3 o1
    refine q_getI 10 2 16 dX10_strike_13 rfl fiX10_118 (Or.inl rfl) f6 ?_
    refine ex_iconst 17 dX10_strike_16 rfl ?_
    refine ex_isub 18 dX10_strike_17 rfl ?_
    refine q_putI 10 2 21 dX10_strike_18 rfl fiX10_118 ff10_2 rfl f6 (fun h7 e8 => ?_)
    have hyp := hyp h7 e8
    refine ex_iload_n 22 dX10_strike_21 rfl rfl ?_
    refine q_istore_n [some (vr a0), some (vi x1), some (vi x1), none] 23 dX10_strike_22 rfl (Nat.le_of_ble_eq_true rfl) rfl rfl ?_
    exact hyp
  · have hyp := hf c9
    clear ht hf
    refine ex_bipush 10 dX10_strike_8 rfl ⟨by decide, by decide⟩ ?_
    exact ex_iret dX10_strike_10 (Or.inl rfl) ⟨_, rfl, hyp⟩
set_option maxRecDepth 4000 in
theorem tX10_strike_23 {P : Int → PH → Prop} (h0 : PH) (a0 : Nat) (x1 : Int) (x2 : Int) (hyp : OB h0 10 a0 ∧ rng x2 ∧ rng (h0.2.1 a0 2) ∧ (h0.2.1 a0 2 ≤ x2 → (EXi mX10_strike 147 [some (vr a0), some (vi x1), some (vi 0), none] [] h0 P)) ∧ (x2 < h0.2.1 a0 2 → (∃ r4 : Nat, h0.2.2 a0 3 = some r4 ∧ AI h0 20 r4 (x2 + 1) ∧ AI h0 20 r4 x2 ∧ ∀ h8 : PH, h8 = px_upI h0 r4 (x2).toNat (h0.2.1 r4 (x2 + 1).toNat) → (∃ r11 : Nat, h8.2.2 a0 4 = some r11 ∧ AI h8 20 r11 (x2 + 1) ∧ AI h8 20 r11 x2 ∧ ∀ h15 : PH, h15 = px_upI h8 r11 (x2).toNat (h8.2.1 r11 (x2 + 1).toNat) → (∃ r18 : Nat, h15.2.2 a0 5 = some r18 ∧ AI h15 20 r18 (x2 + 1) ∧ AI h15 20 r18 x2 ∧ ∀ h22 : PH, h22 = px_upI h15 r18 (x2).toNat (h15.2.1 r18 (x2 + 1).toNat) → (∃ r25 : Nat, h22.2.2 a0 6 = some r25 ∧ AI h22 20 r25 (x2 + 1) ∧ AI h22 20 r25 x2 ∧ ∀ h29 : PH, h29 = px_upI h22 r25 (x2).toNat (h22.2.1 r25 (x2 + 1).toNat) → (∃ r32 : Nat, h29.2.2 a0 8 = some r32 ∧ AI h29 20 r32 (x2 + 1) ∧ AI h29 20 r32 x2 ∧ ∀ h36 : PH, h36 = px_upI h29 r32 (x2).toNat (h29.2.1 r32 (x2 + 1).toNat) → (EXi mX10_strike 103 [some (vr a0), some (vi x1), some (vi x2), some (vi 0)] [] h36 P)))))))) : EXi mX10_strike 23 [some (vr a0), some (vi x1), some (vi x2), none] [] h0 P := by
  refine ex_iload_n 24 dX10_strike_23 rfl rfl ?_
  refine ex_aload_n 25 dX10_strike_24 rfl rfl ?_
  obtain ⟨o1, hyp⟩ := hyp
  refine q_getI 10 2 28 dX10_strike_25 rfl fiX10_118 (Or.inl rfl) o1 ?_
  obtain ⟨o2, hyp⟩ := hyp
  obtain ⟨o3, hyp⟩ := hyp
  obtain ⟨ht, hf⟩ := hyp
  refine ex_icmp_ge 145 31 dX10_strike_28 (by decide) rfl o2 o3 (fun c38 => ?_) (fun c38 => ?_)
  · have hyp := ht c38
    clear ht hf
    refine ex_iconst 146 dX10_strike_145 rfl ?_
    refine q_istore_n [some (vr a0), some (vi x1), some (vi 0), none] 147 dX10_strike_146 rfl (Nat.le_of_ble_eq_true rfl) rfl rfl ?_
    exact hyp
  · have hyp := hf c38
    clear ht hf
    refine ex_aload_n 32 dX10_strike_31 rfl rfl ?_
    obtain ⟨r4, f5, hyp⟩ := hyp
    refine q_getR 10 3 35 dX10_strike_32 rfl fiX10_13 rfl o1 f5 ?_
    refine ex_iload_n 36 dX10_strike_35 rfl rfl ?_
    refine ex_aload_n 37 dX10_strike_36 rfl rfl ?_
    refine q_getR 10 3 40 dX10_strike_37 rfl fiX10_13 rfl o1 f5 ?_
    refine ex_iload_n 41 dX10_strike_40 rfl rfl ?_
    refine ex_iconst 42 dX10_strike_41 rfl ?_
    refine ex_iadd 43 dX10_strike_42 rfl ?_
    obtain ⟨o6, hyp⟩ := hyp
    refine ex_iald 44 dX10_strike_43 rfl o6 ?_
    obtain ⟨o7, hyp⟩ := hyp
    refine ex_iast 45 dX10_strike_44 rfl o7 (fun h8 e9 => ?_)
    have hyp := hyp h8 e9
    refine ex_aload_n 46 dX10_strike_45 rfl rfl ?_
    have f10 := OB.of (KI e9) o1
    obtain ⟨r11, f12, hyp⟩ := hyp
    refine q_getR 10 4 49 dX10_strike_46 rfl fiX10_16 rfl f10 f12 ?_
    refine ex_iload_n 50 dX10_strike_49 rfl rfl ?_
    refine ex_aload_n 51 dX10_strike_50 rfl rfl ?_
    refine q_getR 10 4 54 dX10_strike_51 rfl fiX10_16 rfl f10 f12 ?_
    refine ex_iload_n 55 dX10_strike_54 rfl rfl ?_
    refine ex_iconst 56 dX10_strike_55 rfl ?_
    refine ex_iadd 57 dX10_strike_56 rfl ?_
    obtain ⟨o13, hyp⟩ := hyp
    refine ex_iald 58 dX10_strike_57 rfl o13 ?_
    obtain ⟨o14, hyp⟩ := hyp
    refine ex_iast 59 dX10_strike_58 rfl o14 (fun h15 e16 => ?_)
    have hyp := hyp h15 e16
    refine ex_aload_n 60 dX10_strike_59 rfl rfl ?_
    have f17 := OB.of (KI e16) f10
    obtain ⟨r18, f19, hyp⟩ := hyp
    refine q_getR 10 5 63 dX10_strike_60 rfl fiX10_19 rfl f17 f19 ?_
    refine ex_iload_n 64 dX10_strike_63 rfl rfl ?_
    refine ex_aload_n 65 dX10_strike_64 rfl rfl ?_
    refine q_getR 10 5 68 dX10_strike_65 rfl fiX10_19 rfl f17 f19 ?_
    refine ex_iload_n 69 dX10_strike_68 rfl rfl ?_
    refine ex_iconst 70 dX10_strike_69 rfl ?_
    refine ex_iadd 71 dX10_strike_70 rfl ?_
    obtain ⟨o20, hyp⟩ := hyp
    refine ex_iald 72 dX10_strike_71 rfl o20 ?_
    obtain ⟨o21, hyp⟩ := hyp
    refine ex_iast 73 dX10_strike_72 rfl o21 (fun h22 e23 => ?_)
    have hyp := hyp h22 e23
    refine ex_aload_n 74 dX10_strike_73 rfl rfl ?_
    have f24 := OB.of (KI e23) f17
    obtain ⟨r25, f26, hyp⟩ := hyp
    refine q_getR 10 6 77 dX10_strike_74 rfl fiX10_22 rfl f24 f26 ?_
    refine ex_iload_n 78 dX10_strike_77 rfl rfl ?_
    refine ex_aload_n 79 dX10_strike_78 rfl rfl ?_
    refine q_getR 10 6 82 dX10_strike_79 rfl fiX10_22 rfl f24 f26 ?_
    refine ex_iload_n 83 dX10_strike_82 rfl rfl ?_
    refine ex_iconst 84 dX10_strike_83 rfl ?_
    refine ex_iadd 85 dX10_strike_84 rfl ?_
    obtain ⟨o27, hyp⟩ := hyp
    refine ex_iald 86 dX10_strike_85 rfl o27 ?_
    obtain ⟨o28, hyp⟩ := hyp
    refine ex_iast 87 dX10_strike_86 rfl o28 (fun h29 e30 => ?_)
    have hyp := hyp h29 e30
    refine ex_aload_n 88 dX10_strike_87 rfl rfl ?_
    have f31 := OB.of (KI e30) f24
    obtain ⟨r32, f33, hyp⟩ := hyp
    refine q_getR 10 8 91 dX10_strike_88 rfl fiX10_28 rfl f31 f33 ?_
    refine ex_iload_n 92 dX10_strike_91 rfl rfl ?_
    refine ex_aload_n 93 dX10_strike_92 rfl rfl ?_
    refine q_getR 10 8 96 dX10_strike_93 rfl fiX10_28 rfl f31 f33 ?_
    refine ex_iload_n 97 dX10_strike_96 rfl rfl ?_
    refine ex_iconst 98 dX10_strike_97 rfl ?_
    refine ex_iadd 99 dX10_strike_98 rfl ?_
    obtain ⟨o34, hyp⟩ := hyp
    refine ex_iald 100 dX10_strike_99 rfl o34 ?_
    obtain ⟨o35, hyp⟩ := hyp
    refine ex_iast 101 dX10_strike_100 rfl o35 (fun h36 e37 => ?_)
    have hyp := hyp h36 e37
    refine ex_iconst 102 dX10_strike_101 rfl ?_
    refine q_istore_n [some (vr a0), some (vi x1), some (vi x2), some (vi 0)] 103 dX10_strike_102 rfl (Nat.le_of_ble_eq_true rfl) rfl rfl ?_
    exact hyp
set_option maxRecDepth 4000 in
theorem tX10_strike_103 {P : Int → PH → Prop} (h0 : PH) (a0 : Nat) (x1 : Int) (x2 : Int) (x3 : Int) (hyp : rng x3 ∧ (8 ≤ x3 → (EXi mX10_strike 23 [some (vr a0), some (vi x1), some (vi (x2 + 1)), none] [] h0 P)) ∧ (x3 < 8 → (OB h0 10 a0 ∧ ∃ r3 : Nat, h0.2.2 a0 7 = some r3 ∧ AI h0 20 r3 ((8 * (x2 + 1)) + x3) ∧ AI h0 20 r3 ((8 * x2) + x3) ∧ ∀ h7 : PH, h7 = px_upI h0 r3 ((8 * x2) + x3).toNat (h0.2.1 r3 ((8 * (x2 + 1)) + x3).toNat) → (EXi mX10_strike 103 [some (vr a0), some (vi x1), some (vi x2), some (vi (x3 + 1))] [] h7 P)))) : EXi mX10_strike 103 [some (vr a0), some (vi x1), some (vi x2), some (vi x3)] [] h0 P := by
  refine ex_iload_n 104 dX10_strike_103 rfl rfl ?_
  refine ex_bipush 106 dX10_strike_104 rfl ⟨by decide, by decide⟩ ?_
  obtain ⟨o1, hyp⟩ := hyp
  obtain ⟨ht, hf⟩ := hyp
  refine ex_icmp_ge 139 109 dX10_strike_106 (by decide) rfl o1 ⟨by decide, by decide⟩ (fun c9 => ?_) (fun c9 => ?_)
  · have hyp := ht c9
    clear ht hf
    refine q_iinc [some (vr a0), some (vi x1), some (vi (x2 + 1)), some (vi x3)] 142 dX10_strike_139 rfl rfl (Nat.le_of_ble_eq_true rfl) rfl rfl ?_
    refine ex_goto 23 dX10_strike_142 (by decide) ?_
    refine ex_dropL (ls' := [some (vr a0), some (vi x1), some (vi (x2 + 1)), none]) 3 rfl ?_
    exact hyp
  · have hyp := hf c9
    clear ht hf
    refine ex_aload_n 110 dX10_strike_109 rfl rfl ?_
    obtain ⟨o2, hyp⟩ := hyp
    obtain ⟨r3, f4, hyp⟩ := hyp
    refine q_getR 10 7 113 dX10_strike_110 rfl fiX10_25 rfl o2 f4 ?_
    refine ex_bipush 115 dX10_strike_113 rfl ⟨by decide, by decide⟩ ?_
    refine ex_iload_n 116 dX10_strike_115 rfl rfl ?_
    refine ex_imul 117 dX10_strike_116 rfl ?_
    refine ex_iload_n 118 dX10_strike_117 rfl rfl ?_
    refine ex_iadd 119 dX10_strike_118 rfl ?_
    refine ex_aload_n 120 dX10_strike_119 rfl rfl ?_
    refine q_getR 10 7 123 dX10_strike_120 rfl fiX10_25 rfl o2 f4 ?_
    refine ex_bipush 125 dX10_strike_123 rfl ⟨by decide, by decide⟩ ?_
    refine ex_iload_n 126 dX10_strike_125 rfl rfl ?_
    refine ex_iconst 127 dX10_strike_126 rfl ?_
    refine ex_iadd 128 dX10_strike_127 rfl ?_
    refine ex_imul 129 dX10_strike_128 rfl ?_
    refine ex_iload_n 130 dX10_strike_129 rfl rfl ?_
    refine ex_iadd 131 dX10_strike_130 rfl ?_
    obtain ⟨o5, hyp⟩ := hyp
    refine ex_iald 132 dX10_strike_131 rfl o5 ?_
    obtain ⟨o6, hyp⟩ := hyp
    refine ex_iast 133 dX10_strike_132 rfl o6 (fun h7 e8 => ?_)
    have hyp := hyp h7 e8
    refine q_iinc [some (vr a0), some (vi x1), some (vi x2), some (vi (x3 + 1))] 136 dX10_strike_133 rfl rfl (Nat.le_of_ble_eq_true rfl) rfl rfl ?_
    refine ex_goto 103 dX10_strike_136 (by decide) ?_
    exact hyp
set_option maxRecDepth 4000 in
theorem tX10_strike_147 {P : Int → PH → Prop} (h0 : PH) (a0 : Nat) (x1 : Int) (x2 : Int) (hyp : OB h0 10 a0 ∧ rng x2 ∧ rng (h0.2.1 a0 2) ∧ (h0.2.1 a0 2 ≤ x2 → (∀ h4 : PH, h4 = px_upI h0 a0 11 ((h0.2.1 a0 11) + 1) → (P (h4.2.1 a0 2) h4))) ∧ (x2 < h0.2.1 a0 2 → (∃ r7 : Nat, h0.2.2 a0 8 = some r7 ∧ AI h0 20 r7 x2 ∧ METi mX10_without [vi (h0.2.1 r7 (x2).toNat), vi x1] h0 (fun y12 h10 => h10.1 = h0.1 → (∀ h14 : PH, h14 = px_upI h10 r7 (x2).toNat y12 → (EXi mX10_strike 147 [some (vr a0), some (vi x1), some (vi (x2 + 1)), none] [] h14 P)))))) : EXi mX10_strike 147 [some (vr a0), some (vi x1), some (vi x2), none] [] h0 P := by
  refine ex_iload_n 148 dX10_strike_147 rfl rfl ?_
  refine ex_aload_n 149 dX10_strike_148 rfl rfl ?_
  obtain ⟨o1, hyp⟩ := hyp
  refine q_getI 10 2 152 dX10_strike_149 rfl fiX10_118 (Or.inl rfl) o1 ?_
  obtain ⟨o2, hyp⟩ := hyp
  obtain ⟨o3, hyp⟩ := hyp
  obtain ⟨ht, hf⟩ := hyp
  refine ex_icmp_ge 177 155 dX10_strike_152 (by decide) rfl o2 o3 (fun c16 => ?_) (fun c16 => ?_)
  · have hyp := ht c16
    clear ht hf
    refine ex_aload_n 178 dX10_strike_177 rfl rfl ?_
    refine ex_dup 179 dX10_strike_178 rfl rfl ?_
    refine q_getI 10 11 182 dX10_strike_179 rfl fiX10_288 (Or.inl rfl) o1 ?_
    refine ex_iconst 183 dX10_strike_182 rfl ?_
    refine ex_iadd 184 dX10_strike_183 rfl ?_
    refine q_putI 10 11 187 dX10_strike_184 rfl fiX10_288 ff10_11 rfl o1 (fun h4 e5 => ?_)
    have hyp := hyp h4 e5
    refine ex_aload_n 188 dX10_strike_187 rfl rfl ?_
    have f6 := OB.of (KI e5) o1
    refine q_getI 10 2 191 dX10_strike_188 rfl fiX10_118 (Or.inl rfl) f6 ?_
    exact ex_iret dX10_strike_191 (Or.inl rfl) ⟨_, rfl, hyp⟩
  · have hyp := hf c16
    clear ht hf
    refine ex_aload_n 156 dX10_strike_155 rfl rfl ?_
    obtain ⟨r7, f8, hyp⟩ := hyp
    refine q_getR 10 8 159 dX10_strike_156 rfl fiX10_28 rfl o1 f8 ?_
    refine ex_iload_n 160 dX10_strike_159 rfl rfl ?_
    refine ex_aload_n 161 dX10_strike_160 rfl rfl ?_
    refine q_getR 10 8 164 dX10_strike_161 rfl fiX10_28 rfl o1 f8 ?_
    refine ex_iload_n 165 dX10_strike_164 rfl rfl ?_
    obtain ⟨o9, hyp⟩ := hyp
    refine ex_iald 166 dX10_strike_165 rfl o9 ?_
    refine ex_iload_n 167 dX10_strike_166 rfl rfl ?_
    refine q_callSi [vi (h0.2.1 r7 (x2).toNat), vi x1] 170 dX10_strike_167 rfl cvX10_285 rfl rfl ⟨Nat.le_of_ble_eq_true rfl, Nat.le_of_ble_eq_true rfl⟩ (Nat.le_of_ble_eq_true rfl) hyp (fun y12 h10 k11 hyp => ?_)
    have f13 := AI.of k11 o9
    refine ex_iast 171 dX10_strike_170 rfl f13 (fun h14 e15 => ?_)
    have hyp := hyp h14 e15
    refine q_iinc [some (vr a0), some (vi x1), some (vi (x2 + 1)), none] 174 dX10_strike_171 rfl rfl (Nat.le_of_ble_eq_true rfl) rfl rfl ?_
    refine ex_goto 147 dX10_strike_174 (by decide) ?_
    exact hyp
set_option maxRecDepth 4000 in
theorem tX10_isAge {P : Int → PH → Prop} (h0 : PH) (a0 : Nat) (x1 : Int) (x2 : Int) (hyp : rng x2 ∧ (x2 = (-1) → (P 1 h0)) ∧ (¬ x2 = (-1) → (rng x1 ∧ (¬ x1 = 1 → ((¬ x1 = 2 → (P 0 h0)) ∧ (x1 = 2 → (METi mX10_within [vi x2, vi 0, vi 99] h0 (fun y5 h3 => h3.1 = h0.1 → (rng y5 ∧ (y5 = 0 → (P 0 h3)) ∧ (¬ y5 = 0 → (P 1 h3)))))))) ∧ (x1 = 1 → (METi mX10_within [vi x2, vi 14, vi 99] h0 (fun y11 h9 => h9.1 = h0.1 → (rng y11 ∧ (¬ y11 = 0 → (P 1 h9)) ∧ (y11 = 0 → ((¬ x1 = 2 → (P 0 h9)) ∧ (x1 = 2 → (METi mX10_within [vi x2, vi 0, vi 99] h9 (fun y15 h13 => h13.1 = h9.1 → (rng y15 ∧ (y15 = 0 → (P 0 h13)) ∧ (¬ y15 = 0 → (P 1 h13))))))))))))))) : METi mX10_isAge [vr a0, vi x1, vi x2] h0 P := by
  refine met_of_ex (by decide +kernel) (Nat.le_of_ble_eq_true rfl) ?_
  show EX mX10_isAge 0 [some (vr a0), some (vi x1), some (vi x2)] [] h0 (0, 0) _
  refine ex_iload_n 1 dX10_isAge_0 rfl rfl ?_
  refine ex_iconst 2 dX10_isAge_1 rfl ?_
  obtain ⟨o1, hyp⟩ := hyp
  obtain ⟨ht, hf⟩ := hyp
  refine ex_icmp_eq 36 5 dX10_isAge_2 (by decide) rfl o1 ⟨by decide, by decide⟩ (fun c21 => ?_) (fun c21 => ?_)
  · have hyp := ht c21
    clear ht hf
    refine ex_iconst 37 dX10_isAge_36 rfl ?_
    refine ex_goto 41 dX10_isAge_37 (by decide) ?_
    exact ex_iret dX10_isAge_41 (Or.inr ⟨rfl, Or.inr rfl⟩) ⟨_, rfl, hyp⟩
  · have hyp := hf c21
    clear ht hf
    refine ex_iload_n 6 dX10_isAge_5 rfl rfl ?_
    refine ex_iconst 7 dX10_isAge_6 rfl ?_
    obtain ⟨o2, hyp⟩ := hyp
    obtain ⟨ht, hf⟩ := hyp
    refine ex_icmp_ne 21 10 dX10_isAge_7 (by decide) rfl o2 ⟨by decide, by decide⟩ (fun c20 => ?_) (fun c20 => ?_)
    · have hyp := ht c20
      clear ht hf
      refine ex_iload_n 22 dX10_isAge_21 rfl rfl ?_
      refine ex_iconst 23 dX10_isAge_22 rfl ?_
      obtain ⟨ht, hf⟩ := hyp
      refine ex_icmp_ne 40 26 dX10_isAge_23 (by decide) rfl o2 ⟨by decide, by decide⟩ (fun c8 => ?_) (fun c8 => ?_)
      · have hyp := ht c8
        clear ht hf
        refine ex_iconst 41 dX10_isAge_40 rfl ?_
        exact ex_iret dX10_isAge_41 (Or.inr ⟨rfl, Or.inl rfl⟩) ⟨_, rfl, hyp⟩
      · have hyp := hf c8
        clear ht hf
        refine ex_iload_n 27 dX10_isAge_26 rfl rfl ?_
        refine ex_iconst 28 dX10_isAge_27 rfl ?_
        refine ex_bipush 30 dX10_isAge_28 rfl ⟨by decide, by decide⟩ ?_
        refine q_callSi [vi x2, vi 0, vi 99] 33 dX10_isAge_30 rfl cvX10_76 rfl rfl ⟨Nat.le_of_ble_eq_true rfl, Nat.le_of_ble_eq_true rfl⟩ (Nat.le_of_ble_eq_true rfl) hyp (fun y5 h3 k4 hyp => ?_)
        obtain ⟨o6, hyp⟩ := hyp
        obtain ⟨ht, hf⟩ := hyp
        refine ex_if_eq 40 36 dX10_isAge_33 (by decide) rfl o6 (fun c7 => ?_) (fun c7 => ?_)
        · have hyp := ht c7
          clear ht hf
          refine ex_iconst 41 dX10_isAge_40 rfl ?_
          exact ex_iret dX10_isAge_41 (Or.inr ⟨rfl, Or.inl rfl⟩) ⟨_, rfl, hyp⟩
        · have hyp := hf c7
          clear ht hf
          refine ex_iconst 37 dX10_isAge_36 rfl ?_
          refine ex_goto 41 dX10_isAge_37 (by decide) ?_
          exact ex_iret dX10_isAge_41 (Or.inr ⟨rfl, Or.inr rfl⟩) ⟨_, rfl, hyp⟩
    · have hyp := hf c20
      clear ht hf
      refine ex_iload_n 11 dX10_isAge_10 rfl rfl ?_
      refine ex_bipush 13 dX10_isAge_11 rfl ⟨by decide, by decide⟩ ?_
      refine ex_bipush 15 dX10_isAge_13 rfl ⟨by decide, by decide⟩ ?_
      refine q_callSi [vi x2, vi 14, vi 99] 18 dX10_isAge_15 rfl cvX10_76 rfl rfl ⟨Nat.le_of_ble_eq_true rfl, Nat.le_of_ble_eq_true rfl⟩ (Nat.le_of_ble_eq_true rfl) hyp (fun y11 h9 k10 hyp => ?_)
      obtain ⟨o12, hyp⟩ := hyp
      obtain ⟨ht, hf⟩ := hyp
      refine ex_if_ne 36 21 dX10_isAge_18 (by decide) rfl o12 (fun c19 => ?_) (fun c19 => ?_)
      · have hyp := ht c19
        clear ht hf
        refine ex_iconst 37 dX10_isAge_36 rfl ?_
        refine ex_goto 41 dX10_isAge_37 (by decide) ?_
        exact ex_iret dX10_isAge_41 (Or.inr ⟨rfl, Or.inr rfl⟩) ⟨_, rfl, hyp⟩
      · have hyp := hf c19
        clear ht hf
        refine ex_iload_n 22 dX10_isAge_21 rfl rfl ?_
        refine ex_iconst 23 dX10_isAge_22 rfl ?_
        obtain ⟨ht, hf⟩ := hyp
        refine ex_icmp_ne 40 26 dX10_isAge_23 (by decide) rfl o2 ⟨by decide, by decide⟩ (fun c18 => ?_) (fun c18 => ?_)
        · have hyp := ht c18
          clear ht hf
          refine ex_iconst 41 dX10_isAge_40 rfl ?_
          exact ex_iret dX10_isAge_41 (Or.inr ⟨rfl, Or.inl rfl⟩) ⟨_, rfl, hyp⟩
        · have hyp := hf c18
          clear ht hf
          refine ex_iload_n 27 dX10_isAge_26 rfl rfl ?_
          refine ex_iconst 28 dX10_isAge_27 rfl ?_
          refine ex_bipush 30 dX10_isAge_28 rfl ⟨by decide, by decide⟩ ?_
          refine q_callSi [vi x2, vi 0, vi 99] 33 dX10_isAge_30 rfl cvX10_76 rfl rfl ⟨Nat.le_of_ble_eq_true rfl, Nat.le_of_ble_eq_true rfl⟩ (Nat.le_of_ble_eq_true rfl) hyp (fun y15 h13 k14 hyp => ?_)
          obtain ⟨o16, hyp⟩ := hyp
          obtain ⟨ht, hf⟩ := hyp
          refine ex_if_eq 40 36 dX10_isAge_33 (by decide) rfl o16 (fun c17 => ?_) (fun c17 => ?_)
          · have hyp := ht c17
            clear ht hf
            refine ex_iconst 41 dX10_isAge_40 rfl ?_
            exact ex_iret dX10_isAge_41 (Or.inr ⟨rfl, Or.inl rfl⟩) ⟨_, rfl, hyp⟩
          · have hyp := hf c17
            clear ht hf
            refine ex_iconst 37 dX10_isAge_36 rfl ?_
            refine ex_goto 41 dX10_isAge_37 (by decide) ?_
            exact ex_iret dX10_isAge_41 (Or.inr ⟨rfl, Or.inr rfl⟩) ⟨_, rfl, hyp⟩
set_option maxRecDepth 4000 in
theorem tX10_age {P : Int → PH → Prop} (h0 : PH) (a0 : Nat) (x1 : Int) (x2 : Int) (hyp : OB h0 10 a0 ∧ METi mX10_isEntry [vr a0, vi x1] h0 (fun y4 h2 => h2.1 = h0.1 → (rng y4 ∧ (¬ y4 = 0 → (∃ r7 : Nat, h2.2.2 a0 3 = some r7 ∧ AI h2 20 r7 x1 ∧ METi mX10_isAge [vr a0, vi (h2.2.1 r7 (x1).toNat), vi x2] h2 (fun y12 h10 => h10.1 = h2.1 → (rng y12 ∧ (¬ y12 = 0 → (∃ r15 : Nat, h10.2.2 a0 5 = some r15 ∧ AI h10 20 r15 x1 ∧ ∀ h18 : PH, h18 = px_upI h10 r15 (x1).toNat x2 → (P (h10.2.1 r15 (x1).toNat) h18))) ∧ (y12 = 0 → (P (-102) h10)))))) ∧ (y4 = 0 → (P (-101) h2))))) : METi mX10_age [vr a0, vi x1, vi x2] h0 P := by
  refine met_of_ex (by decide +kernel) (Nat.le_of_ble_eq_true rfl) ?_
  show EX mX10_age 0 [some (vr a0), some (vi x1), some (vi x2), none] [] h0 (0, 0) _
  refine ex_aload_n 1 dX10_age_0 rfl rfl ?_
  refine ex_iload_n 2 dX10_age_1 rfl rfl ?_
  obtain ⟨o1, hyp⟩ := hyp
  refine q_callVi [vi x1] 5 dX10_age_2 rfl cvX10_178 rfl rfl ⟨Nat.le_of_ble_eq_true rfl, Nat.le_of_ble_eq_true rfl⟩ (Nat.le_of_ble_eq_true rfl) o1 hyp (fun y4 h2 k3 hyp => ?_)
  obtain ⟨o5, hyp⟩ := hyp
  obtain ⟨ht, hf⟩ := hyp
  refine ex_if_ne 11 8 dX10_age_5 (by decide) rfl o5 (fun c21 => ?_) (fun c21 => ?_)
  · have hyp := ht c21
    clear ht hf
    refine ex_aload_n 12 dX10_age_11 rfl rfl ?_
    refine ex_aload_n 13 dX10_age_12 rfl rfl ?_
    have f6 := OB.of k3 o1
    obtain ⟨r7, f8, hyp⟩ := hyp
    refine q_getR 10 3 16 dX10_age_13 rfl fiX10_13 rfl f6 f8 ?_
    refine ex_iload_n 17 dX10_age_16 rfl rfl ?_
    obtain ⟨o9, hyp⟩ := hyp
    refine ex_iald 18 dX10_age_17 rfl o9 ?_
    refine ex_iload_n 19 dX10_age_18 rfl rfl ?_
    refine q_callVi [vi (h2.2.1 r7 (x1).toNat), vi x2] 22 dX10_age_19 rfl cvX10_291 rfl rfl ⟨Nat.le_of_ble_eq_true rfl, Nat.le_of_ble_eq_true rfl⟩ (Nat.le_of_ble_eq_true rfl) f6 hyp (fun y12 h10 k11 hyp => ?_)
    obtain ⟨o13, hyp⟩ := hyp
    obtain ⟨ht, hf⟩ := hyp
    refine ex_if_ne 28 25 dX10_age_22 (by decide) rfl o13 (fun c20 => ?_) (fun c20 => ?_)
    · have hyp := ht c20
      clear ht hf
      refine ex_aload_n 29 dX10_age_28 rfl rfl ?_
      have f14 := OB.of k11 f6
      obtain ⟨r15, f16, hyp⟩ := hyp
      refine q_getR 10 5 32 dX10_age_29 rfl fiX10_19 rfl f14 f16 ?_
      refine ex_iload_n 33 dX10_age_32 rfl rfl ?_
      obtain ⟨o17, hyp⟩ := hyp
      refine ex_iald 34 dX10_age_33 rfl o17 ?_
      refine q_istore_n [some (vr a0), some (vi x1), some (vi x2), some (vi (h10.2.1 r15 (x1).toNat))] 35 dX10_age_34 rfl (Nat.le_of_ble_eq_true rfl) rfl rfl ?_
      refine ex_aload_n 36 dX10_age_35 rfl rfl ?_
      refine q_getR 10 5 39 dX10_age_36 rfl fiX10_19 rfl f14 f16 ?_
      refine ex_iload_n 40 dX10_age_39 rfl rfl ?_
      refine ex_iload_n 41 dX10_age_40 rfl rfl ?_
      refine ex_iast 42 dX10_age_41 rfl o17 (fun h18 e19 => ?_)
      have hyp := hyp h18 e19
      refine ex_iload_n 43 dX10_age_42 rfl rfl ?_
      exact ex_iret dX10_age_43 (Or.inl rfl) ⟨_, rfl, hyp⟩
    · have hyp := hf c20
      clear ht hf
      refine ex_bipush 27 dX10_age_25 rfl ⟨by decide, by decide⟩ ?_
      exact ex_iret dX10_age_27 (Or.inl rfl) ⟨_, rfl, hyp⟩
  · have hyp := hf c21
    clear ht hf
    refine ex_bipush 10 dX10_age_8 rfl ⟨by decide, by decide⟩ ?_
    exact ex_iret dX10_age_10 (Or.inl rfl) ⟨_, rfl, hyp⟩
set_option maxRecDepth 4000 in
theorem tX10_part {P : Int → PH → Prop} (h0 : PH) (a0 : Nat) (x1 : Int) (x2 : Int) (hyp : OB h0 10 a0 ∧ METi mX10_isEntry [vr a0, vi x1] h0 (fun y4 h2 => h2.1 = h0.1 → (rng y4 ∧ (y4 = 0 → (P (-101) h2)) ∧ (¬ y4 = 0 → (METi mX10_isEntry [vr a0, vi x2] h2 (fun y9 h7 => h7.1 = h2.1 → (rng y9 ∧ (y9 = 0 → (P (-101) h7)) ∧ (¬ y9 = 0 → (rng x1 ∧ rng x2 ∧ (¬ x1 = x2 → (∃ r14 : Nat, h7.2.2 a0 8 = some r14 ∧ AI h7 20 r14 x1 ∧ ∀ h17 : PH, h17 = px_upI h7 r14 (x1).toNat (b_xor (h7.2.1 r14 (x1).toNat) (b_shl 1 x2)) → (AI h17 20 r14 x2 ∧ ∀ h22 : PH, h22 = px_upI h17 r14 (x2).toNat (b_xor (h17.2.1 r14 (x2).toNat) (b_shl 1 x1)) → (METi mX10_isParted [vr a0, vi x1, vi x2] h22 (fun y27 h25 => h25.1 = h22.1 → (rng y27 ∧ (y27 = 0 → (P 0 h25)) ∧ (¬ y27 = 0 → (P 1 h25)))))))) ∧ (x1 = x2 → (P (-101) h7))))))))))) : METi mX10_part [vr a0, vi x1, vi x2] h0 P := by
  refine met_of_ex (by decide +kernel) (Nat.le_of_ble_eq_true rfl) ?_
  show EX mX10_part 0 [some (vr a0), some (vi x1), some (vi x2)] [] h0 (0, 0) _
  refine ex_aload_n 1 dX10_part_0 rfl rfl ?_
  refine ex_iload_n 2 dX10_part_1 rfl rfl ?_
  obtain ⟨o1, hyp⟩ := hyp
  refine q_callVi [vi x1] 5 dX10_part_2 rfl cvX10_178 rfl rfl ⟨Nat.le_of_ble_eq_true rfl, Nat.le_of_ble_eq_true rfl⟩ (Nat.le_of_ble_eq_true rfl) o1 hyp (fun y4 h2 k3 hyp => ?_)
  obtain ⟨o5, hyp⟩ := hyp
  obtain ⟨ht, hf⟩ := hyp
  refine ex_if_eq 21 8 dX10_part_5 (by decide) rfl o5 (fun c32 => ?_) (fun c32 => ?_)
  · have hyp := ht c32
    clear ht hf
    refine ex_bipush 23 dX10_part_21 rfl ⟨by decide, by decide⟩ ?_
    exact ex_iret dX10_part_23 (Or.inl rfl) ⟨_, rfl, hyp⟩
  · have hyp := hf c32
    clear ht hf
    refine ex_aload_n 9 dX10_part_8 rfl rfl ?_
    refine ex_iload_n 10 dX10_part_9 rfl rfl ?_
    have f6 := OB.of k3 o1
    refine q_callVi [vi x2] 13 dX10_part_10 rfl cvX10_178 rfl rfl ⟨Nat.le_of_ble_eq_true rfl, Nat.le_of_ble_eq_true rfl⟩ (Nat.le_of_ble_eq_true rfl) f6 hyp (fun y9 h7 k8 hyp => ?_)
    obtain ⟨o10, hyp⟩ := hyp
    obtain ⟨ht, hf⟩ := hyp
    refine ex_if_eq 21 16 dX10_part_13 (by decide) rfl o10 (fun c31 => ?_) (fun c31 => ?_)
    · have hyp := ht c31
      clear ht hf
      refine ex_bipush 23 dX10_part_21 rfl ⟨by decide, by decide⟩ ?_
      exact ex_iret dX10_part_23 (Or.inl rfl) ⟨_, rfl, hyp⟩
    · have hyp := hf c31
      clear ht hf
      refine ex_iload_n 17 dX10_part_16 rfl rfl ?_
      refine ex_iload_n 18 dX10_part_17 rfl rfl ?_
      obtain ⟨o11, hyp⟩ := hyp
      obtain ⟨o12, hyp⟩ := hyp
      obtain ⟨ht, hf⟩ := hyp
      refine ex_icmp_ne 24 21 dX10_part_18 (by decide) rfl o11 o12 (fun c30 => ?_) (fun c30 => ?_)
      · have hyp := ht c30
        clear ht hf
        refine ex_aload_n 25 dX10_part_24 rfl rfl ?_
        have f13 := OB.of k8 f6
        obtain ⟨r14, f15, hyp⟩ := hyp
        refine q_getR 10 8 28 dX10_part_25 rfl fiX10_28 rfl f13 f15 ?_
        refine ex_iload_n 29 dX10_part_28 rfl rfl ?_
        refine ex_dup2 30 dX10_part_29 rfl rfl rfl ?_
        obtain ⟨o16, hyp⟩ := hyp
        refine ex_iald 31 dX10_part_30 rfl o16 ?_
        refine ex_iconst 32 dX10_part_31 rfl ?_
        refine ex_iload_n 33 dX10_part_32 rfl rfl ?_
        refine ex_ishl 34 dX10_part_33 rfl ?_
        refine ex_ixor 35 dX10_part_34 rfl ?_
        refine ex_iast 36 dX10_part_35 rfl o16 (fun h17 e18 => ?_)
        have hyp := hyp h17 e18
        refine ex_aload_n 37 dX10_part_36 rfl rfl ?_
        have f19 := OB.of (KI e18) f13
        have f20 := RI e18 f15
        refine q_getR 10 8 40 dX10_part_37 rfl fiX10_28 rfl f19 f20 ?_
        refine ex_iload_n 41 dX10_part_40 rfl rfl ?_
        refine ex_dup2 42 dX10_part_41 rfl rfl rfl ?_
        obtain ⟨o21, hyp⟩ := hyp
        refine ex_iald 43 dX10_part_42 rfl o21 ?_
        refine ex_iconst 44 dX10_part_43 rfl ?_
        refine ex_iload_n 45 dX10_part_44 rfl rfl ?_
        refine ex_ishl 46 dX10_part_45 rfl ?_
        refine ex_ixor 47 dX10_part_46 rfl ?_
        refine ex_iast 48 dX10_part_47 rfl o21 (fun h22 e23 => ?_)
        have hyp := hyp h22 e23
        refine ex_aload_n 49 dX10_part_48 rfl rfl ?_
        refine ex_iload_n 50 dX10_part_49 rfl rfl ?_
        refine ex_iload_n 51 dX10_part_50 rfl rfl ?_
        have f24 := OB.of (KI e23) f19
        refine q_callVi [vi x1, vi x2] 54 dX10_part_51 rfl cvX10_157 rfl rfl ⟨Nat.le_of_ble_eq_true rfl, Nat.le_of_ble_eq_true rfl⟩ (Nat.le_of_ble_eq_true rfl) f24 hyp (fun y27 h25 k26 hyp => ?_)
        obtain ⟨o28, hyp⟩ := hyp
        obtain ⟨ht, hf⟩ := hyp
        refine ex_if_eq 61 57 dX10_part_54 (by decide) rfl o28 (fun c29 => ?_) (fun c29 => ?_)
        · have hyp := ht c29
          clear ht hf
          refine ex_iconst 62 dX10_part_61 rfl ?_
          exact ex_iret dX10_part_62 (Or.inl rfl) ⟨_, rfl, hyp⟩
        · have hyp := hf c29
          clear ht hf
          refine ex_iconst 58 dX10_part_57 rfl ?_
          refine ex_goto 62 dX10_part_58 (by decide) ?_
          exact ex_iret dX10_part_62 (Or.inl rfl) ⟨_, rfl, hyp⟩
      · have hyp := hf c30
        clear ht hf
        refine ex_bipush 23 dX10_part_21 rfl ⟨by decide, by decide⟩ ?_
        exact ex_iret dX10_part_23 (Or.inl rfl) ⟨_, rfl, hyp⟩
set_option maxRecDepth 4000 in
theorem tX10_bound {P : Int → PH → Prop} (h0 : PH) (a0 : Nat) (x1 : Int) (x2 : Int) (hyp : rng x1 ∧ (¬ x1 = 0 → (EXi mX10_bound 15 [some (vr a0), some (vi x1), some (vi x2), none, none] [] h0 P)) ∧ (x1 = 0 → (METi mX10_within [vi x2, vi 0, vi 1000] h0 (fun y4 h2 => h2.1 = h0.1 → (rng y4 ∧ (¬ y4 = 0 → (OB h2 10 a0 ∧ ∃ r7 : Nat, h2.2.2 a0 9 = some r7 ∧ AI h2 20 r7 x1 ∧ ∀ h10 : PH, h10 = px_upI h2 r7 (x1).toNat x2 → (P (h2.2.1 r7 (x1).toNat) h10))) ∧ (y4 = 0 → (EXi mX10_bound 15 [some (vr a0), some (vi x1), some (vi x2), none, none] [] h2 P))))))) : METi mX10_bound [vr a0, vi x1, vi x2] h0 P := by
  refine met_of_ex (by decide +kernel) (Nat.le_of_ble_eq_true rfl) ?_
  show EX mX10_bound 0 [some (vr a0), some (vi x1), some (vi x2), none, none] [] h0 (0, 0) _
  refine ex_iload_n 1 dX10_bound_0 rfl rfl ?_
  obtain ⟨o1, hyp⟩ := hyp
  obtain ⟨ht, hf⟩ := hyp
  refine ex_if_ne 15 4 dX10_bound_1 (by decide) rfl o1 (fun c13 => ?_) (fun c13 => ?_)
  · have hyp := ht c13
    clear ht hf
    exact hyp
  · have hyp := hf c13
    clear ht hf
    refine ex_iload_n 5 dX10_bound_4 rfl rfl ?_
    refine ex_iconst 6 dX10_bound_5 rfl ?_
    refine ex_sipush 9 dX10_bound_6 rfl ⟨by decide, by decide⟩ ?_
    refine q_callSi [vi x2, vi 0, vi 1000] 12 dX10_bound_9 rfl cvX10_76 rfl rfl ⟨Nat.le_of_ble_eq_true rfl, Nat.le_of_ble_eq_true rfl⟩ (Nat.le_of_ble_eq_true rfl) hyp (fun y4 h2 k3 hyp => ?_)
    obtain ⟨o5, hyp⟩ := hyp
    obtain ⟨ht, hf⟩ := hyp
    refine ex_if_ne 45 15 dX10_bound_12 (by decide) rfl o5 (fun c12 => ?_) (fun c12 => ?_)
    · have hyp := ht c12
      clear ht hf
      refine ex_iconst 46 dX10_bound_45 rfl ?_
      refine ex_goto 50 dX10_bound_46 (by decide) ?_
      refine q_istore_n [some (vr a0), some (vi x1), some (vi x2), some (vi 1), none] 51 dX10_bound_50 rfl (Nat.le_of_ble_eq_true rfl) rfl rfl ?_
      refine ex_iload_n 52 dX10_bound_51 rfl rfl ?_
      refine ex_if_ne 58 55 dX10_bound_52 (by decide) rfl ⟨by decide, by decide⟩ (fun _ => ?_) (fun c => absurd c (by decide))
      refine ex_aload_n 59 dX10_bound_58 rfl rfl ?_
      obtain ⟨o6, hyp⟩ := hyp
      obtain ⟨r7, f8, hyp⟩ := hyp
      refine q_getR 10 9 62 dX10_bound_59 rfl fiX10_31 rfl o6 f8 ?_
      refine ex_iload_n 63 dX10_bound_62 rfl rfl ?_
      obtain ⟨o9, hyp⟩ := hyp
      refine ex_iald 64 dX10_bound_63 rfl o9 ?_
      refine q_istore [some (vr a0), some (vi x1), some (vi x2), some (vi 1), some (vi (h2.2.1 r7 (x1).toNat))] 66 dX10_bound_64 rfl (Nat.le_of_ble_eq_true rfl) rfl rfl ?_
      refine ex_aload_n 67 dX10_bound_66 rfl rfl ?_
      refine q_getR 10 9 70 dX10_bound_67 rfl fiX10_31 rfl o6 f8 ?_
      refine ex_iload_n 71 dX10_bound_70 rfl rfl ?_
      refine ex_iload_n 72 dX10_bound_71 rfl rfl ?_
      refine ex_iast 73 dX10_bound_72 rfl o9 (fun h10 e11 => ?_)
      have hyp := hyp h10 e11
      refine ex_iload 75 dX10_bound_73 rfl rfl ?_
      exact ex_iret dX10_bound_75 (Or.inl rfl) ⟨_, rfl, hyp⟩
    · have hyp := hf c12
      clear ht hf
      exact hyp
set_option maxRecDepth 4000 in
theorem tX10_bound_15 {P : Int → PH → Prop} (h0 : PH) (a0 : Nat) (x1 : Int) (x2 : Int) (hyp : rng x1 ∧ (¬ x1 = 1 → ((¬ x1 = 2 → (P (-102) h0)) ∧ (x1 = 2 → (METi mX10_within [vi x2, vi 0, vi 500] h0 (fun y4 h2 => h2.1 = h0.1 → (rng y4 ∧ (y4 = 0 → (P (-102) h2)) ∧ (¬ y4 = 0 → (OB h2 10 a0 ∧ ∃ r7 : Nat, h2.2.2 a0 9 = some r7 ∧ AI h2 20 r7 x1 ∧ ∀ h10 : PH, h10 = px_upI h2 r7 (x1).toNat x2 → (P (h2.2.1 r7 (x1).toNat) h10))))))))) ∧ (x1 = 1 → (METi mX10_within [vi x2, vi 0, vi 5] h0 (fun y16 h14 => h14.1 = h0.1 → (rng y16 ∧ (¬ y16 = 0 → (OB h14 10 a0 ∧ ∃ r19 : Nat, h14.2.2 a0 9 = some r19 ∧ AI h14 20 r19 x1 ∧ ∀ h22 : PH, h22 = px_upI h14 r19 (x1).toNat x2 → (P (h14.2.1 r19 (x1).toNat) h22))) ∧ (y16 = 0 → ((¬ x1 = 2 → (P (-102) h14)) ∧ (x1 = 2 → (METi mX10_within [vi x2, vi 0, vi 500] h14 (fun y26 h24 => h24.1 = h14.1 → (rng y26 ∧ (y26 = 0 → (P (-102) h24)) ∧ (¬ y26 = 0 → (OB h24 10 a0 ∧ ∃ r29 : Nat, h24.2.2 a0 9 = some r29 ∧ AI h24 20 r29 x1 ∧ ∀ h32 : PH, h32 = px_upI h24 r29 (x1).toNat x2 → (P (h24.2.1 r29 (x1).toNat) h32)))))))))))))) : EXi mX10_bound 15 [some (vr a0), some (vi x1), some (vi x2), none, none] [] h0 P := by
  refine ex_iload_n 16 dX10_bound_15 rfl rfl ?_
  refine ex_iconst 17 dX10_bound_16 rfl ?_
  obtain ⟨o1, hyp⟩ := hyp
  obtain ⟨ht, hf⟩ := hyp
  refine ex_icmp_ne 29 20 dX10_bound_17 (by decide) rfl o1 ⟨by decide, by decide⟩ (fun c37 => ?_) (fun c37 => ?_)
  · have hyp := ht c37
    clear ht hf
    refine ex_iload_n 30 dX10_bound_29 rfl rfl ?_
    refine ex_iconst 31 dX10_bound_30 rfl ?_
    obtain ⟨ht, hf⟩ := hyp
    refine ex_icmp_ne 49 34 dX10_bound_31 (by decide) rfl o1 ⟨by decide, by decide⟩ (fun c13 => ?_) (fun c13 => ?_)
    · have hyp := ht c13
      clear ht hf
      refine ex_iconst 50 dX10_bound_49 rfl ?_
      refine q_istore_n [some (vr a0), some (vi x1), some (vi x2), some (vi 0), none] 51 dX10_bound_50 rfl (Nat.le_of_ble_eq_true rfl) rfl rfl ?_
      refine ex_iload_n 52 dX10_bound_51 rfl rfl ?_
      refine ex_if_ne 58 55 dX10_bound_52 (by decide) rfl ⟨by decide, by decide⟩ (fun c => absurd c (by decide)) (fun _ => ?_)
      refine ex_bipush 57 dX10_bound_55 rfl ⟨by decide, by decide⟩ ?_
      exact ex_iret dX10_bound_57 (Or.inl rfl) ⟨_, rfl, hyp⟩
    · have hyp := hf c13
      clear ht hf
      refine ex_iload_n 35 dX10_bound_34 rfl rfl ?_
      refine ex_iconst 36 dX10_bound_35 rfl ?_
      refine ex_sipush 39 dX10_bound_36 rfl ⟨by decide, by decide⟩ ?_
      refine q_callSi [vi x2, vi 0, vi 500] 42 dX10_bound_39 rfl cvX10_76 rfl rfl ⟨Nat.le_of_ble_eq_true rfl, Nat.le_of_ble_eq_true rfl⟩ (Nat.le_of_ble_eq_true rfl) hyp (fun y4 h2 k3 hyp => ?_)
      obtain ⟨o5, hyp⟩ := hyp
      obtain ⟨ht, hf⟩ := hyp
      refine ex_if_eq 49 45 dX10_bound_42 (by decide) rfl o5 (fun c12 => ?_) (fun c12 => ?_)
      · have hyp := ht c12
        clear ht hf
        refine ex_iconst 50 dX10_bound_49 rfl ?_
        refine q_istore_n [some (vr a0), some (vi x1), some (vi x2), some (vi 0), none] 51 dX10_bound_50 rfl (Nat.le_of_ble_eq_true rfl) rfl rfl ?_
        refine ex_iload_n 52 dX10_bound_51 rfl rfl ?_
        refine ex_if_ne 58 55 dX10_bound_52 (by decide) rfl ⟨by decide, by decide⟩ (fun c => absurd c (by decide)) (fun _ => ?_)
        refine ex_bipush 57 dX10_bound_55 rfl ⟨by decide, by decide⟩ ?_
        exact ex_iret dX10_bound_57 (Or.inl rfl) ⟨_, rfl, hyp⟩
      · have hyp := hf c12
        clear ht hf
        refine ex_iconst 46 dX10_bound_45 rfl ?_
        refine ex_goto 50 dX10_bound_46 (by decide) ?_
        refine q_istore_n [some (vr a0), some (vi x1), some (vi x2), some (vi 1), none] 51 dX10_bound_50 rfl (Nat.le_of_ble_eq_true rfl) rfl rfl ?_
        refine ex_iload_n 52 dX10_bound_51 rfl rfl ?_
        refine ex_if_ne 58 55 dX10_bound_52 (by decide) rfl ⟨by decide, by decide⟩ (fun _ => ?_) (fun c => absurd c (by decide))
        refine ex_aload_n 59 dX10_bound_58 rfl rfl ?_
        obtain ⟨o6, hyp⟩ := hyp
        obtain ⟨r7, f8, hyp⟩ := hyp
        refine q_getR 10 9 62 dX10_bound_59 rfl fiX10_31 rfl o6 f8 ?_
        refine ex_iload_n 63 dX10_bound_62 rfl rfl ?_
        obtain ⟨o9, hyp⟩ := hyp
        refine ex_iald 64 dX10_bound_63 rfl o9 ?_
        refine q_istore [some (vr a0), some (vi x1), some (vi x2), some (vi 1), some (vi (h2.2.1 r7 (x1).toNat))] 66 dX10_bound_64 rfl (Nat.le_of_ble_eq_true rfl) rfl rfl ?_
        refine ex_aload_n 67 dX10_bound_66 rfl rfl ?_
        refine q_getR 10 9 70 dX10_bound_67 rfl fiX10_31 rfl o6 f8 ?_
        refine ex_iload_n 71 dX10_bound_70 rfl rfl ?_
        refine ex_iload_n 72 dX10_bound_71 rfl rfl ?_
        refine ex_iast 73 dX10_bound_72 rfl o9 (fun h10 e11 => ?_)
        have hyp := hyp h10 e11
        refine ex_iload 75 dX10_bound_73 rfl rfl ?_
        exact ex_iret dX10_bound_75 (Or.inl rfl) ⟨_, rfl, hyp⟩
  · have hyp := hf c37
    clear ht hf
    refine ex_iload_n 21 dX10_bound_20 rfl rfl ?_
    refine ex_iconst 22 dX10_bound_21 rfl ?_
    refine ex_iconst 23 dX10_bound_22 rfl ?_
    refine q_callSi [vi x2, vi 0, vi 5] 26 dX10_bound_23 rfl cvX10_76 rfl rfl ⟨Nat.le_of_ble_eq_true rfl, Nat.le_of_ble_eq_true rfl⟩ (Nat.le_of_ble_eq_true rfl) hyp (fun y16 h14 k15 hyp => ?_)
    obtain ⟨o17, hyp⟩ := hyp
    obtain ⟨ht, hf⟩ := hyp
    refine ex_if_ne 45 29 dX10_bound_26 (by decide) rfl o17 (fun c36 => ?_) (fun c36 => ?_)
    · have hyp := ht c36
      clear ht hf
      refine ex_iconst 46 dX10_bound_45 rfl ?_
      refine ex_goto 50 dX10_bound_46 (by decide) ?_
      refine q_istore_n [some (vr a0), some (vi x1), some (vi x2), some (vi 1), none] 51 dX10_bound_50 rfl (Nat.le_of_ble_eq_true rfl) rfl rfl ?_
      refine ex_iload_n 52 dX10_bound_51 rfl rfl ?_
      refine ex_if_ne 58 55 dX10_bound_52 (by decide) rfl ⟨by decide, by decide⟩ (fun _ => ?_) (fun c => absurd c (by decide))
      refine ex_aload_n 59 dX10_bound_58 rfl rfl ?_
      obtain ⟨o18, hyp⟩ := hyp
      obtain ⟨r19, f20, hyp⟩ := hyp
      refine q_getR 10 9 62 dX10_bound_59 rfl fiX10_31 rfl o18 f20 ?_
      refine ex_iload_n 63 dX10_bound_62 rfl rfl ?_
      obtain ⟨o21, hyp⟩ := hyp
      refine ex_iald 64 dX10_bound_63 rfl o21 ?_
      refine q_istore [some (vr a0), some (vi x1), some (vi x2), some (vi 1), some (vi (h14.2.1 r19 (x1).toNat))] 66 dX10_bound_64 rfl (Nat.le_of_ble_eq_true rfl) rfl rfl ?_
      refine ex_aload_n 67 dX10_bound_66 rfl rfl ?_
      refine q_getR 10 9 70 dX10_bound_67 rfl fiX10_31 rfl o18 f20 ?_
      refine ex_iload_n 71 dX10_bound_70 rfl rfl ?_
      refine ex_iload_n 72 dX10_bound_71 rfl rfl ?_
      refine ex_iast 73 dX10_bound_72 rfl o21 (fun h22 e23 => ?_)
      have hyp := hyp h22 e23
      refine ex_iload 75 dX10_bound_73 rfl rfl ?_
      exact ex_iret dX10_bound_75 (Or.inl rfl) ⟨_, rfl, hyp⟩
    · have hyp := hf c36
      clear ht hf
      refine ex_iload_n 30 dX10_bound_29 rfl rfl ?_
      refine ex_iconst 31 dX10_bound_30 rfl ?_
      obtain ⟨ht, hf⟩ := hyp
      refine ex_icmp_ne 49 34 dX10_bound_31 (by decide) rfl o1 ⟨by decide, by decide⟩ (fun c35 => ?_) (fun c35 => ?_)
      · have hyp := ht c35
        clear ht hf
        refine ex_iconst 50 dX10_bound_49 rfl ?_
        refine q_istore_n [some (vr a0), some (vi x1), some (vi x2), some (vi 0), none] 51 dX10_bound_50 rfl (Nat.le_of_ble_eq_true rfl) rfl rfl ?_
        refine ex_iload_n 52 dX10_bound_51 rfl rfl ?_
        refine ex_if_ne 58 55 dX10_bound_52 (by decide) rfl ⟨by decide, by decide⟩ (fun c => absurd c (by decide)) (fun _ => ?_)
        refine ex_bipush 57 dX10_bound_55 rfl ⟨by decide, by decide⟩ ?_
        exact ex_iret dX10_bound_57 (Or.inl rfl) ⟨_, rfl, hyp⟩
      · have hyp := hf c35
        clear ht hf
        refine ex_iload_n 35 dX10_bound_34 rfl rfl ?_
        refine ex_iconst 36 dX10_bound_35 rfl ?_
        refine ex_sipush 39 dX10_bound_36 rfl ⟨by decide, by decide⟩ ?_
        refine q_callSi [vi x2, vi 0, vi 500] 42 dX10_bound_39 rfl cvX10_76 rfl rfl ⟨Nat.le_of_ble_eq_true rfl, Nat.le_of_ble_eq_true rfl⟩ (Nat.le_of_ble_eq_true rfl) hyp (fun y26 h24 k25 hyp => ?_)
        obtain ⟨o27, hyp⟩ := hyp
        obtain ⟨ht, hf⟩ := hyp
        refine ex_if_eq 49 45 dX10_bound_42 (by decide) rfl o27 (fun c34 => ?_) (fun c34 => ?_)
        · have hyp := ht c34
          clear ht hf
          refine ex_iconst 50 dX10_bound_49 rfl ?_
          refine q_istore_n [some (vr a0), some (vi x1), some (vi x2), some (vi 0), none] 51 dX10_bound_50 rfl (Nat.le_of_ble_eq_true rfl) rfl rfl ?_
          refine ex_iload_n 52 dX10_bound_51 rfl rfl ?_
          refine ex_if_ne 58 55 dX10_bound_52 (by decide) rfl ⟨by decide, by decide⟩ (fun c => absurd c (by decide)) (fun _ => ?_)
          refine ex_bipush 57 dX10_bound_55 rfl ⟨by decide, by decide⟩ ?_
          exact ex_iret dX10_bound_57 (Or.inl rfl) ⟨_, rfl, hyp⟩
        · have hyp := hf c34
          clear ht hf
          refine ex_iconst 46 dX10_bound_45 rfl ?_
          refine ex_goto 50 dX10_bound_46 (by decide) ?_
          refine q_istore_n [some (vr a0), some (vi x1), some (vi x2), some (vi 1), none] 51 dX10_bound_50 rfl (Nat.le_of_ble_eq_true rfl) rfl rfl ?_
          refine ex_iload_n 52 dX10_bound_51 rfl rfl ?_
          refine ex_if_ne 58 55 dX10_bound_52 (by decide) rfl ⟨by decide, by decide⟩ (fun _ => ?_) (fun c => absurd c (by decide))
          refine ex_aload_n 59 dX10_bound_58 rfl rfl ?_
          obtain ⟨o28, hyp⟩ := hyp
          obtain ⟨r29, f30, hyp⟩ := hyp
          refine q_getR 10 9 62 dX10_bound_59 rfl fiX10_31 rfl o28 f30 ?_
          refine ex_iload_n 63 dX10_bound_62 rfl rfl ?_
          obtain ⟨o31, hyp⟩ := hyp
          refine ex_iald 64 dX10_bound_63 rfl o31 ?_
          refine q_istore [some (vr a0), some (vi x1), some (vi x2), some (vi 1), some (vi (h24.2.1 r29 (x1).toNat))] 66 dX10_bound_64 rfl (Nat.le_of_ble_eq_true rfl) rfl rfl ?_
          refine ex_aload_n 67 dX10_bound_66 rfl rfl ?_
          refine q_getR 10 9 70 dX10_bound_67 rfl fiX10_31 rfl o28 f30 ?_
          refine ex_iload_n 71 dX10_bound_70 rfl rfl ?_
          refine ex_iload_n 72 dX10_bound_71 rfl rfl ?_
          refine ex_iast 73 dX10_bound_72 rfl o31 (fun h32 e33 => ?_)
          have hyp := hyp h32 e33
          refine ex_iload 75 dX10_bound_73 rfl rfl ?_
          exact ex_iret dX10_bound_75 (Or.inl rfl) ⟨_, rfl, hyp⟩
set_option maxRecDepth 4000 in
theorem tX10_partedMany {P : Int → PH → Prop} (h0 : PH) (a0 : Nat) (hyp : EXi mX10_partedMany 4 [some (vr a0), some (vi 0), some (vi 0), none] [] h0 P) : METi mX10_partedMany [vr a0] h0 P := by
  refine met_of_ex (by decide +kernel) (Nat.le_of_ble_eq_true rfl) ?_
  show EX mX10_partedMany 0 [some (vr a0), none, none, none] [] h0 (0, 0) _
  refine ex_iconst 1 dX10_partedMany_0 rfl ?_
  refine q_istore_n [some (vr a0), some (vi 0), none, none] 2 dX10_partedMany_1 rfl (Nat.le_of_ble_eq_true rfl) rfl rfl ?_
  refine ex_iconst 3 dX10_partedMany_2 rfl ?_
  refine q_istore_n [some (vr a0), some (vi 0), some (vi 0), none] 4 dX10_partedMany_3 rfl (Nat.le_of_ble_eq_true rfl) rfl rfl ?_
  exact hyp
set_option maxRecDepth 4000 in
theorem tX10_partedMany_4 {P : Int → PH → Prop} (h0 : PH) (a0 : Nat) (x1 : Int) (x2 : Int) (hyp : OB h0 10 a0 ∧ rng x2 ∧ rng (h0.2.1 a0 2) ∧ (h0.2.1 a0 2 ≤ x2 → (P x1 h0)) ∧ (x2 < h0.2.1 a0 2 → (EXi mX10_partedMany 14 [some (vr a0), some (vi x1), some (vi x2), some (vi 0)] [] h0 P))) : EXi mX10_partedMany 4 [some (vr a0), some (vi x1), some (vi x2), none] [] h0 P := by
  refine ex_iload_n 5 dX10_partedMany_4 rfl rfl ?_
  refine ex_aload_n 6 dX10_partedMany_5 rfl rfl ?_
  obtain ⟨o1, hyp⟩ := hyp
  refine q_getI 10 2 9 dX10_partedMany_6 rfl fiX10_118 (Or.inl rfl) o1 ?_
  obtain ⟨o2, hyp⟩ := hyp
  obtain ⟨o3, hyp⟩ := hyp
  obtain ⟨ht, hf⟩ := hyp
  refine ex_icmp_ge 48 12 dX10_partedMany_9 (by decide) rfl o2 o3 (fun c4 => ?_) (fun c4 => ?_)
  · have hyp := ht c4
    clear ht hf
    refine ex_iload_n 49 dX10_partedMany_48 rfl rfl ?_
    exact ex_iret dX10_partedMany_49 (Or.inl rfl) ⟨_, rfl, hyp⟩
  · have hyp := hf c4
    clear ht hf
    refine ex_iconst 13 dX10_partedMany_12 rfl ?_
    refine q_istore_n [some (vr a0), some (vi x1), some (vi x2), some (vi 0)] 14 dX10_partedMany_13 rfl (Nat.le_of_ble_eq_true rfl) rfl rfl ?_
    exact hyp
set_option maxRecDepth 4000 in
theorem tX10_partedMany_14 {P : Int → PH → Prop} (h0 : PH) (a0 : Nat) (x1 : Int) (x2 : Int) (x3 : Int) (hyp : rng x3 ∧ rng x2 ∧ (x2 ≤ x3 → (EXi mX10_partedMany 4 [some (vr a0), some (vi x1), some (vi (x2 + 1)), none] [] h0 P)) ∧ (x3 < x2 → (OB h0 10 a0 ∧ METi mX10_isParted [vr a0, vi x2, vi x3] h0 (fun y6 h4 => h4.1 = h0.1 → (rng y6 ∧ (y6 = 0 → (EXi mX10_partedMany 14 [some (vr a0), some (vi (x1 + 0)), some (vi x2), some (vi (x3 + 1))] [] h4 P)) ∧ (¬ y6 = 0 → (EXi mX10_partedMany 14 [some (vr a0), some (vi (x1 + 1)), some (vi x2), some (vi (x3 + 1))] [] h4 P))))))) : EXi mX10_partedMany 14 [some (vr a0), some (vi x1), some (vi x2), some (vi x3)] [] h0 P := by
  refine ex_iload_n 15 dX10_partedMany_14 rfl rfl ?_
  refine ex_iload_n 16 dX10_partedMany_15 rfl rfl ?_
  obtain ⟨o1, hyp⟩ := hyp
  obtain ⟨o2, hyp⟩ := hyp
  obtain ⟨ht, hf⟩ := hyp
  refine ex_icmp_ge 42 19 dX10_partedMany_16 (by decide) rfl o1 o2 (fun c9 => ?_) (fun c9 => ?_)
  · have hyp := ht c9
    clear ht hf
    refine q_iinc [some (vr a0), some (vi x1), some (vi (x2 + 1)), some (vi x3)] 45 dX10_partedMany_42 rfl rfl (Nat.le_of_ble_eq_true rfl) rfl rfl ?_
    refine ex_goto 4 dX10_partedMany_45 (by decide) ?_
    refine ex_dropL (ls' := [some (vr a0), some (vi x1), some (vi (x2 + 1)), none]) 3 rfl ?_
    exact hyp
  · have hyp := hf c9
    clear ht hf
    refine ex_iload_n 20 dX10_partedMany_19 rfl rfl ?_
    refine ex_aload_n 21 dX10_partedMany_20 rfl rfl ?_
    refine ex_iload_n 22 dX10_partedMany_21 rfl rfl ?_
    refine ex_iload_n 23 dX10_partedMany_22 rfl rfl ?_
    obtain ⟨o3, hyp⟩ := hyp
    refine q_callVi [vi x2, vi x3] 26 dX10_partedMany_23 rfl cvX10_157 rfl rfl ⟨Nat.le_of_ble_eq_true rfl, Nat.le_of_ble_eq_true rfl⟩ (Nat.le_of_ble_eq_true rfl) o3 hyp (fun y6 h4 k5 hyp => ?_)
    obtain ⟨o7, hyp⟩ := hyp
    obtain ⟨ht, hf⟩ := hyp
    refine ex_if_eq 33 29 dX10_partedMany_26 (by decide) rfl o7 (fun c8 => ?_) (fun c8 => ?_)
    · have hyp := ht c8
      clear ht hf
      refine ex_iconst 34 dX10_partedMany_33 rfl ?_
      refine ex_iadd 35 dX10_partedMany_34 rfl ?_
      refine q_istore_n [some (vr a0), some (vi (x1 + 0)), some (vi x2), some (vi x3)] 36 dX10_partedMany_35 rfl (Nat.le_of_ble_eq_true rfl) rfl rfl ?_
      refine q_iinc [some (vr a0), some (vi (x1 + 0)), some (vi x2), some (vi (x3 + 1))] 39 dX10_partedMany_36 rfl rfl (Nat.le_of_ble_eq_true rfl) rfl rfl ?_
      refine ex_goto 14 dX10_partedMany_39 (by decide) ?_
      exact hyp
    · have hyp := hf c8
      clear ht hf
      refine ex_iconst 30 dX10_partedMany_29 rfl ?_
      refine ex_goto 34 dX10_partedMany_30 (by decide) ?_
      refine ex_iadd 35 dX10_partedMany_34 rfl ?_
      refine q_istore_n [some (vr a0), some (vi (x1 + 1)), some (vi x2), some (vi x3)] 36 dX10_partedMany_35 rfl (Nat.le_of_ble_eq_true rfl) rfl rfl ?_
      refine q_iinc [some (vr a0), some (vi (x1 + 1)), some (vi x2), some (vi (x3 + 1))] 39 dX10_partedMany_36 rfl rfl (Nat.le_of_ble_eq_true rfl) rfl rfl ?_
      refine ex_goto 14 dX10_partedMany_39 (by decide) ?_
      exact hyp
set_option maxRecDepth 4000 in
theorem tX10_howMany {P : Int → PH → Prop} (h0 : PH) (a0 : Nat) (x1 : Int) (hyp : rng x1 ∧ (x1 < 0 ∨ 7 < x1 → (P (-102) h0)) ∧ (x1 = 0 → (OB h0 10 a0 ∧ P (h0.2.1 a0 2) h0)) ∧ (x1 = 1 → (OB h0 10 a0 ∧ METi mX10_ofKind [vr a0, vi (x1 - 1)] h0 (fun y6 h4 => h4.1 = h0.1 → (P y6 h4)))) ∧ (x1 = 2 → (OB h0 10 a0 ∧ METi mX10_ofKind [vr a0, vi (x1 - 1)] h0 (fun y10 h8 => h8.1 = h0.1 → (P y10 h8)))) ∧ (x1 = 3 → (OB h0 10 a0 ∧ METi mX10_ofKind [vr a0, vi (x1 - 1)] h0 (fun y14 h12 => h12.1 = h0.1 → (P y14 h12)))) ∧ (x1 = 4 → (OB h0 10 a0 ∧ P (h0.2.1 a0 0) h0)) ∧ (x1 = 5 → (OB h0 10 a0 ∧ P (h0.2.1 a0 10) h0)) ∧ (x1 = 6 → (OB h0 10 a0 ∧ P (h0.2.1 a0 11) h0)) ∧ (x1 = 7 → (OB h0 10 a0 ∧ METi mX10_partedMany [vr a0] h0 (fun y21 h19 => h19.1 = h0.1 → (P y21 h19))))) : METi mX10_howMany [vr a0, vi x1] h0 P := by
  refine met_of_ex (by decide +kernel) (Nat.le_of_ble_eq_true rfl) ?_
  show EX mX10_howMany 0 [some (vr a0), some (vi x1)] [] h0 (0, 0) _
  refine ex_iload_n 1 dX10_howMany_0 rfl rfl ?_
  obtain ⟨o1, hyp⟩ := hyp
  obtain ⟨hd, hv0, hv1, hv2, hv3, hv4, hv5, hv6, hv7⟩ := hyp
  rcases (show (x1 < 0 ∨ 7 < x1) ∨ x1 = 0 ∨ x1 = 1 ∨ x1 = 2 ∨ x1 = 3 ∨ x1 = 4 ∨ x1 = 5 ∨ x1 = 6 ∨ x1 = 7 by omega) with c | c | c | c | c | c | c | c | c
  · refine ex_tswOut 81 dX10_howMany_1 o1 c (by decide) ?_
    have hyp := hd c
    refine ex_bipush 83 dX10_howMany_81 rfl ⟨by decide, by decide⟩ ?_
    exact ex_iret dX10_howMany_83 (Or.inl rfl) ⟨_, rfl, hyp⟩
  · refine ex_tswIn 0 48 dX10_howMany_1 c ⟨by decide, by decide⟩ (by decide) (by decide) rfl (by decide) ?_
    have hyp := hv0 c
    refine ex_aload_n 49 dX10_howMany_48 rfl rfl ?_
    obtain ⟨o2, hyp⟩ := hyp
    refine q_getI 10 2 52 dX10_howMany_49 rfl fiX10_118 (Or.inl rfl) o2 ?_
    exact ex_iret dX10_howMany_52 (Or.inl rfl) ⟨_, rfl, hyp⟩
  · refine ex_tswIn 1 53 dX10_howMany_1 c ⟨by decide, by decide⟩ (by decide) (by decide) rfl (by decide) ?_
    have hyp := hv1 c
    refine ex_aload_n 54 dX10_howMany_53 rfl rfl ?_
    refine ex_iload_n 55 dX10_howMany_54 rfl rfl ?_
    refine ex_iconst 56 dX10_howMany_55 rfl ?_
    refine ex_isub 57 dX10_howMany_56 rfl ?_
    obtain ⟨o3, hyp⟩ := hyp
    refine q_callVi [vi (x1 - 1)] 60 dX10_howMany_57 rfl cvX10_121 rfl rfl ⟨Nat.le_of_ble_eq_true rfl, Nat.le_of_ble_eq_true rfl⟩ (Nat.le_of_ble_eq_true rfl) o3 hyp (fun y6 h4 k5 hyp => ?_)
    exact ex_iret dX10_howMany_60 (Or.inl rfl) ⟨_, rfl, hyp⟩
  · refine ex_tswIn 2 53 dX10_howMany_1 c ⟨by decide, by decide⟩ (by decide) (by decide) rfl (by decide) ?_
    have hyp := hv2 c
    refine ex_aload_n 54 dX10_howMany_53 rfl rfl ?_
    refine ex_iload_n 55 dX10_howMany_54 rfl rfl ?_
    refine ex_iconst 56 dX10_howMany_55 rfl ?_
    refine ex_isub 57 dX10_howMany_56 rfl ?_
    obtain ⟨o7, hyp⟩ := hyp
    refine q_callVi [vi (x1 - 1)] 60 dX10_howMany_57 rfl cvX10_121 rfl rfl ⟨Nat.le_of_ble_eq_true rfl, Nat.le_of_ble_eq_true rfl⟩ (Nat.le_of_ble_eq_true rfl) o7 hyp (fun y10 h8 k9 hyp => ?_)
    exact ex_iret dX10_howMany_60 (Or.inl rfl) ⟨_, rfl, hyp⟩
  · refine ex_tswIn 3 53 dX10_howMany_1 c ⟨by decide, by decide⟩ (by decide) (by decide) rfl (by decide) ?_
    have hyp := hv3 c
    refine ex_aload_n 54 dX10_howMany_53 rfl rfl ?_
    refine ex_iload_n 55 dX10_howMany_54 rfl rfl ?_
    refine ex_iconst 56 dX10_howMany_55 rfl ?_
    refine ex_isub 57 dX10_howMany_56 rfl ?_
    obtain ⟨o11, hyp⟩ := hyp
    refine q_callVi [vi (x1 - 1)] 60 dX10_howMany_57 rfl cvX10_121 rfl rfl ⟨Nat.le_of_ble_eq_true rfl, Nat.le_of_ble_eq_true rfl⟩ (Nat.le_of_ble_eq_true rfl) o11 hyp (fun y14 h12 k13 hyp => ?_)
    exact ex_iret dX10_howMany_60 (Or.inl rfl) ⟨_, rfl, hyp⟩
  · refine ex_tswIn 4 61 dX10_howMany_1 c ⟨by decide, by decide⟩ (by decide) (by decide) rfl (by decide) ?_
    have hyp := hv4 c
    refine ex_aload_n 62 dX10_howMany_61 rfl rfl ?_
    obtain ⟨o15, hyp⟩ := hyp
    refine q_getI 10 0 65 dX10_howMany_62 rfl fiX10_80 (Or.inl rfl) o15 ?_
    exact ex_iret dX10_howMany_65 (Or.inl rfl) ⟨_, rfl, hyp⟩
  · refine ex_tswIn 5 66 dX10_howMany_1 c ⟨by decide, by decide⟩ (by decide) (by decide) rfl (by decide) ?_
    have hyp := hv5 c
    refine ex_aload_n 67 dX10_howMany_66 rfl rfl ?_
    obtain ⟨o16, hyp⟩ := hyp
    refine q_getI 10 10 70 dX10_howMany_67 rfl fiX10_132 (Or.inl rfl) o16 ?_
    exact ex_iret dX10_howMany_70 (Or.inl rfl) ⟨_, rfl, hyp⟩
  · refine ex_tswIn 6 71 dX10_howMany_1 c ⟨by decide, by decide⟩ (by decide) (by decide) rfl (by decide) ?_
    have hyp := hv6 c
    refine ex_aload_n 72 dX10_howMany_71 rfl rfl ?_
    obtain ⟨o17, hyp⟩ := hyp
    refine q_getI 10 11 75 dX10_howMany_72 rfl fiX10_288 (Or.inl rfl) o17 ?_
    exact ex_iret dX10_howMany_75 (Or.inl rfl) ⟨_, rfl, hyp⟩
  · refine ex_tswIn 7 76 dX10_howMany_1 c ⟨by decide, by decide⟩ (by decide) (by decide) rfl (by decide) ?_
    have hyp := hv7 c
    refine ex_aload_n 77 dX10_howMany_76 rfl rfl ?_
    obtain ⟨o18, hyp⟩ := hyp
    refine q_callVi [] 80 dX10_howMany_77 rfl cvX10_294 rfl rfl ⟨Nat.le_of_ble_eq_true rfl, Nat.le_of_ble_eq_true rfl⟩ (Nat.le_of_ble_eq_true rfl) o18 hyp (fun y21 h19 k20 hyp => ?_)
    exact ex_iret dX10_howMany_80 (Or.inl rfl) ⟨_, rfl, hyp⟩
set_option maxRecDepth 4000 in
theorem tX10_count {P : Int → PH → Prop} (h0 : PH) (a0 : Nat) (x1 : Int) (hyp : OB h0 10 a0 ∧ METi mX10_howMany [vr a0, vi x1] h0 (fun y4 h2 => h2.1 = h0.1 → (P y4 h2))) : METi mX10_count [vr a0, vi x1] h0 P := by
  refine met_of_ex (by decide +kernel) (Nat.le_of_ble_eq_true rfl) ?_
  show EX mX10_count 0 [some (vr a0), some (vi x1)] [] h0 (0, 0) _
  refine ex_aload_n 1 dX10_count_0 rfl rfl ?_
  refine ex_iload_n 2 dX10_count_1 rfl rfl ?_
  obtain ⟨o1, hyp⟩ := hyp
  refine q_callVi [vi x1] 5 dX10_count_2 rfl cvX10_297 rfl rfl ⟨Nat.le_of_ble_eq_true rfl, Nat.le_of_ble_eq_true rfl⟩ (Nat.le_of_ble_eq_true rfl) o1 hyp (fun y4 h2 k3 hyp => ?_)
  exact ex_iret dX10_count_5 (Or.inl rfl) ⟨_, rfl, hyp⟩
set_option maxRecDepth 4000 in
theorem tX10_mix {P : PH → Prop} (h0 : PH) (a0 : Nat) (x1 : Int) (hyp : OB h0 10 a0 ∧ ∀ h2 : PH, h2 = px_upI h0 a0 33 ((31 * (h0.2.1 a0 33)) + x1) → (P h2)) : METv mX10_mix [vr a0, vl x1] h0 (0, 0) P := by
  refine met_of_ex (by decide +kernel) (Nat.le_of_ble_eq_true rfl) ?_
  show EX mX10_mix 0 [some (vr a0), some (vl x1), none] [] h0 (0, 0) _
  refine ex_aload_n 1 dX10_mix_0 rfl rfl ?_
  refine ex_ldc2 (n := 31) 4 dX10_mix_1 rfl (wt6 38 rfl rfl) ?_
  refine ex_aload_n 5 dX10_mix_4 rfl rfl ?_
  obtain ⟨o1, hyp⟩ := hyp
  refine q_getL 10 33 8 dX10_mix_5 rfl fiX10_302 rfl o1 ?_
  refine ex_lmul 9 dX10_mix_8 rfl ?_
  refine ex_lload_n 10 dX10_mix_9 rfl rfl ?_
  refine ex_ladd 11 dX10_mix_10 rfl ?_
  refine q_putL 10 33 14 dX10_mix_11 rfl fiX10_302 ff10_33 rfl o1 (fun h2 e3 => ?_)
  have hyp := hyp h2 e3
  exact ex_vret dX10_mix_14 rfl ⟨rfl, hyp⟩
set_option maxRecDepth 4000 in
theorem tX10_mixEntries {P : PH → Prop} (h0 : PH) (a0 : Nat) (hyp : OB h0 10 a0 ∧ METv mX10_layLives [vr a0] h0 (0, 0) (fun h2 => h2.1 = h0.1 → (EXv mX10_mixEntries 6 [some (vr a0), some (vi 0), none, none] [] h2 (0, 0) P))) : METv mX10_mixEntries [vr a0] h0 (0, 0) P := by
  refine met_of_ex (by decide +kernel) (Nat.le_of_ble_eq_true rfl) ?_
  show EX mX10_mixEntries 0 [some (vr a0), none, none, none] [] h0 (0, 0) _
  refine ex_aload_n 1 dX10_mixEntries_0 rfl rfl ?_
  obtain ⟨o1, hyp⟩ := hyp
  refine q_callVv [] 4 dX10_mixEntries_1 rfl cvX10_250 rfl rfl ⟨Nat.le_of_ble_eq_true rfl, Nat.le_of_ble_eq_true rfl⟩ (Nat.le_of_ble_eq_true rfl) o1 hyp (fun h2 k3 hyp => ?_)
  refine ex_iconst 5 dX10_mixEntries_4 rfl ?_
  refine q_istore_n [some (vr a0), some (vi 0), none, none] 6 dX10_mixEntries_5 rfl (Nat.le_of_ble_eq_true rfl) rfl rfl ?_
  exact hyp
set_option maxRecDepth 4000 in
theorem tX10_mixEntries_6 {P : PH → Prop} (h0 : PH) (a0 : Nat) (x1 : Int) (hyp : OB h0 10 a0 ∧ rng x1 ∧ rng (h0.2.1 a0 2) ∧ (h0.2.1 a0 2 ≤ x1 → (EXv mX10_mixEntries 101 [some (vr a0), some (vi 0), none, none] [] h0 (0, 0) P)) ∧ (x1 < h0.2.1 a0 2 → (EXv mX10_mixEntries 16 [some (vr a0), some (vi x1), some (vi 0), none] [] h0 (0, 0) P))) : EXv mX10_mixEntries 6 [some (vr a0), some (vi x1), none, none] [] h0 (0, 0) P := by
  refine ex_iload_n 7 dX10_mixEntries_6 rfl rfl ?_
  refine ex_aload_n 8 dX10_mixEntries_7 rfl rfl ?_
  obtain ⟨o1, hyp⟩ := hyp
  refine q_getI 10 2 11 dX10_mixEntries_8 rfl fiX10_118 (Or.inl rfl) o1 ?_
  obtain ⟨o2, hyp⟩ := hyp
  obtain ⟨o3, hyp⟩ := hyp
  obtain ⟨ht, hf⟩ := hyp
  refine ex_icmp_ge 99 14 dX10_mixEntries_11 (by decide) rfl o2 o3 (fun c4 => ?_) (fun c4 => ?_)
  · have hyp := ht c4
    clear ht hf
    refine ex_iconst 100 dX10_mixEntries_99 rfl ?_
    refine q_istore_n [some (vr a0), some (vi 0), none, none] 101 dX10_mixEntries_100 rfl (Nat.le_of_ble_eq_true rfl) rfl rfl ?_
    exact hyp
  · have hyp := hf c4
    clear ht hf
    refine ex_iconst 15 dX10_mixEntries_14 rfl ?_
    refine q_istore_n [some (vr a0), some (vi x1), some (vi 0), none] 16 dX10_mixEntries_15 rfl (Nat.le_of_ble_eq_true rfl) rfl rfl ?_
    exact hyp
set_option maxRecDepth 4000 in
theorem tX10_mixEntries_16 {P : PH → Prop} (h0 : PH) (a0 : Nat) (x1 : Int) (x2 : Int) (hyp : rng x2 ∧ (8 ≤ x2 → (EXv mX10_mixEntries 41 [some (vr a0), some (vi x1), some (vi 0), none] [] h0 (0, 0) P)) ∧ (x2 < 8 → (OB h0 10 a0 ∧ METi mX10_entryNow [vr a0, vi x1, vi x2] h0 (fun y5 h3 => h3.1 = h0.1 → (rng y5 ∧ METv mX10_mix [vr a0, vl y5] h3 (0, 0) (fun h8 => h8.1 = h3.1 → (EXv mX10_mixEntries 16 [some (vr a0), some (vi x1), some (vi (x2 + 1)), none] [] h8 (0, 0) P))))))) : EXv mX10_mixEntries 16 [some (vr a0), some (vi x1), some (vi x2), none] [] h0 (0, 0) P := by
  refine ex_iload_n 17 dX10_mixEntries_16 rfl rfl ?_
  refine ex_bipush 19 dX10_mixEntries_17 rfl ⟨by decide, by decide⟩ ?_
  obtain ⟨o1, hyp⟩ := hyp
  obtain ⟨ht, hf⟩ := hyp
  refine ex_icmp_ge 39 22 dX10_mixEntries_19 (by decide) rfl o1 ⟨by decide, by decide⟩ (fun c10 => ?_) (fun c10 => ?_)
  · have hyp := ht c10
    clear ht hf
    refine ex_iconst 40 dX10_mixEntries_39 rfl ?_
    refine q_istore_n [some (vr a0), some (vi x1), some (vi 0), none] 41 dX10_mixEntries_40 rfl (Nat.le_of_ble_eq_true rfl) rfl rfl ?_
    exact hyp
  · have hyp := hf c10
    clear ht hf
    refine ex_aload_n 23 dX10_mixEntries_22 rfl rfl ?_
    refine ex_aload_n 24 dX10_mixEntries_23 rfl rfl ?_
    refine ex_iload_n 25 dX10_mixEntries_24 rfl rfl ?_
    refine ex_iload_n 26 dX10_mixEntries_25 rfl rfl ?_
    obtain ⟨o2, hyp⟩ := hyp
    refine q_callVi [vi x1, vi x2] 29 dX10_mixEntries_26 rfl cvX10_279 rfl rfl ⟨Nat.le_of_ble_eq_true rfl, Nat.le_of_ble_eq_true rfl⟩ (Nat.le_of_ble_eq_true rfl) o2 hyp (fun y5 h3 k4 hyp => ?_)
    obtain ⟨o6, hyp⟩ := hyp
    refine ex_i2l 30 dX10_mixEntries_29 rfl o6 ?_
    have f7 := OB.of k4 o2
    refine q_callVv [vl y5] 33 dX10_mixEntries_30 rfl cvX10_306 rfl rfl ⟨Nat.le_of_ble_eq_true rfl, Nat.le_of_ble_eq_true rfl⟩ (Nat.le_of_ble_eq_true rfl) f7 hyp (fun h8 k9 hyp => ?_)
    refine q_iinc [some (vr a0), some (vi x1), some (vi (x2 + 1)), none] 36 dX10_mixEntries_33 rfl rfl (Nat.le_of_ble_eq_true rfl) rfl rfl ?_
    refine ex_goto 16 dX10_mixEntries_36 (by decide) ?_
    exact hyp
set_option maxRecDepth 4000 in
theorem tX10_mixEntries_41 {P : PH → Prop} (h0 : PH) (a0 : Nat) (x1 : Int) (x2 : Int) (hyp : OB h0 10 a0 ∧ ∃ r2 : Nat, h0.2.2 a0 6 = some r2 ∧ AI h0 20 r2 x1 ∧ rng x2 ∧ rng (h0.2.1 r2 (x1).toNat) ∧ (h0.2.1 r2 (x1).toNat ≤ x2 → (METi mX10_fitsNow [vr a0, vi x1] h0 (fun y9 h7 => h7.1 = h0.1 → (rng y9 ∧ METv mX10_mix [vr a0, vl y9] h7 (0, 0) (fun h12 => h12.1 = h7.1 → (METi mX10_nearestNow [vr a0, vi x1] h12 (fun y17 h15 => h15.1 = h12.1 → (rng y17 ∧ METv mX10_mix [vr a0, vl y17] h15 (0, 0) (fun h20 => h20.1 = h15.1 → (EXv mX10_mixEntries 6 [some (vr a0), some (vi (x1 + 1)), none, none] [] h20 (0, 0) P)))))))))) ∧ (x2 < h0.2.1 r2 (x1).toNat → (∃ r22 : Nat, h0.2.2 a0 7 = some r22 ∧ AI h0 20 r22 ((8 * x1) + x2) ∧ rng (h0.2.1 r22 ((8 * x1) + x2).toNat) ∧ METv mX10_mix [vr a0, vl (h0.2.1 r22 ((8 * x1) + x2).toNat)] h0 (0, 0) (fun h26 => h26.1 = h0.1 → (EXv mX10_mixEntries 41 [some (vr a0), some (vi x1), some (vi (x2 + 1)), none] [] h26 (0, 0) P))))) : EXv mX10_mixEntries 41 [some (vr a0), some (vi x1), some (vi x2), none] [] h0 (0, 0) P := by
  refine ex_iload_n 42 dX10_mixEntries_41 rfl rfl ?_
  refine ex_aload_n 43 dX10_mixEntries_42 rfl rfl ?_
  obtain ⟨o1, hyp⟩ := hyp
  obtain ⟨r2, f3, hyp⟩ := hyp
  refine q_getR 10 6 46 dX10_mixEntries_43 rfl fiX10_22 rfl o1 f3 ?_
  refine ex_iload_n 47 dX10_mixEntries_46 rfl rfl ?_
  obtain ⟨o4, hyp⟩ := hyp
  refine ex_iald 48 dX10_mixEntries_47 rfl o4 ?_
  obtain ⟨o5, hyp⟩ := hyp
  obtain ⟨o6, hyp⟩ := hyp
  obtain ⟨ht, hf⟩ := hyp
  refine ex_icmp_ge 73 51 dX10_mixEntries_48 (by decide) rfl o5 o6 (fun c28 => ?_) (fun c28 => ?_)
  · have hyp := ht c28
    clear ht hf
    refine ex_aload_n 74 dX10_mixEntries_73 rfl rfl ?_
    refine ex_aload_n 75 dX10_mixEntries_74 rfl rfl ?_
    refine ex_iload_n 76 dX10_mixEntries_75 rfl rfl ?_
    refine q_callVi [vi x1] 79 dX10_mixEntries_76 rfl cvX10_185 rfl rfl ⟨Nat.le_of_ble_eq_true rfl, Nat.le_of_ble_eq_true rfl⟩ (Nat.le_of_ble_eq_true rfl) o1 hyp (fun y9 h7 k8 hyp => ?_)
    obtain ⟨o10, hyp⟩ := hyp
    refine ex_i2l 80 dX10_mixEntries_79 rfl o10 ?_
    have f11 := OB.of k8 o1
    refine q_callVv [vl y9] 83 dX10_mixEntries_80 rfl cvX10_306 rfl rfl ⟨Nat.le_of_ble_eq_true rfl, Nat.le_of_ble_eq_true rfl⟩ (Nat.le_of_ble_eq_true rfl) f11 hyp (fun h12 k13 hyp => ?_)
    refine ex_aload_n 84 dX10_mixEntries_83 rfl rfl ?_
    refine ex_aload_n 85 dX10_mixEntries_84 rfl rfl ?_
    refine ex_iload_n 86 dX10_mixEntries_85 rfl rfl ?_
    have f14 := OB.of k13 f11
    refine q_callVi [vi x1] 89 dX10_mixEntries_86 rfl cvX10_188 rfl rfl ⟨Nat.le_of_ble_eq_true rfl, Nat.le_of_ble_eq_true rfl⟩ (Nat.le_of_ble_eq_true rfl) f14 hyp (fun y17 h15 k16 hyp => ?_)
    obtain ⟨o18, hyp⟩ := hyp
    refine ex_i2l 90 dX10_mixEntries_89 rfl o18 ?_
    have f19 := OB.of k16 f14
    refine q_callVv [vl y17] 93 dX10_mixEntries_90 rfl cvX10_306 rfl rfl ⟨Nat.le_of_ble_eq_true rfl, Nat.le_of_ble_eq_true rfl⟩ (Nat.le_of_ble_eq_true rfl) f19 hyp (fun h20 k21 hyp => ?_)
    refine q_iinc [some (vr a0), some (vi (x1 + 1)), some (vi x2), none] 96 dX10_mixEntries_93 rfl rfl (Nat.le_of_ble_eq_true rfl) rfl rfl ?_
    refine ex_goto 6 dX10_mixEntries_96 (by decide) ?_
    refine ex_dropL (ls' := [some (vr a0), some (vi (x1 + 1)), none, none]) 2 rfl ?_
    exact hyp
  · have hyp := hf c28
    clear ht hf
    refine ex_aload_n 52 dX10_mixEntries_51 rfl rfl ?_
    refine ex_aload_n 53 dX10_mixEntries_52 rfl rfl ?_
    obtain ⟨r22, f23, hyp⟩ := hyp
    refine q_getR 10 7 56 dX10_mixEntries_53 rfl fiX10_25 rfl o1 f23 ?_
    refine ex_bipush 58 dX10_mixEntries_56 rfl ⟨by decide, by decide⟩ ?_
    refine ex_iload_n 59 dX10_mixEntries_58 rfl rfl ?_
    refine ex_imul 60 dX10_mixEntries_59 rfl ?_
    refine ex_iload_n 61 dX10_mixEntries_60 rfl rfl ?_
    refine ex_iadd 62 dX10_mixEntries_61 rfl ?_
    obtain ⟨o24, hyp⟩ := hyp
    refine ex_iald 63 dX10_mixEntries_62 rfl o24 ?_
    obtain ⟨o25, hyp⟩ := hyp
    refine ex_i2l 64 dX10_mixEntries_63 rfl o25 ?_
    refine q_callVv [vl (h0.2.1 r22 ((8 * x1) + x2).toNat)] 67 dX10_mixEntries_64 rfl cvX10_306 rfl rfl ⟨Nat.le_of_ble_eq_true rfl, Nat.le_of_ble_eq_true rfl⟩ (Nat.le_of_ble_eq_true rfl) o1 hyp (fun h26 k27 hyp => ?_)
    refine q_iinc [some (vr a0), some (vi x1), some (vi (x2 + 1)), none] 70 dX10_mixEntries_67 rfl rfl (Nat.le_of_ble_eq_true rfl) rfl rfl ?_
    refine ex_goto 41 dX10_mixEntries_70 (by decide) ?_
    exact hyp
set_option maxRecDepth 4000 in
theorem tX10_mixEntries_101 {P : PH → Prop} (h0 : PH) (a0 : Nat) (x1 : Int) (hyp : OB h0 10 a0 ∧ rng x1 ∧ rng (h0.2.1 a0 2) ∧ (h0.2.1 a0 2 ≤ x1 → (P h0)) ∧ (x1 < h0.2.1 a0 2 → (EXv mX10_mixEntries 113 [some (vr a0), some (vi x1), some (vi (x1 + 1)), none] [] h0 (0, 0) P))) : EXv mX10_mixEntries 101 [some (vr a0), some (vi x1), none, none] [] h0 (0, 0) P := by
  refine ex_iload_n 102 dX10_mixEntries_101 rfl rfl ?_
  refine ex_aload_n 103 dX10_mixEntries_102 rfl rfl ?_
  obtain ⟨o1, hyp⟩ := hyp
  refine q_getI 10 2 106 dX10_mixEntries_103 rfl fiX10_118 (Or.inl rfl) o1 ?_
  obtain ⟨o2, hyp⟩ := hyp
  obtain ⟨o3, hyp⟩ := hyp
  obtain ⟨ht, hf⟩ := hyp
  refine ex_icmp_ge 158 109 dX10_mixEntries_106 (by decide) rfl o2 o3 (fun c4 => ?_) (fun c4 => ?_)
  · have hyp := ht c4
    clear ht hf
    exact ex_vret dX10_mixEntries_158 rfl ⟨rfl, hyp⟩
  · have hyp := hf c4
    clear ht hf
    refine ex_iload_n 110 dX10_mixEntries_109 rfl rfl ?_
    refine ex_iconst 111 dX10_mixEntries_110 rfl ?_
    refine ex_iadd 112 dX10_mixEntries_111 rfl ?_
    refine q_istore_n [some (vr a0), some (vi x1), some (vi (x1 + 1)), none] 113 dX10_mixEntries_112 rfl (Nat.le_of_ble_eq_true rfl) rfl rfl ?_
    exact hyp
set_option maxRecDepth 4000 in
theorem tX10_mixEntries_113 {P : PH → Prop} (h0 : PH) (a0 : Nat) (x1 : Int) (x2 : Int) (hyp : OB h0 10 a0 ∧ rng x2 ∧ rng (h0.2.1 a0 2) ∧ (h0.2.1 a0 2 ≤ x2 → (EXv mX10_mixEntries 101 [some (vr a0), some (vi (x1 + 1)), none, none] [] h0 (0, 0) P)) ∧ (x2 < h0.2.1 a0 2 → (EXv mX10_mixEntries 123 [some (vr a0), some (vi x1), some (vi x2), some (vi 0)] [] h0 (0, 0) P))) : EXv mX10_mixEntries 113 [some (vr a0), some (vi x1), some (vi x2), none] [] h0 (0, 0) P := by
  refine ex_iload_n 114 dX10_mixEntries_113 rfl rfl ?_
  refine ex_aload_n 115 dX10_mixEntries_114 rfl rfl ?_
  obtain ⟨o1, hyp⟩ := hyp
  refine q_getI 10 2 118 dX10_mixEntries_115 rfl fiX10_118 (Or.inl rfl) o1 ?_
  obtain ⟨o2, hyp⟩ := hyp
  obtain ⟨o3, hyp⟩ := hyp
  obtain ⟨ht, hf⟩ := hyp
  refine ex_icmp_ge 152 121 dX10_mixEntries_118 (by decide) rfl o2 o3 (fun c4 => ?_) (fun c4 => ?_)
  · have hyp := ht c4
    clear ht hf
    refine q_iinc [some (vr a0), some (vi (x1 + 1)), some (vi x2), none] 155 dX10_mixEntries_152 rfl rfl (Nat.le_of_ble_eq_true rfl) rfl rfl ?_
    refine ex_goto 101 dX10_mixEntries_155 (by decide) ?_
    refine ex_dropL (ls' := [some (vr a0), some (vi (x1 + 1)), none, none]) 2 rfl ?_
    exact hyp
  · have hyp := hf c4
    clear ht hf
    refine ex_iconst 122 dX10_mixEntries_121 rfl ?_
    refine q_istore_n [some (vr a0), some (vi x1), some (vi x2), some (vi 0)] 123 dX10_mixEntries_122 rfl (Nat.le_of_ble_eq_true rfl) rfl rfl ?_
    exact hyp
set_option maxRecDepth 4000 in
theorem tX10_mixEntries_123 {P : PH → Prop} (h0 : PH) (a0 : Nat) (x1 : Int) (x2 : Int) (x3 : Int) (hyp : rng x3 ∧ (5 ≤ x3 → (EXv mX10_mixEntries 113 [some (vr a0), some (vi x1), some (vi (x2 + 1)), none] [] h0 (0, 0) P)) ∧ (x3 < 5 → (OB h0 10 a0 ∧ METi mX10_twoNow [vr a0, vi x1, vi x2, vi x3] h0 (fun y5 h3 => h3.1 = h0.1 → (rng y5 ∧ METv mX10_mix [vr a0, vl y5] h3 (0, 0) (fun h8 => h8.1 = h3.1 → (EXv mX10_mixEntries 123 [some (vr a0), some (vi x1), some (vi x2), some (vi (x3 + 1))] [] h8 (0, 0) P))))))) : EXv mX10_mixEntries 123 [some (vr a0), some (vi x1), some (vi x2), some (vi x3)] [] h0 (0, 0) P := by
  refine ex_iload_n 124 dX10_mixEntries_123 rfl rfl ?_
  refine ex_iconst 125 dX10_mixEntries_124 rfl ?_
  obtain ⟨o1, hyp⟩ := hyp
  obtain ⟨ht, hf⟩ := hyp
  refine ex_icmp_ge 146 128 dX10_mixEntries_125 (by decide) rfl o1 ⟨by decide, by decide⟩ (fun c10 => ?_) (fun c10 => ?_)
  · have hyp := ht c10
    clear ht hf
    refine q_iinc [some (vr a0), some (vi x1), some (vi (x2 + 1)), some (vi x3)] 149 dX10_mixEntries_146 rfl rfl (Nat.le_of_ble_eq_true rfl) rfl rfl ?_
    refine ex_goto 113 dX10_mixEntries_149 (by decide) ?_
    refine ex_dropL (ls' := [some (vr a0), some (vi x1), some (vi (x2 + 1)), none]) 3 rfl ?_
    exact hyp
  · have hyp := hf c10
    clear ht hf
    refine ex_aload_n 129 dX10_mixEntries_128 rfl rfl ?_
    refine ex_aload_n 130 dX10_mixEntries_129 rfl rfl ?_
    refine ex_iload_n 131 dX10_mixEntries_130 rfl rfl ?_
    refine ex_iload_n 132 dX10_mixEntries_131 rfl rfl ?_
    refine ex_iload_n 133 dX10_mixEntries_132 rfl rfl ?_
    obtain ⟨o2, hyp⟩ := hyp
    refine q_callVi [vi x1, vi x2, vi x3] 136 dX10_mixEntries_133 rfl cvX10_181 rfl rfl ⟨Nat.le_of_ble_eq_true rfl, Nat.le_of_ble_eq_true rfl⟩ (Nat.le_of_ble_eq_true rfl) o2 hyp (fun y5 h3 k4 hyp => ?_)
    obtain ⟨o6, hyp⟩ := hyp
    refine ex_i2l 137 dX10_mixEntries_136 rfl o6 ?_
    have f7 := OB.of k4 o2
    refine q_callVv [vl y5] 140 dX10_mixEntries_137 rfl cvX10_306 rfl rfl ⟨Nat.le_of_ble_eq_true rfl, Nat.le_of_ble_eq_true rfl⟩ (Nat.le_of_ble_eq_true rfl) f7 hyp (fun h8 k9 hyp => ?_)
    refine q_iinc [some (vr a0), some (vi x1), some (vi x2), some (vi (x3 + 1))] 143 dX10_mixEntries_140 rfl rfl (Nat.le_of_ble_eq_true rfl) rfl rfl ?_
    refine ex_goto 123 dX10_mixEntries_143 (by decide) ?_
    exact hyp
set_option maxRecDepth 4000 in
theorem tX10_mixLives {P : PH → Prop} (h0 : PH) (a0 : Nat) (hyp : EXv mX10_mixLives 2 [some (vr a0), some (vi 0), none] [] h0 (0, 0) P) : METv mX10_mixLives [vr a0] h0 (0, 0) P := by
  refine met_of_ex (by decide +kernel) (Nat.le_of_ble_eq_true rfl) ?_
  show EX mX10_mixLives 0 [some (vr a0), none, none] [] h0 (0, 0) _
  refine ex_iconst 1 dX10_mixLives_0 rfl ?_
  refine q_istore_n [some (vr a0), some (vi 0), none] 2 dX10_mixLives_1 rfl (Nat.le_of_ble_eq_true rfl) rfl rfl ?_
  exact hyp
set_option maxRecDepth 4000 in
theorem tX10_mixLives_2 {P : PH → Prop} (h0 : PH) (a0 : Nat) (x1 : Int) (hyp : rng x1 ∧ (6 ≤ x1 → (EXv mX10_mixLives 26 [some (vr a0), some (vi 0), none] [] h0 (0, 0) P)) ∧ (x1 < 6 → (OB h0 10 a0 ∧ METi mX10_livesNow [vr a0, vi x1] h0 (fun y5 h3 => h3.1 = h0.1 → (rng y5 ∧ METv mX10_mix [vr a0, vl y5] h3 (0, 0) (fun h8 => h8.1 = h3.1 → (EXv mX10_mixLives 2 [some (vr a0), some (vi (x1 + 1)), none] [] h8 (0, 0) P))))))) : EXv mX10_mixLives 2 [some (vr a0), some (vi x1), none] [] h0 (0, 0) P := by
  refine ex_iload_n 3 dX10_mixLives_2 rfl rfl ?_
  refine ex_bipush 5 dX10_mixLives_3 rfl ⟨by decide, by decide⟩ ?_
  obtain ⟨o1, hyp⟩ := hyp
  obtain ⟨ht, hf⟩ := hyp
  refine ex_icmp_ge 24 8 dX10_mixLives_5 (by decide) rfl o1 ⟨by decide, by decide⟩ (fun c10 => ?_) (fun c10 => ?_)
  · have hyp := ht c10
    clear ht hf
    refine ex_iconst 25 dX10_mixLives_24 rfl ?_
    refine q_istore_n [some (vr a0), some (vi 0), none] 26 dX10_mixLives_25 rfl (Nat.le_of_ble_eq_true rfl) rfl rfl ?_
    exact hyp
  · have hyp := hf c10
    clear ht hf
    refine ex_aload_n 9 dX10_mixLives_8 rfl rfl ?_
    refine ex_aload_n 10 dX10_mixLives_9 rfl rfl ?_
    refine ex_iload_n 11 dX10_mixLives_10 rfl rfl ?_
    obtain ⟨o2, hyp⟩ := hyp
    refine q_callVi [vi x1] 14 dX10_mixLives_11 rfl cvX10_262 rfl rfl ⟨Nat.le_of_ble_eq_true rfl, Nat.le_of_ble_eq_true rfl⟩ (Nat.le_of_ble_eq_true rfl) o2 hyp (fun y5 h3 k4 hyp => ?_)
    obtain ⟨o6, hyp⟩ := hyp
    refine ex_i2l 15 dX10_mixLives_14 rfl o6 ?_
    have f7 := OB.of k4 o2
    refine q_callVv [vl y5] 18 dX10_mixLives_15 rfl cvX10_306 rfl rfl ⟨Nat.le_of_ble_eq_true rfl, Nat.le_of_ble_eq_true rfl⟩ (Nat.le_of_ble_eq_true rfl) f7 hyp (fun h8 k9 hyp => ?_)
    refine q_iinc [some (vr a0), some (vi (x1 + 1)), none] 21 dX10_mixLives_18 rfl rfl (Nat.le_of_ble_eq_true rfl) rfl rfl ?_
    refine ex_goto 2 dX10_mixLives_21 (by decide) ?_
    exact hyp
set_option maxRecDepth 4000 in
theorem tX10_mixLives_26 {P : PH → Prop} (h0 : PH) (a0 : Nat) (x1 : Int) (hyp : OB h0 10 a0 ∧ rng x1 ∧ rng (h0.2.1 a0 28) ∧ (h0.2.1 a0 28 ≤ x1 → (P h0)) ∧ (x1 < h0.2.1 a0 28 → (EXv mX10_mixLives 36 [some (vr a0), some (vi x1), some (vi 0)] [] h0 (0, 0) P))) : EXv mX10_mixLives 26 [some (vr a0), some (vi x1), none] [] h0 (0, 0) P := by
  refine ex_iload_n 27 dX10_mixLives_26 rfl rfl ?_
  refine ex_aload_n 28 dX10_mixLives_27 rfl rfl ?_
  obtain ⟨o1, hyp⟩ := hyp
  refine q_getI 10 28 31 dX10_mixLives_28 rfl fiX10_212 (Or.inl rfl) o1 ?_
  obtain ⟨o2, hyp⟩ := hyp
  obtain ⟨o3, hyp⟩ := hyp
  obtain ⟨ht, hf⟩ := hyp
  refine ex_icmp_ge 94 34 dX10_mixLives_31 (by decide) rfl o2 o3 (fun c4 => ?_) (fun c4 => ?_)
  · have hyp := ht c4
    clear ht hf
    exact ex_vret dX10_mixLives_94 rfl ⟨rfl, hyp⟩
  · have hyp := hf c4
    clear ht hf
    refine ex_iconst 35 dX10_mixLives_34 rfl ?_
    refine q_istore_n [some (vr a0), some (vi x1), some (vi 0)] 36 dX10_mixLives_35 rfl (Nat.le_of_ble_eq_true rfl) rfl rfl ?_
    exact hyp
set_option maxRecDepth 4000 in
theorem tX10_mixLives_36 {P : PH → Prop} (h0 : PH) (a0 : Nat) (x1 : Int) (x2 : Int) (hyp : rng x2 ∧ (8 ≤ x2 → (EXv mX10_mixLives 61 [some (vr a0), some (vi x1), some (vi 0)] [] h0 (0, 0) P)) ∧ (x2 < 8 → (OB h0 10 a0 ∧ METi mX10_lifeNow [vr a0, vi x1, vi x2] h0 (fun y5 h3 => h3.1 = h0.1 → (rng y5 ∧ METv mX10_mix [vr a0, vl y5] h3 (0, 0) (fun h8 => h8.1 = h3.1 → (EXv mX10_mixLives 36 [some (vr a0), some (vi x1), some (vi (x2 + 1))] [] h8 (0, 0) P))))))) : EXv mX10_mixLives 36 [some (vr a0), some (vi x1), some (vi x2)] [] h0 (0, 0) P := by
  refine ex_iload_n 37 dX10_mixLives_36 rfl rfl ?_
  refine ex_bipush 39 dX10_mixLives_37 rfl ⟨by decide, by decide⟩ ?_
  obtain ⟨o1, hyp⟩ := hyp
  obtain ⟨ht, hf⟩ := hyp
  refine ex_icmp_ge 59 42 dX10_mixLives_39 (by decide) rfl o1 ⟨by decide, by decide⟩ (fun c10 => ?_) (fun c10 => ?_)
  · have hyp := ht c10
    clear ht hf
    refine ex_iconst 60 dX10_mixLives_59 rfl ?_
    refine q_istore_n [some (vr a0), some (vi x1), some (vi 0)] 61 dX10_mixLives_60 rfl (Nat.le_of_ble_eq_true rfl) rfl rfl ?_
    exact hyp
  · have hyp := hf c10
    clear ht hf
    refine ex_aload_n 43 dX10_mixLives_42 rfl rfl ?_
    refine ex_aload_n 44 dX10_mixLives_43 rfl rfl ?_
    refine ex_iload_n 45 dX10_mixLives_44 rfl rfl ?_
    refine ex_iload_n 46 dX10_mixLives_45 rfl rfl ?_
    obtain ⟨o2, hyp⟩ := hyp
    refine q_callVi [vi x1, vi x2] 49 dX10_mixLives_46 rfl cvX10_273 rfl rfl ⟨Nat.le_of_ble_eq_true rfl, Nat.le_of_ble_eq_true rfl⟩ (Nat.le_of_ble_eq_true rfl) o2 hyp (fun y5 h3 k4 hyp => ?_)
    obtain ⟨o6, hyp⟩ := hyp
    refine ex_i2l 50 dX10_mixLives_49 rfl o6 ?_
    have f7 := OB.of k4 o2
    refine q_callVv [vl y5] 53 dX10_mixLives_50 rfl cvX10_306 rfl rfl ⟨Nat.le_of_ble_eq_true rfl, Nat.le_of_ble_eq_true rfl⟩ (Nat.le_of_ble_eq_true rfl) f7 hyp (fun h8 k9 hyp => ?_)
    refine q_iinc [some (vr a0), some (vi x1), some (vi (x2 + 1))] 56 dX10_mixLives_53 rfl rfl (Nat.le_of_ble_eq_true rfl) rfl rfl ?_
    refine ex_goto 36 dX10_mixLives_56 (by decide) ?_
    exact hyp
set_option maxRecDepth 4000 in
theorem tX10_mixLives_61 {P : PH → Prop} (h0 : PH) (a0 : Nat) (x1 : Int) (x2 : Int) (hyp : OB h0 10 a0 ∧ ∃ r2 : Nat, h0.2.2 a0 31 = some r2 ∧ AI h0 20 r2 x1 ∧ rng x2 ∧ rng (h0.2.1 r2 (x1).toNat) ∧ (h0.2.1 r2 (x1).toNat ≤ x2 → (EXv mX10_mixLives 26 [some (vr a0), some (vi (x1 + 1)), none] [] h0 (0, 0) P)) ∧ (x2 < h0.2.1 r2 (x1).toNat → (METi mX10_weddingAt [vr a0, vi x1, vi x2] h0 (fun y9 h7 => h7.1 = h0.1 → (rng y9 ∧ METv mX10_mix [vr a0, vl y9] h7 (0, 0) (fun h12 => h12.1 = h7.1 → (EXv mX10_mixLives 61 [some (vr a0), some (vi x1), some (vi (x2 + 1))] [] h12 (0, 0) P))))))) : EXv mX10_mixLives 61 [some (vr a0), some (vi x1), some (vi x2)] [] h0 (0, 0) P := by
  refine ex_iload_n 62 dX10_mixLives_61 rfl rfl ?_
  refine ex_aload_n 63 dX10_mixLives_62 rfl rfl ?_
  obtain ⟨o1, hyp⟩ := hyp
  obtain ⟨r2, f3, hyp⟩ := hyp
  refine q_getR 10 31 66 dX10_mixLives_63 rfl fiX10_70 rfl o1 f3 ?_
  refine ex_iload_n 67 dX10_mixLives_66 rfl rfl ?_
  obtain ⟨o4, hyp⟩ := hyp
  refine ex_iald 68 dX10_mixLives_67 rfl o4 ?_
  obtain ⟨o5, hyp⟩ := hyp
  obtain ⟨o6, hyp⟩ := hyp
  obtain ⟨ht, hf⟩ := hyp
  refine ex_icmp_ge 88 71 dX10_mixLives_68 (by decide) rfl o5 o6 (fun c14 => ?_) (fun c14 => ?_)
  · have hyp := ht c14
    clear ht hf
    refine q_iinc [some (vr a0), some (vi (x1 + 1)), some (vi x2)] 91 dX10_mixLives_88 rfl rfl (Nat.le_of_ble_eq_true rfl) rfl rfl ?_
    refine ex_goto 26 dX10_mixLives_91 (by decide) ?_
    refine ex_dropL (ls' := [some (vr a0), some (vi (x1 + 1)), none]) 2 rfl ?_
    exact hyp
  · have hyp := hf c14
    clear ht hf
    refine ex_aload_n 72 dX10_mixLives_71 rfl rfl ?_
    refine ex_aload_n 73 dX10_mixLives_72 rfl rfl ?_
    refine ex_iload_n 74 dX10_mixLives_73 rfl rfl ?_
    refine ex_iload_n 75 dX10_mixLives_74 rfl rfl ?_
    refine q_callVi [vi x1, vi x2] 78 dX10_mixLives_75 rfl cvX10_276 rfl rfl ⟨Nat.le_of_ble_eq_true rfl, Nat.le_of_ble_eq_true rfl⟩ (Nat.le_of_ble_eq_true rfl) o1 hyp (fun y9 h7 k8 hyp => ?_)
    obtain ⟨o10, hyp⟩ := hyp
    refine ex_i2l 79 dX10_mixLives_78 rfl o10 ?_
    have f11 := OB.of k8 o1
    refine q_callVv [vl y9] 82 dX10_mixLives_79 rfl cvX10_306 rfl rfl ⟨Nat.le_of_ble_eq_true rfl, Nat.le_of_ble_eq_true rfl⟩ (Nat.le_of_ble_eq_true rfl) f11 hyp (fun h12 k13 hyp => ?_)
    refine q_iinc [some (vr a0), some (vi x1), some (vi (x2 + 1))] 85 dX10_mixLives_82 rfl rfl (Nat.le_of_ble_eq_true rfl) rfl rfl ?_
    refine ex_goto 61 dX10_mixLives_85 (by decide) ?_
    exact hyp
set_option maxRecDepth 4000 in
theorem tX10_digest {P : Int → PH → Prop} (h0 : PH) (a0 : Nat) (hyp : OB h0 10 a0 ∧ ∀ h2 : PH, h2 = px_upI h0 a0 33 1567 → (METv mX10_mixEntries [vr a0] h2 (0, 0) (fun h5 => h5.1 = h2.1 → (METv mX10_mixLives [vr a0] h5 (0, 0) (fun h8 => h8.1 = h5.1 → (EXl mX10_digest 17 [some (vr a0), some (vi 0)] [] h8 P)))))) : METl mX10_digest [vr a0] h0 P := by
  refine met_of_ex (by decide +kernel) (Nat.le_of_ble_eq_true rfl) ?_
  show EX mX10_digest 0 [some (vr a0), none] [] h0 (0, 0) _
  refine ex_aload_n 1 dX10_digest_0 rfl rfl ?_
  refine ex_ldc2 (n := 1567) 4 dX10_digest_1 rfl (wt6 29 rfl rfl) ?_
  obtain ⟨o1, hyp⟩ := hyp
  refine q_putL 10 33 7 dX10_digest_4 rfl fiX10_302 ff10_33 rfl o1 (fun h2 e3 => ?_)
  have hyp := hyp h2 e3
  refine ex_aload_n 8 dX10_digest_7 rfl rfl ?_
  have f4 := OB.of (KI e3) o1
  refine q_callVv [] 11 dX10_digest_8 rfl cvX10_312 rfl rfl ⟨Nat.le_of_ble_eq_true rfl, Nat.le_of_ble_eq_true rfl⟩ (Nat.le_of_ble_eq_true rfl) f4 hyp (fun h5 k6 hyp => ?_)
  refine ex_aload_n 12 dX10_digest_11 rfl rfl ?_
  have f7 := OB.of k6 f4
  refine q_callVv [] 15 dX10_digest_12 rfl cvX10_315 rfl rfl ⟨Nat.le_of_ble_eq_true rfl, Nat.le_of_ble_eq_true rfl⟩ (Nat.le_of_ble_eq_true rfl) f7 hyp (fun h8 k9 hyp => ?_)
  refine ex_iconst 16 dX10_digest_15 rfl ?_
  refine q_istore_n [some (vr a0), some (vi 0)] 17 dX10_digest_16 rfl (Nat.le_of_ble_eq_true rfl) rfl rfl ?_
  exact hyp
set_option maxRecDepth 4000 in
theorem tX10_digest_17 {P : Int → PH → Prop} (h0 : PH) (a0 : Nat) (x1 : Int) (hyp : OB h0 10 a0 ∧ rng x1 ∧ rng (h0.2.1 a0 0) ∧ (h0.2.1 a0 0 ≤ x1 → (EXl mX10_digest 44 [some (vr a0), some (vi 0)] [] h0 P)) ∧ (x1 < h0.2.1 a0 0 → (∃ r4 : Nat, h0.2.2 a0 1 = some r4 ∧ AI h0 20 r4 x1 ∧ rng (h0.2.1 r4 (x1).toNat) ∧ METv mX10_mix [vr a0, vl (h0.2.1 r4 (x1).toNat)] h0 (0, 0) (fun h8 => h8.1 = h0.1 → (EXl mX10_digest 17 [some (vr a0), some (vi (x1 + 1))] [] h8 P))))) : EXl mX10_digest 17 [some (vr a0), some (vi x1)] [] h0 P := by
  refine ex_iload_n 18 dX10_digest_17 rfl rfl ?_
  refine ex_aload_n 19 dX10_digest_18 rfl rfl ?_
  obtain ⟨o1, hyp⟩ := hyp
  refine q_getI 10 0 22 dX10_digest_19 rfl fiX10_80 (Or.inl rfl) o1 ?_
  obtain ⟨o2, hyp⟩ := hyp
  obtain ⟨o3, hyp⟩ := hyp
  obtain ⟨ht, hf⟩ := hyp
  refine ex_icmp_ge 42 25 dX10_digest_22 (by decide) rfl o2 o3 (fun c10 => ?_) (fun c10 => ?_)
  · have hyp := ht c10
    clear ht hf
    refine ex_iconst 43 dX10_digest_42 rfl ?_
    refine q_istore_n [some (vr a0), some (vi 0)] 44 dX10_digest_43 rfl (Nat.le_of_ble_eq_true rfl) rfl rfl ?_
    exact hyp
  · have hyp := hf c10
    clear ht hf
    refine ex_aload_n 26 dX10_digest_25 rfl rfl ?_
    refine ex_aload_n 27 dX10_digest_26 rfl rfl ?_
    obtain ⟨r4, f5, hyp⟩ := hyp
    refine q_getR 10 1 30 dX10_digest_27 rfl fiX10_7 rfl o1 f5 ?_
    refine ex_iload_n 31 dX10_digest_30 rfl rfl ?_
    obtain ⟨o6, hyp⟩ := hyp
    refine ex_iald 32 dX10_digest_31 rfl o6 ?_
    obtain ⟨o7, hyp⟩ := hyp
    refine ex_i2l 33 dX10_digest_32 rfl o7 ?_
    refine q_callVv [vl (h0.2.1 r4 (x1).toNat)] 36 dX10_digest_33 rfl cvX10_306 rfl rfl ⟨Nat.le_of_ble_eq_true rfl, Nat.le_of_ble_eq_true rfl⟩ (Nat.le_of_ble_eq_true rfl) o1 hyp (fun h8 k9 hyp => ?_)
    refine q_iinc [some (vr a0), some (vi (x1 + 1))] 39 dX10_digest_36 rfl rfl (Nat.le_of_ble_eq_true rfl) rfl rfl ?_
    refine ex_goto 17 dX10_digest_39 (by decide) ?_
    exact hyp
set_option maxRecDepth 4000 in
theorem tX10_digest_44 {P : Int → PH → Prop} (h0 : PH) (a0 : Nat) (x1 : Int) (hyp : rng x1 ∧ (8 ≤ x1 → (OB h0 10 a0 ∧ P (h0.2.1 a0 33) h0)) ∧ (x1 < 8 → (OB h0 10 a0 ∧ METi mX10_howMany [vr a0, vi x1] h0 (fun y6 h4 => h4.1 = h0.1 → (rng y6 ∧ METv mX10_mix [vr a0, vl y6] h4 (0, 0) (fun h9 => h9.1 = h4.1 → (EXl mX10_digest 44 [some (vr a0), some (vi (x1 + 1))] [] h9 P))))))) : EXl mX10_digest 44 [some (vr a0), some (vi x1)] [] h0 P := by
  refine ex_iload_n 45 dX10_digest_44 rfl rfl ?_
  refine ex_bipush 47 dX10_digest_45 rfl ⟨by decide, by decide⟩ ?_
  obtain ⟨o1, hyp⟩ := hyp
  obtain ⟨ht, hf⟩ := hyp
  refine ex_icmp_ge 66 50 dX10_digest_47 (by decide) rfl o1 ⟨by decide, by decide⟩ (fun c11 => ?_) (fun c11 => ?_)
  · have hyp := ht c11
    clear ht hf
    refine ex_aload_n 67 dX10_digest_66 rfl rfl ?_
    obtain ⟨o2, hyp⟩ := hyp
    refine q_getL 10 33 70 dX10_digest_67 rfl fiX10_302 rfl o2 ?_
    exact ex_lret dX10_digest_70 rfl ⟨_, rfl, hyp⟩
  · have hyp := hf c11
    clear ht hf
    refine ex_aload_n 51 dX10_digest_50 rfl rfl ?_
    refine ex_aload_n 52 dX10_digest_51 rfl rfl ?_
    refine ex_iload_n 53 dX10_digest_52 rfl rfl ?_
    obtain ⟨o3, hyp⟩ := hyp
    refine q_callVi [vi x1] 56 dX10_digest_53 rfl cvX10_297 rfl rfl ⟨Nat.le_of_ble_eq_true rfl, Nat.le_of_ble_eq_true rfl⟩ (Nat.le_of_ble_eq_true rfl) o3 hyp (fun y6 h4 k5 hyp => ?_)
    obtain ⟨o7, hyp⟩ := hyp
    refine ex_i2l 57 dX10_digest_56 rfl o7 ?_
    have f8 := OB.of k5 o3
    refine q_callVv [vl y6] 60 dX10_digest_57 rfl cvX10_306 rfl rfl ⟨Nat.le_of_ble_eq_true rfl, Nat.le_of_ble_eq_true rfl⟩ (Nat.le_of_ble_eq_true rfl) f8 hyp (fun h9 k10 hyp => ?_)
    refine q_iinc [some (vr a0), some (vi (x1 + 1))] 63 dX10_digest_60 rfl rfl (Nat.le_of_ble_eq_true rfl) rfl rfl ?_
    refine ex_goto 44 dX10_digest_63 (by decide) ?_
    exact hyp

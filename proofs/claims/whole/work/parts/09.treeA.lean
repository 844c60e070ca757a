set_option maxRecDepth 4000 in
theorem uX0_read {P : GS → Prop} (g0 : GS) (s0 : Nat) (hs0 : s0 < 18) (hyp : ∀ g2 : GS, g2 = gI g0 (11 + 3 * s0) 4 (g0.1 3 2) → (∀ g5 : GS, g5 = gI g2 (11 + 3 * s0) 5 (g2.1 3 5) → (∀ g8 : GS, g8 = gI g5 (11 + 3 * s0) 6 (g5.1 3 6) → (∀ g11 : GS, g11 = gI g8 (11 + 3 * s0) 7 0 → (∀ g14 : GS, g14 = gI g11 (11 + 3 * s0) 3 0 → (XXv mX0_read 36 [some (vr (11 + 3 * s0)), some (vr 1), some (vr 3), some (vi 0)] [] g14 P)))))) : MXv mX0_read [vr (11 + 3 * s0), vr 1, vr 3] g0 P := by
  refine met_of_ex (by decide +kernel) (Nat.le_of_ble_eq_true rfl) ?_
  show EX mX0_read 0 [some (vr (11 + 3 * s0)), some (vr 1), some (vr 3), none] [] (hX g0) (0, 0) _
  refine ex_aload_n 1 dX0_read_0 rfl rfl ?_
  refine ex_aload_n 2 dX0_read_1 rfl rfl ?_
  refine q_getI 7 2 5 dX0_read_2 rfl fiX0_22 (Or.inl rfl) ⟨_, rfl⟩ ?_
  refine q_putI 0 4 8 dX0_read_5 rfl fiX0_27 ff0_4 rfl (obE hs0) (fun h1 e1 => ?_)
  obtain ⟨g2, eg3⟩ : ∃ z : GS, z = gI g0 (11 + 3 * s0) 4 (g0.1 3 2) := ⟨_, rfl⟩
  have hyp := hyp g2 eg3
  obtain rfl : h1 = hX g2 := by rw [e1, eg3]; exact rfl
  clear e1
  refine ex_aload_n 9 dX0_read_8 rfl rfl ?_
  refine ex_aload_n 10 dX0_read_9 rfl rfl ?_
  refine q_getI 7 5 13 dX0_read_10 rfl fiX0_28 (Or.inl rfl) ⟨_, rfl⟩ ?_
  refine q_putI 0 5 16 dX0_read_13 rfl fiX0_31 ff0_5 rfl (obE hs0) (fun h1 e4 => ?_)
  obtain ⟨g5, eg6⟩ : ∃ z : GS, z = gI g2 (11 + 3 * s0) 5 (g2.1 3 5) := ⟨_, rfl⟩
  have hyp := hyp g5 eg6
  obtain rfl : h1 = hX g5 := by rw [e4, eg6]; exact rfl
  clear e4
  refine ex_aload_n 17 dX0_read_16 rfl rfl ?_
  refine ex_aload_n 18 dX0_read_17 rfl rfl ?_
  refine q_getI 7 6 21 dX0_read_18 rfl fiX0_32 (Or.inl rfl) ⟨_, rfl⟩ ?_
  refine q_putI 0 6 24 dX0_read_21 rfl fiX0_35 ff0_6 rfl (obE hs0) (fun h1 e7 => ?_)
  obtain ⟨g8, eg9⟩ : ∃ z : GS, z = gI g5 (11 + 3 * s0) 6 (g5.1 3 6) := ⟨_, rfl⟩
  have hyp := hyp g8 eg9
  obtain rfl : h1 = hX g8 := by rw [e7, eg9]; exact rfl
  clear e7
  refine ex_aload_n 25 dX0_read_24 rfl rfl ?_
  refine ex_iconst 26 dX0_read_25 rfl ?_
  refine q_putI 0 7 29 dX0_read_26 rfl fiX0_36 ff0_7 rfl (obE hs0) (fun h1 e10 => ?_)
  obtain ⟨g11, eg12⟩ : ∃ z : GS, z = gI g8 (11 + 3 * s0) 7 0 := ⟨_, rfl⟩
  have hyp := hyp g11 eg12
  obtain rfl : h1 = hX g11 := by rw [e10, eg12]; exact rfl
  clear e10
  refine ex_aload_n 30 dX0_read_29 rfl rfl ?_
  refine ex_iconst 31 dX0_read_30 rfl ?_
  refine q_putI 0 3 34 dX0_read_31 rfl fiX0_39 ff0_3 rfl (obE hs0) (fun h1 e13 => ?_)
  obtain ⟨g14, eg15⟩ : ∃ z : GS, z = gI g11 (11 + 3 * s0) 3 0 := ⟨_, rfl⟩
  have hyp := hyp g14 eg15
  obtain rfl : h1 = hX g14 := by rw [e13, eg15]; exact rfl
  clear e13
  refine ex_iconst 35 dX0_read_34 rfl ?_
  refine q_istore_n [some (vr (11 + 3 * s0)), some (vr 1), some (vr 3), some (vi 0)] 36 dX0_read_35 rfl (Nat.le_of_ble_eq_true rfl) rfl rfl ?_
  exact hyp
set_option maxRecDepth 4000 in
theorem uX0_read_36 {P : GS → Prop} (g0 : GS) (s0 : Nat) (hs0 : s0 < 18) (x3 : Int) (hyp : rng x3 ∧ rng (g0.1 3 4) ∧ (g0.1 3 4 ≤ x3 → (P g0)) ∧ (x3 < g0.1 3 4 → (rng ((g0.1 3 3) + x3) ∧ rng (g0.1 1 1) ∧ (g0.1 1 1 ≤ (g0.1 3 3) + x3 → (P g0)) ∧ ((g0.1 3 3) + x3 < g0.1 1 1 → (0 ≤ (g0.1 3 3) + x3 ∧ (g0.1 3 3) + x3 < 60 ∧ 0 ≤ x3 ∧ x3 < 8 ∧ ∀ g10 : GS, g10 = gI g0 (12 + 3 * s0) (x3).toNat (g0.1 2 ((g0.1 3 3) + x3).toNat) → (∀ g13 : GS, g13 = gI g10 (11 + 3 * s0) 3 ((g10.1 (11 + 3 * s0) 3) + 1) → (XXv mX0_read 36 [some (vr (11 + 3 * s0)), some (vr 1), some (vr 3), some (vi (x3 + 1))] [] g13 P))))))) : XXv mX0_read 36 [some (vr (11 + 3 * s0)), some (vr 1), some (vr 3), some (vi x3)] [] g0 P := by
  refine ex_iload_n 37 dX0_read_36 rfl rfl ?_
  refine ex_aload_n 38 dX0_read_37 rfl rfl ?_
  refine q_getI 7 4 41 dX0_read_38 rfl fiX0_42 (Or.inl rfl) ⟨_, rfl⟩ ?_
  obtain ⟨o1, hyp⟩ := hyp
  obtain ⟨o2, hyp⟩ := hyp
  obtain ⟨ht, hf⟩ := hyp
  refine ex_icmp_ge 90 44 dX0_read_41 (by decide) rfl o1 o2 (fun c16 => ?_) (fun c16 => ?_)
  · have hyp := ht c16
    clear ht hf
    exact ex_vret dX0_read_90 rfl ⟨rfl, _, rfl, hyp⟩
  · have hyp := hf c16
    clear ht hf
    refine ex_aload_n 45 dX0_read_44 rfl rfl ?_
    refine q_getI 7 3 48 dX0_read_45 rfl fiX0_45 (Or.inl rfl) ⟨_, rfl⟩ ?_
    refine ex_iload_n 49 dX0_read_48 rfl rfl ?_
    refine ex_iadd 50 dX0_read_49 rfl ?_
    refine ex_aload_n 51 dX0_read_50 rfl rfl ?_
    refine q_getI 5 1 54 dX0_read_51 rfl fiX0_48 (Or.inl rfl) ⟨_, rfl⟩ ?_
    obtain ⟨o3, hyp⟩ := hyp
    obtain ⟨o4, hyp⟩ := hyp
    obtain ⟨ht, hf⟩ := hyp
    refine ex_icmp_ge 90 57 dX0_read_54 (by decide) rfl o3 o4 (fun c15 => ?_) (fun c15 => ?_)
    · have hyp := ht c15
      clear ht hf
      exact ex_vret dX0_read_90 rfl ⟨rfl, _, rfl, hyp⟩
    · have hyp := hf c15
      clear ht hf
      refine ex_aload_n 58 dX0_read_57 rfl rfl ?_
      refine q_getR (a := (12 + 3 * s0)) 0 1 61 dX0_read_58 rfl fiX0_9 rfl (obE hs0) (rxN g0 hs0) ?_
      refine ex_iload_n 62 dX0_read_61 rfl rfl ?_
      refine ex_aload_n 63 dX0_read_62 rfl rfl ?_
      refine q_getR (a := 2) 5 0 66 dX0_read_63 rfl fiX0_53 rfl ⟨_, rfl⟩ rfl ?_
      refine ex_aload_n 67 dX0_read_66 rfl rfl ?_
      refine q_getI 7 3 70 dX0_read_67 rfl fiX0_45 (Or.inl rfl) ⟨_, rfl⟩ ?_
      refine ex_iload_n 71 dX0_read_70 rfl rfl ?_
      refine ex_iadd 72 dX0_read_71 rfl ?_
      obtain ⟨o5, hyp⟩ := hyp
      obtain ⟨o6, hyp⟩ := hyp
      refine ex_iald 73 dX0_read_72 rfl (ai_of (n := 60) rfl o5 o6 (by decide)) ?_
      obtain ⟨o7, hyp⟩ := hyp
      obtain ⟨o8, hyp⟩ := hyp
      refine ex_iast 74 dX0_read_73 rfl (ai_of (n := 8) (txN _ hs0) o7 o8 (by decide)) (fun h1 e9 => ?_)
      obtain ⟨g10, eg11⟩ : ∃ z : GS, z = gI g0 (12 + 3 * s0) (x3).toNat (g0.1 2 ((g0.1 3 3) + x3).toNat) := ⟨_, rfl⟩
      have hyp := hyp g10 eg11
      obtain rfl : h1 = hX g10 := by rw [e9, eg11]; exact rfl
      clear e9
      refine ex_aload_n 75 dX0_read_74 rfl rfl ?_
      refine ex_dup 76 dX0_read_75 rfl rfl ?_
      refine q_getI 0 3 79 dX0_read_76 rfl fiX0_39 (Or.inl rfl) (obE hs0) ?_
      refine ex_iconst 80 dX0_read_79 rfl ?_
      refine ex_iadd 81 dX0_read_80 rfl ?_
      refine q_putI 0 3 84 dX0_read_81 rfl fiX0_39 ff0_3 rfl (obE hs0) (fun h1 e12 => ?_)
      obtain ⟨g13, eg14⟩ : ∃ z : GS, z = gI g10 (11 + 3 * s0) 3 ((g10.1 (11 + 3 * s0) 3) + 1) := ⟨_, rfl⟩
      have hyp := hyp g13 eg14
      obtain rfl : h1 = hX g13 := by rw [e12, eg14]; exact rfl
      clear e12
      refine q_iinc [some (vr (11 + 3 * s0)), some (vr 1), some (vr 3), some (vi (x3 + 1))] 87 dX0_read_84 rfl rfl (Nat.le_of_ble_eq_true rfl) rfl rfl ?_
      refine ex_goto 36 dX0_read_87 (by decide) ?_
      exact hyp
set_option maxRecDepth 4000 in
theorem uX0_settleBorn {P : GS → Prop} (g0 : GS) (s0 : Nat) (hs0 : s0 < 18) (x1 : Int) (hyp : rng (g0.1 (11 + 3 * s0) 4) ∧ (¬ g0.1 (11 + 3 * s0) 4 = 0 → (rng (g0.1 (11 + 3 * s0) 6) ∧ (g0.1 (11 + 3 * s0) 6 = (-1) → ((¬ g0.1 (11 + 3 * s0) 4 = 1 → (∀ g4 : GS, g4 = gI g0 (11 + 3 * s0) 8 ((g0.1 (11 + 3 * s0) 5) - 100) → (∀ g7 : GS, g7 = gI g4 (11 + 3 * s0) 9 (g4.1 (11 + 3 * s0) 5) → (P g7)))) ∧ (g0.1 (11 + 3 * s0) 4 = 1 → (∀ g10 : GS, g10 = gI g0 (11 + 3 * s0) 8 ((g0.1 (11 + 3 * s0) 5) - 60) → (∀ g13 : GS, g13 = gI g10 (11 + 3 * s0) 9 ((g10.1 (11 + 3 * s0) 5) - 14) → (P g13)))))) ∧ (¬ g0.1 (11 + 3 * s0) 6 = (-1) → (∀ g17 : GS, g17 = gI g0 (11 + 3 * s0) 8 ((((g0.1 (11 + 3 * s0) 5) - (g0.1 (11 + 3 * s0) 6)) - 1) - x1) → (∀ g20 : GS, g20 = gI g17 (11 + 3 * s0) 9 (((g17.1 (11 + 3 * s0) 5) - (g17.1 (11 + 3 * s0) 6)) + x1) → (P g20)))))) ∧ (g0.1 (11 + 3 * s0) 4 = 0 → (∀ g24 : GS, g24 = gI g0 (11 + 3 * s0) 8 (g0.1 (11 + 3 * s0) 5) → (∀ g27 : GS, g27 = gI g24 (11 + 3 * s0) 9 (g24.1 (11 + 3 * s0) 5) → (P g27))))) : MXv mX0_settleBorn [vr (11 + 3 * s0), vi x1] g0 P := by
  refine met_of_ex (by decide +kernel) (Nat.le_of_ble_eq_true rfl) ?_
  show EX mX0_settleBorn 0 [some (vr (11 + 3 * s0)), some (vi x1)] [] (hX g0) (0, 0) _
  refine ex_aload_n 1 dX0_settleBorn_0 rfl rfl ?_
  refine q_getI 0 4 4 dX0_settleBorn_1 rfl fiX0_27 (Or.inl rfl) (obE hs0) ?_
  obtain ⟨o1, hyp⟩ := hyp
  obtain ⟨ht, hf⟩ := hyp
  refine ex_if_ne 26 7 dX0_settleBorn_4 (by decide) rfl o1 (fun c29 => ?_) (fun c29 => ?_)
  · have hyp := ht c29
    clear ht hf
    refine ex_aload_n 27 dX0_settleBorn_26 rfl rfl ?_
    refine q_getI 0 6 30 dX0_settleBorn_27 rfl fiX0_35 (Or.inl rfl) (obE hs0) ?_
    refine ex_iconst 31 dX0_settleBorn_30 rfl ?_
    obtain ⟨o2, hyp⟩ := hyp
    obtain ⟨ht, hf⟩ := hyp
    refine ex_icmp_eq 69 34 dX0_settleBorn_31 (by decide) rfl o2 ⟨by decide, by decide⟩ (fun c22 => ?_) (fun c22 => ?_)
    · have hyp := ht c22
      clear ht hf
      refine ex_aload_n 70 dX0_settleBorn_69 rfl rfl ?_
      refine q_getI 0 4 73 dX0_settleBorn_70 rfl fiX0_27 (Or.inl rfl) (obE hs0) ?_
      refine ex_iconst 74 dX0_settleBorn_73 rfl ?_
      obtain ⟨ht, hf⟩ := hyp
      refine ex_icmp_ne 102 77 dX0_settleBorn_74 (by decide) rfl o1 ⟨by decide, by decide⟩ (fun c15 => ?_) (fun c15 => ?_)
      · have hyp := ht c15
        clear ht hf
        refine ex_aload_n 103 dX0_settleBorn_102 rfl rfl ?_
        refine ex_aload_n 104 dX0_settleBorn_103 rfl rfl ?_
        refine q_getI 0 5 107 dX0_settleBorn_104 rfl fiX0_31 (Or.inl rfl) (obE hs0) ?_
        refine ex_bipush 109 dX0_settleBorn_107 rfl ⟨by decide, by decide⟩ ?_
        refine ex_isub 110 dX0_settleBorn_109 rfl ?_
        refine q_putI 0 8 113 dX0_settleBorn_110 rfl fiX0_56 ff0_8 rfl (obE hs0) (fun h1 e3 => ?_)
        obtain ⟨g4, eg5⟩ : ∃ z : GS, z = gI g0 (11 + 3 * s0) 8 ((g0.1 (11 + 3 * s0) 5) - 100) := ⟨_, rfl⟩
        have hyp := hyp g4 eg5
        obtain rfl : h1 = hX g4 := by rw [e3, eg5]; exact rfl
        clear e3
        refine ex_aload_n 114 dX0_settleBorn_113 rfl rfl ?_
        refine ex_aload_n 115 dX0_settleBorn_114 rfl rfl ?_
        refine q_getI 0 5 118 dX0_settleBorn_115 rfl fiX0_31 (Or.inl rfl) (obE hs0) ?_
        refine q_putI 0 9 121 dX0_settleBorn_118 rfl fiX0_59 ff0_9 rfl (obE hs0) (fun h1 e6 => ?_)
        obtain ⟨g7, eg8⟩ : ∃ z : GS, z = gI g4 (11 + 3 * s0) 9 (g4.1 (11 + 3 * s0) 5) := ⟨_, rfl⟩
        have hyp := hyp g7 eg8
        obtain rfl : h1 = hX g7 := by rw [e6, eg8]; exact rfl
        clear e6
        exact ex_vret dX0_settleBorn_121 rfl ⟨rfl, _, rfl, hyp⟩
      · have hyp := hf c15
        clear ht hf
        refine ex_aload_n 78 dX0_settleBorn_77 rfl rfl ?_
        refine ex_aload_n 79 dX0_settleBorn_78 rfl rfl ?_
        refine q_getI 0 5 82 dX0_settleBorn_79 rfl fiX0_31 (Or.inl rfl) (obE hs0) ?_
        refine ex_bipush 84 dX0_settleBorn_82 rfl ⟨by decide, by decide⟩ ?_
        refine ex_isub 85 dX0_settleBorn_84 rfl ?_
        refine q_putI 0 8 88 dX0_settleBorn_85 rfl fiX0_56 ff0_8 rfl (obE hs0) (fun h1 e9 => ?_)
        obtain ⟨g10, eg11⟩ : ∃ z : GS, z = gI g0 (11 + 3 * s0) 8 ((g0.1 (11 + 3 * s0) 5) - 60) := ⟨_, rfl⟩
        have hyp := hyp g10 eg11
        obtain rfl : h1 = hX g10 := by rw [e9, eg11]; exact rfl
        clear e9
        refine ex_aload_n 89 dX0_settleBorn_88 rfl rfl ?_
        refine ex_aload_n 90 dX0_settleBorn_89 rfl rfl ?_
        refine q_getI 0 5 93 dX0_settleBorn_90 rfl fiX0_31 (Or.inl rfl) (obE hs0) ?_
        refine ex_bipush 95 dX0_settleBorn_93 rfl ⟨by decide, by decide⟩ ?_
        refine ex_isub 96 dX0_settleBorn_95 rfl ?_
        refine q_putI 0 9 99 dX0_settleBorn_96 rfl fiX0_59 ff0_9 rfl (obE hs0) (fun h1 e12 => ?_)
        obtain ⟨g13, eg14⟩ : ∃ z : GS, z = gI g10 (11 + 3 * s0) 9 ((g10.1 (11 + 3 * s0) 5) - 14) := ⟨_, rfl⟩
        have hyp := hyp g13 eg14
        obtain rfl : h1 = hX g13 := by rw [e12, eg14]; exact rfl
        clear e12
        refine ex_goto 121 dX0_settleBorn_99 (by decide) ?_
        exact ex_vret dX0_settleBorn_121 rfl ⟨rfl, _, rfl, hyp⟩
    · have hyp := hf c22
      clear ht hf
      refine ex_aload_n 35 dX0_settleBorn_34 rfl rfl ?_
      refine ex_aload_n 36 dX0_settleBorn_35 rfl rfl ?_
      refine q_getI 0 5 39 dX0_settleBorn_36 rfl fiX0_31 (Or.inl rfl) (obE hs0) ?_
      refine ex_aload_n 40 dX0_settleBorn_39 rfl rfl ?_
      refine q_getI 0 6 43 dX0_settleBorn_40 rfl fiX0_35 (Or.inl rfl) (obE hs0) ?_
      refine ex_isub 44 dX0_settleBorn_43 rfl ?_
      refine ex_iconst 45 dX0_settleBorn_44 rfl ?_
      refine ex_isub 46 dX0_settleBorn_45 rfl ?_
      refine ex_iload_n 47 dX0_settleBorn_46 rfl rfl ?_
      refine ex_isub 48 dX0_settleBorn_47 rfl ?_
      refine q_putI 0 8 51 dX0_settleBorn_48 rfl fiX0_56 ff0_8 rfl (obE hs0) (fun h1 e16 => ?_)
      obtain ⟨g17, eg18⟩ : ∃ z : GS, z = gI g0 (11 + 3 * s0) 8 ((((g0.1 (11 + 3 * s0) 5) - (g0.1 (11 + 3 * s0) 6)) - 1) - x1) := ⟨_, rfl⟩
      have hyp := hyp g17 eg18
      obtain rfl : h1 = hX g17 := by rw [e16, eg18]; exact rfl
      clear e16
      refine ex_aload_n 52 dX0_settleBorn_51 rfl rfl ?_
      refine ex_aload_n 53 dX0_settleBorn_52 rfl rfl ?_
      refine q_getI 0 5 56 dX0_settleBorn_53 rfl fiX0_31 (Or.inl rfl) (obE hs0) ?_
      refine ex_aload_n 57 dX0_settleBorn_56 rfl rfl ?_
      refine q_getI 0 6 60 dX0_settleBorn_57 rfl fiX0_35 (Or.inl rfl) (obE hs0) ?_
      refine ex_isub 61 dX0_settleBorn_60 rfl ?_
      refine ex_iload_n 62 dX0_settleBorn_61 rfl rfl ?_
      refine ex_iadd 63 dX0_settleBorn_62 rfl ?_
      refine q_putI 0 9 66 dX0_settleBorn_63 rfl fiX0_59 ff0_9 rfl (obE hs0) (fun h1 e19 => ?_)
      obtain ⟨g20, eg21⟩ : ∃ z : GS, z = gI g17 (11 + 3 * s0) 9 (((g17.1 (11 + 3 * s0) 5) - (g17.1 (11 + 3 * s0) 6)) + x1) := ⟨_, rfl⟩
      have hyp := hyp g20 eg21
      obtain rfl : h1 = hX g20 := by rw [e19, eg21]; exact rfl
      clear e19
      refine ex_goto 121 dX0_settleBorn_66 (by decide) ?_
      exact ex_vret dX0_settleBorn_121 rfl ⟨rfl, _, rfl, hyp⟩
  · have hyp := hf c29
    clear ht hf
    refine ex_aload_n 8 dX0_settleBorn_7 rfl rfl ?_
    refine ex_aload_n 9 dX0_settleBorn_8 rfl rfl ?_
    refine q_getI 0 5 12 dX0_settleBorn_9 rfl fiX0_31 (Or.inl rfl) (obE hs0) ?_
    refine q_putI 0 8 15 dX0_settleBorn_12 rfl fiX0_56 ff0_8 rfl (obE hs0) (fun h1 e23 => ?_)
    obtain ⟨g24, eg25⟩ : ∃ z : GS, z = gI g0 (11 + 3 * s0) 8 (g0.1 (11 + 3 * s0) 5) := ⟨_, rfl⟩
    have hyp := hyp g24 eg25
    obtain rfl : h1 = hX g24 := by rw [e23, eg25]; exact rfl
    clear e23
    refine ex_aload_n 16 dX0_settleBorn_15 rfl rfl ?_
    refine ex_aload_n 17 dX0_settleBorn_16 rfl rfl ?_
    refine q_getI 0 5 20 dX0_settleBorn_17 rfl fiX0_31 (Or.inl rfl) (obE hs0) ?_
    refine q_putI 0 9 23 dX0_settleBorn_20 rfl fiX0_59 ff0_9 rfl (obE hs0) (fun h1 e26 => ?_)
    obtain ⟨g27, eg28⟩ : ∃ z : GS, z = gI g24 (11 + 3 * s0) 9 (g24.1 (11 + 3 * s0) 5) := ⟨_, rfl⟩
    have hyp := hyp g27 eg28
    obtain rfl : h1 = hX g27 := by rw [e26, eg28]; exact rfl
    clear e26
    refine ex_goto 121 dX0_settleBorn_23 (by decide) ?_
    exact ex_vret dX0_settleBorn_121 rfl ⟨rfl, _, rfl, hyp⟩
set_option maxRecDepth 4000 in
theorem uX0_isPartedFrom {P : Int → GS → Prop} (g0 : GS) (s0 : Nat) (hs0 : s0 < 18) (s1 : Nat) (hs1 : s1 < 18) (hyp : rng (b_and (g0.1 (11 + 3 * s0) 7) (b_shl 1 (g0.1 (11 + 3 * s1) 0))) ∧ (b_and (g0.1 (11 + 3 * s0) 7) (b_shl 1 (g0.1 (11 + 3 * s1) 0)) = 0 → (P 0 g0)) ∧ (¬ b_and (g0.1 (11 + 3 * s0) 7) (b_shl 1 (g0.1 (11 + 3 * s1) 0)) = 0 → (P 1 g0))) : MXi mX0_isPartedFrom [vr (11 + 3 * s0), vr (11 + 3 * s1)] g0 P := by
  refine met_of_ex (by decide +kernel) (Nat.le_of_ble_eq_true rfl) ?_
  show EX mX0_isPartedFrom 0 [some (vr (11 + 3 * s0)), some (vr (11 + 3 * s1))] [] (hX g0) (0, 0) _
  refine ex_aload_n 1 dX0_isPartedFrom_0 rfl rfl ?_
  refine q_getI 0 7 4 dX0_isPartedFrom_1 rfl fiX0_36 (Or.inl rfl) (obE hs0) ?_
  refine ex_iconst 5 dX0_isPartedFrom_4 rfl ?_
  refine ex_aload_n 6 dX0_isPartedFrom_5 rfl rfl ?_
  refine q_getI 0 0 9 dX0_isPartedFrom_6 rfl fiX0_18 (Or.inl rfl) (obE hs1) ?_
  refine ex_ishl 10 dX0_isPartedFrom_9 rfl ?_
  refine ex_iand 11 dX0_isPartedFrom_10 rfl ?_
  obtain ⟨o1, hyp⟩ := hyp
  obtain ⟨ht, hf⟩ := hyp
  refine ex_if_eq 18 14 dX0_isPartedFrom_11 (by decide) rfl o1 (fun c2 => ?_) (fun c2 => ?_)
  · have hyp := ht c2
    clear ht hf
    refine ex_iconst 19 dX0_isPartedFrom_18 rfl ?_
    exact ex_iret dX0_isPartedFrom_19 (Or.inr ⟨rfl, Or.inl rfl⟩) ⟨_, rfl, _, rfl, hyp⟩
  · have hyp := hf c2
    clear ht hf
    refine ex_iconst 15 dX0_isPartedFrom_14 rfl ?_
    refine ex_goto 19 dX0_isPartedFrom_15 (by decide) ?_
    exact ex_iret dX0_isPartedFrom_19 (Or.inr ⟨rfl, Or.inr rfl⟩) ⟨_, rfl, _, rfl, hyp⟩
set_option maxRecDepth 4000 in
theorem uX0_distanceTo {P : Int → GS → Prop} (g0 : GS) (s0 : Nat) (hs0 : s0 < 18) (s1 : Nat) (hs1 : s1 < 18) (hyp : 0 ≤ g0.1 (11 + 3 * s1) 0 ∧ g0.1 (11 + 3 * s1) 0 < 18 ∧ P (g0.1 (13 + 3 * s0) (g0.1 (11 + 3 * s1) 0).toNat) g0) : MXi mX0_distanceTo [vr (11 + 3 * s0), vr (11 + 3 * s1)] g0 P := by
  refine met_of_ex (by decide +kernel) (Nat.le_of_ble_eq_true rfl) ?_
  show EX mX0_distanceTo 0 [some (vr (11 + 3 * s0)), some (vr (11 + 3 * s1))] [] (hX g0) (0, 0) _
  refine ex_aload_n 1 dX0_distanceTo_0 rfl rfl ?_
  refine q_getR (a := (13 + 3 * s0)) 0 2 4 dX0_distanceTo_1 rfl fiX0_15 rfl (obE hs0) (rxD g0 hs0) ?_
  refine ex_aload_n 5 dX0_distanceTo_4 rfl rfl ?_
  refine q_getI 0 0 8 dX0_distanceTo_5 rfl fiX0_18 (Or.inl rfl) (obE hs1) ?_
  obtain ⟨o1, hyp⟩ := hyp
  obtain ⟨o2, hyp⟩ := hyp
  refine ex_iald 9 dX0_distanceTo_8 rfl (ai_of (n := 18) (txD _ hs0) o1 o2 (by decide)) ?_
  exact ex_iret dX0_distanceTo_9 (Or.inl rfl) ⟨_, rfl, _, rfl, hyp⟩
set_option maxRecDepth 4000 in
theorem uX0_likenessTo {P : Int → GS → Prop} (g0 : GS) (s0 : Nat) (hs0 : s0 < 18) (s1 : Nat) (hs1 : s1 < 18) (hyp : rng (g0.1 (11 + 3 * s0) 3) ∧ rng (g0.1 (11 + 3 * s1) 3) ∧ rng (max (g0.1 (11 + 3 * s0) 3) (g0.1 (11 + 3 * s1) 3)) ∧ MXi mX0_distanceTo [vr (11 + 3 * s0), vr (11 + 3 * s1)] g0 (fun y5 g4 => rng (1000 * y5) ∧ rng (2 * (max 1 (max (g0.1 (11 + 3 * s0) 3) (g0.1 (11 + 3 * s1) 3)))) ∧ ¬ 2 * (max 1 (max (g0.1 (11 + 3 * s0) 3) (g0.1 (11 + 3 * s1) 3))) = 0 ∧ P (1000 - (Int.tdiv (1000 * y5) (2 * (max 1 (max (g0.1 (11 + 3 * s0) 3) (g0.1 (11 + 3 * s1) 3)))))) g4)) : MXi mX0_likenessTo [vr (11 + 3 * s0), vr (11 + 3 * s1)] g0 P := by
  refine met_of_ex (by decide +kernel) (Nat.le_of_ble_eq_true rfl) ?_
  show EX mX0_likenessTo 0 [some (vr (11 + 3 * s0)), some (vr (11 + 3 * s1)), none] [] (hX g0) (0, 0) _
  refine ex_iconst 1 dX0_likenessTo_0 rfl ?_
  refine ex_aload_n 2 dX0_likenessTo_1 rfl rfl ?_
  refine q_getI 0 3 5 dX0_likenessTo_2 rfl fiX0_39 (Or.inl rfl) (obE hs0) ?_
  refine ex_aload_n 6 dX0_likenessTo_5 rfl rfl ?_
  refine q_getI 0 3 9 dX0_likenessTo_6 rfl fiX0_39 (Or.inl rfl) (obE hs1) ?_
  obtain ⟨o1, hyp⟩ := hyp
  obtain ⟨o2, hyp⟩ := hyp
  refine q_max 12 dX0_likenessTo_9 rfl mlX0_62 ⟨Nat.le_of_ble_eq_true rfl, Nat.le_of_ble_eq_true rfl⟩ o1 o2 ?_
  obtain ⟨o3, hyp⟩ := hyp
  refine q_max 15 dX0_likenessTo_12 rfl mlX0_62 ⟨Nat.le_of_ble_eq_true rfl, Nat.le_of_ble_eq_true rfl⟩ ⟨by decide, by decide⟩ o3 ?_
  refine q_istore_n [some (vr (11 + 3 * s0)), some (vr (11 + 3 * s1)), some (vi (max 1 (max (g0.1 (11 + 3 * s0) 3) (g0.1 (11 + 3 * s1) 3))))] 16 dX0_likenessTo_15 rfl (Nat.le_of_ble_eq_true rfl) rfl rfl ?_
  refine ex_sipush 19 dX0_likenessTo_16 rfl ⟨by decide, by decide⟩ ?_
  refine ex_sipush 22 dX0_likenessTo_19 rfl ⟨by decide, by decide⟩ ?_
  refine ex_aload_n 23 dX0_likenessTo_22 rfl rfl ?_
  refine ex_aload_n 24 dX0_likenessTo_23 rfl rfl ?_
  refine s_callVi [vr (11 + 3 * s1)] 27 dX0_likenessTo_24 rfl cvX0_68 rfl rfl ⟨Nat.le_of_ble_eq_true rfl, Nat.le_of_ble_eq_true rfl⟩ (Nat.le_of_ble_eq_true rfl) (obE hs0) hyp (fun y5 h1 hq => ?_)
  obtain ⟨g4, rfl, hyp⟩ := hq
  refine ex_imul 28 dX0_likenessTo_27 rfl ?_
  refine ex_iconst 29 dX0_likenessTo_28 rfl ?_
  refine ex_iload_n 30 dX0_likenessTo_29 rfl rfl ?_
  refine ex_imul 31 dX0_likenessTo_30 rfl ?_
  obtain ⟨o6, hyp⟩ := hyp
  obtain ⟨o7, hyp⟩ := hyp
  obtain ⟨o8, hyp⟩ := hyp
  refine ex_idiv 32 dX0_likenessTo_31 rfl o6 o7 o8 ?_
  refine ex_isub 33 dX0_likenessTo_32 rfl ?_
  exact ex_iret dX0_likenessTo_33 (Or.inl rfl) ⟨_, rfl, _, rfl, hyp⟩
set_option maxRecDepth 4000 in
theorem uX0_yearsWith {P : Int → GS → Prop} (g0 : GS) (s0 : Nat) (hs0 : s0 < 18) (s1 : Nat) (hs1 : s1 < 18) (hyp : rng (g0.1 (11 + 3 * s0) 8) ∧ rng (g0.1 (11 + 3 * s1) 8) ∧ rng (g0.1 (11 + 3 * s0) 9) ∧ rng (g0.1 (11 + 3 * s1) 9) ∧ rng (((min (g0.1 (11 + 3 * s0) 9) (g0.1 (11 + 3 * s1) 9)) - (max (g0.1 (11 + 3 * s0) 8) (g0.1 (11 + 3 * s1) 8))) + 1) ∧ P (max 0 (((min (g0.1 (11 + 3 * s0) 9) (g0.1 (11 + 3 * s1) 9)) - (max (g0.1 (11 + 3 * s0) 8) (g0.1 (11 + 3 * s1) 8))) + 1)) g0) : MXi mX0_yearsWith [vr (11 + 3 * s0), vr (11 + 3 * s1)] g0 P := by
  refine met_of_ex (by decide +kernel) (Nat.le_of_ble_eq_true rfl) ?_
  show EX mX0_yearsWith 0 [some (vr (11 + 3 * s0)), some (vr (11 + 3 * s1)), none, none] [] (hX g0) (0, 0) _
  refine ex_aload_n 1 dX0_yearsWith_0 rfl rfl ?_
  refine q_getI 0 8 4 dX0_yearsWith_1 rfl fiX0_56 (Or.inl rfl) (obE hs0) ?_
  refine ex_aload_n 5 dX0_yearsWith_4 rfl rfl ?_
  refine q_getI 0 8 8 dX0_yearsWith_5 rfl fiX0_56 (Or.inl rfl) (obE hs1) ?_
  obtain ⟨o1, hyp⟩ := hyp
  obtain ⟨o2, hyp⟩ := hyp
  refine q_max 11 dX0_yearsWith_8 rfl mlX0_62 ⟨Nat.le_of_ble_eq_true rfl, Nat.le_of_ble_eq_true rfl⟩ o1 o2 ?_
  refine q_istore_n [some (vr (11 + 3 * s0)), some (vr (11 + 3 * s1)), some (vi (max (g0.1 (11 + 3 * s0) 8) (g0.1 (11 + 3 * s1) 8))), none] 12 dX0_yearsWith_11 rfl (Nat.le_of_ble_eq_true rfl) rfl rfl ?_
  refine ex_aload_n 13 dX0_yearsWith_12 rfl rfl ?_
  refine q_getI 0 9 16 dX0_yearsWith_13 rfl fiX0_59 (Or.inl rfl) (obE hs0) ?_
  refine ex_aload_n 17 dX0_yearsWith_16 rfl rfl ?_
  refine q_getI 0 9 20 dX0_yearsWith_17 rfl fiX0_59 (Or.inl rfl) (obE hs1) ?_
  obtain ⟨o3, hyp⟩ := hyp
  obtain ⟨o4, hyp⟩ := hyp
  refine q_min 23 dX0_yearsWith_20 rfl mlX0_72 ⟨Nat.le_of_ble_eq_true rfl, Nat.le_of_ble_eq_true rfl⟩ o3 o4 ?_
  refine q_istore_n [some (vr (11 + 3 * s0)), some (vr (11 + 3 * s1)), some (vi (max (g0.1 (11 + 3 * s0) 8) (g0.1 (11 + 3 * s1) 8))), some (vi (min (g0.1 (11 + 3 * s0) 9) (g0.1 (11 + 3 * s1) 9)))] 24 dX0_yearsWith_23 rfl (Nat.le_of_ble_eq_true rfl) rfl rfl ?_
  refine ex_iconst 25 dX0_yearsWith_24 rfl ?_
  refine ex_iload_n 26 dX0_yearsWith_25 rfl rfl ?_
  refine ex_iload_n 27 dX0_yearsWith_26 rfl rfl ?_
  refine ex_isub 28 dX0_yearsWith_27 rfl ?_
  refine ex_iconst 29 dX0_yearsWith_28 rfl ?_
  refine ex_iadd 30 dX0_yearsWith_29 rfl ?_
  obtain ⟨o5, hyp⟩ := hyp
  refine q_max 33 dX0_yearsWith_30 rfl mlX0_62 ⟨Nat.le_of_ble_eq_true rfl, Nat.le_of_ble_eq_true rfl⟩ ⟨by decide, by decide⟩ o5 ?_
  exact ex_iret dX0_yearsWith_33 (Or.inl rfl) ⟨_, rfl, _, rfl, hyp⟩
set_option maxRecDepth 4000 in
theorem uX0_isInWrongOrderWith {P : Int → GS → Prop} (g0 : GS) (s0 : Nat) (hs0 : s0 < 18) (s1 : Nat) (hs1 : s1 < 18) (hyp : rng (g0.1 (11 + 3 * s0) 4) ∧ (¬ g0.1 (11 + 3 * s0) 4 = 0 → ((¬ g0.1 (11 + 3 * s0) 4 = 2 → (P 0 g0)) ∧ (g0.1 (11 + 3 * s0) 4 = 2 → (rng (g0.1 (11 + 3 * s0) 5) ∧ rng (g0.1 (11 + 3 * s1) 5) ∧ (g0.1 (11 + 3 * s1) 5 ≤ g0.1 (11 + 3 * s0) 5 → (P 0 g0)) ∧ (g0.1 (11 + 3 * s0) 5 < g0.1 (11 + 3 * s1) 5 → (P 1 g0)))))) ∧ (g0.1 (11 + 3 * s0) 4 = 0 → (rng (g0.1 (11 + 3 * s0) 5) ∧ rng (g0.1 (11 + 3 * s1) 5) ∧ (g0.1 (11 + 3 * s1) 5 < g0.1 (11 + 3 * s0) 5 → (P 1 g0)) ∧ (g0.1 (11 + 3 * s0) 5 ≤ g0.1 (11 + 3 * s1) 5 → ((¬ g0.1 (11 + 3 * s0) 4 = 2 → (P 0 g0)) ∧ (g0.1 (11 + 3 * s0) 4 = 2 → ((g0.1 (11 + 3 * s1) 5 ≤ g0.1 (11 + 3 * s0) 5 → (P 0 g0)) ∧ (g0.1 (11 + 3 * s0) 5 < g0.1 (11 + 3 * s1) 5 → (P 1 g0))))))))) : MXi mX0_isInWrongOrderWith [vr (11 + 3 * s0), vr (11 + 3 * s1)] g0 P := by
  refine met_of_ex (by decide +kernel) (Nat.le_of_ble_eq_true rfl) ?_
  show EX mX0_isInWrongOrderWith 0 [some (vr (11 + 3 * s0)), some (vr (11 + 3 * s1))] [] (hX g0) (0, 0) _
  refine ex_aload_n 1 dX0_isInWrongOrderWith_0 rfl rfl ?_
  refine q_getI 0 4 4 dX0_isInWrongOrderWith_1 rfl fiX0_27 (Or.inl rfl) (obE hs0) ?_
  obtain ⟨o1, hyp⟩ := hyp
  obtain ⟨ht, hf⟩ := hyp
  refine ex_if_ne 18 7 dX0_isInWrongOrderWith_4 (by decide) rfl o1 (fun c11 => ?_) (fun c11 => ?_)
  · have hyp := ht c11
    clear ht hf
    refine ex_aload_n 19 dX0_isInWrongOrderWith_18 rfl rfl ?_
    refine q_getI 0 4 22 dX0_isInWrongOrderWith_19 rfl fiX0_27 (Or.inl rfl) (obE hs0) ?_
    refine ex_iconst 23 dX0_isInWrongOrderWith_22 rfl ?_
    obtain ⟨ht, hf⟩ := hyp
    refine ex_icmp_ne 41 26 dX0_isInWrongOrderWith_23 (by decide) rfl o1 ⟨by decide, by decide⟩ (fun c5 => ?_) (fun c5 => ?_)
    · have hyp := ht c5
      clear ht hf
      refine ex_iconst 42 dX0_isInWrongOrderWith_41 rfl ?_
      exact ex_iret dX0_isInWrongOrderWith_42 (Or.inr ⟨rfl, Or.inl rfl⟩) ⟨_, rfl, _, rfl, hyp⟩
    · have hyp := hf c5
      clear ht hf
      refine ex_aload_n 27 dX0_isInWrongOrderWith_26 rfl rfl ?_
      refine q_getI 0 5 30 dX0_isInWrongOrderWith_27 rfl fiX0_31 (Or.inl rfl) (obE hs0) ?_
      refine ex_aload_n 31 dX0_isInWrongOrderWith_30 rfl rfl ?_
      refine q_getI 0 5 34 dX0_isInWrongOrderWith_31 rfl fiX0_31 (Or.inl rfl) (obE hs1) ?_
      obtain ⟨o2, hyp⟩ := hyp
      obtain ⟨o3, hyp⟩ := hyp
      obtain ⟨ht, hf⟩ := hyp
      refine ex_icmp_ge 41 37 dX0_isInWrongOrderWith_34 (by decide) rfl o2 o3 (fun c4 => ?_) (fun c4 => ?_)
      · have hyp := ht c4
        clear ht hf
        refine ex_iconst 42 dX0_isInWrongOrderWith_41 rfl ?_
        exact ex_iret dX0_isInWrongOrderWith_42 (Or.inr ⟨rfl, Or.inl rfl⟩) ⟨_, rfl, _, rfl, hyp⟩
      · have hyp := hf c4
        clear ht hf
        refine ex_iconst 38 dX0_isInWrongOrderWith_37 rfl ?_
        refine ex_goto 42 dX0_isInWrongOrderWith_38 (by decide) ?_
        exact ex_iret dX0_isInWrongOrderWith_42 (Or.inr ⟨rfl, Or.inr rfl⟩) ⟨_, rfl, _, rfl, hyp⟩
  · have hyp := hf c11
    clear ht hf
    refine ex_aload_n 8 dX0_isInWrongOrderWith_7 rfl rfl ?_
    refine q_getI 0 5 11 dX0_isInWrongOrderWith_8 rfl fiX0_31 (Or.inl rfl) (obE hs0) ?_
    refine ex_aload_n 12 dX0_isInWrongOrderWith_11 rfl rfl ?_
    refine q_getI 0 5 15 dX0_isInWrongOrderWith_12 rfl fiX0_31 (Or.inl rfl) (obE hs1) ?_
    obtain ⟨o6, hyp⟩ := hyp
    obtain ⟨o7, hyp⟩ := hyp
    obtain ⟨ht, hf⟩ := hyp
    refine ex_icmp_gt 37 18 dX0_isInWrongOrderWith_15 (by decide) rfl o6 o7 (fun c10 => ?_) (fun c10 => ?_)
    · have hyp := ht c10
      clear ht hf
      refine ex_iconst 38 dX0_isInWrongOrderWith_37 rfl ?_
      refine ex_goto 42 dX0_isInWrongOrderWith_38 (by decide) ?_
      exact ex_iret dX0_isInWrongOrderWith_42 (Or.inr ⟨rfl, Or.inr rfl⟩) ⟨_, rfl, _, rfl, hyp⟩
    · have hyp := hf c10
      clear ht hf
      refine ex_aload_n 19 dX0_isInWrongOrderWith_18 rfl rfl ?_
      refine q_getI 0 4 22 dX0_isInWrongOrderWith_19 rfl fiX0_27 (Or.inl rfl) (obE hs0) ?_
      refine ex_iconst 23 dX0_isInWrongOrderWith_22 rfl ?_
      obtain ⟨ht, hf⟩ := hyp
      refine ex_icmp_ne 41 26 dX0_isInWrongOrderWith_23 (by decide) rfl o1 ⟨by decide, by decide⟩ (fun c9 => ?_) (fun c9 => ?_)
      · have hyp := ht c9
        clear ht hf
        refine ex_iconst 42 dX0_isInWrongOrderWith_41 rfl ?_
        exact ex_iret dX0_isInWrongOrderWith_42 (Or.inr ⟨rfl, Or.inl rfl⟩) ⟨_, rfl, _, rfl, hyp⟩
      · have hyp := hf c9
        clear ht hf
        refine ex_aload_n 27 dX0_isInWrongOrderWith_26 rfl rfl ?_
        refine q_getI 0 5 30 dX0_isInWrongOrderWith_27 rfl fiX0_31 (Or.inl rfl) (obE hs0) ?_
        refine ex_aload_n 31 dX0_isInWrongOrderWith_30 rfl rfl ?_
        refine q_getI 0 5 34 dX0_isInWrongOrderWith_31 rfl fiX0_31 (Or.inl rfl) (obE hs1) ?_
        obtain ⟨ht, hf⟩ := hyp
        refine ex_icmp_ge 41 37 dX0_isInWrongOrderWith_34 (by decide) rfl o6 o7 (fun c8 => ?_) (fun c8 => ?_)
        · have hyp := ht c8
          clear ht hf
          refine ex_iconst 42 dX0_isInWrongOrderWith_41 rfl ?_
          exact ex_iret dX0_isInWrongOrderWith_42 (Or.inr ⟨rfl, Or.inl rfl⟩) ⟨_, rfl, _, rfl, hyp⟩
        · have hyp := hf c8
          clear ht hf
          refine ex_iconst 38 dX0_isInWrongOrderWith_37 rfl ?_
          refine ex_goto 42 dX0_isInWrongOrderWith_38 (by decide) ?_
          exact ex_iret dX0_isInWrongOrderWith_42 (Or.inr ⟨rfl, Or.inr rfl⟩) ⟨_, rfl, _, rfl, hyp⟩
set_option maxRecDepth 4000 in
theorem uX1_clear {P : GS → Prop} (g0 : GS) (s0 : Nat) (hs0 : s0 < 18) (hyp : ∀ g2 : GS, g2 = gI g0 (121 + 2 * s0) 1 0 → (∀ g5 : GS, g5 = gI g2 (121 + 2 * s0) 2 0 → (∀ g8 : GS, g8 = gI g5 (121 + 2 * s0) 3 (-1) → (∀ g11 : GS, g11 = gI g8 (121 + 2 * s0) 4 (-1) → (∀ g14 : GS, g14 = gI g11 (121 + 2 * s0) 8 0 → (P g14)))))) : MXv mX1_clear [vr (121 + 2 * s0)] g0 P := by
  refine met_of_ex (by decide +kernel) (Nat.le_of_ble_eq_true rfl) ?_
  show EX mX1_clear 0 [some (vr (121 + 2 * s0))] [] (hX g0) (0, 0) _
  refine ex_aload_n 1 dX1_clear_0 rfl rfl ?_
  refine ex_iconst 2 dX1_clear_1 rfl ?_
  refine q_putI 1 1 5 dX1_clear_2 rfl fiX1_15 ff1_1 rfl (obL hs0) (fun h1 e1 => ?_)
  obtain ⟨g2, eg3⟩ : ∃ z : GS, z = gI g0 (121 + 2 * s0) 1 0 := ⟨_, rfl⟩
  have hyp := hyp g2 eg3
  obtain rfl : h1 = hX g2 := by rw [e1, eg3]; exact rfl
  clear e1
  refine ex_aload_n 6 dX1_clear_5 rfl rfl ?_
  refine ex_iconst 7 dX1_clear_6 rfl ?_
  refine q_putI 1 2 10 dX1_clear_7 rfl fiX1_19 ff1_2 rfl (obL hs0) (fun h1 e4 => ?_)
  obtain ⟨g5, eg6⟩ : ∃ z : GS, z = gI g2 (121 + 2 * s0) 2 0 := ⟨_, rfl⟩
  have hyp := hyp g5 eg6
  obtain rfl : h1 = hX g5 := by rw [e4, eg6]; exact rfl
  clear e4
  refine ex_aload_n 11 dX1_clear_10 rfl rfl ?_
  refine ex_iconst 12 dX1_clear_11 rfl ?_
  refine q_putI 1 3 15 dX1_clear_12 rfl fiX1_22 ff1_3 rfl (obL hs0) (fun h1 e7 => ?_)
  obtain ⟨g8, eg9⟩ : ∃ z : GS, z = gI g5 (121 + 2 * s0) 3 (-1) := ⟨_, rfl⟩
  have hyp := hyp g8 eg9
  obtain rfl : h1 = hX g8 := by rw [e7, eg9]; exact rfl
  clear e7
  refine ex_aload_n 16 dX1_clear_15 rfl rfl ?_
  refine ex_iconst 17 dX1_clear_16 rfl ?_
  refine q_putI 1 4 20 dX1_clear_17 rfl fiX1_25 ff1_4 rfl (obL hs0) (fun h1 e10 => ?_)
  obtain ⟨g11, eg12⟩ : ∃ z : GS, z = gI g8 (121 + 2 * s0) 4 (-1) := ⟨_, rfl⟩
  have hyp := hyp g11 eg12
  obtain rfl : h1 = hX g11 := by rw [e10, eg12]; exact rfl
  clear e10
  refine ex_aload_n 21 dX1_clear_20 rfl rfl ?_
  refine ex_iconst 22 dX1_clear_21 rfl ?_
  refine q_putZ 1 8 25 dX1_clear_22 rfl fiX1_28 ff1_8 rfl (obL hs0) (Or.inl rfl) (fun h1 e13 => ?_)
  obtain ⟨g14, eg15⟩ : ∃ z : GS, z = gI g11 (121 + 2 * s0) 8 0 := ⟨_, rfl⟩
  have hyp := hyp g14 eg15
  obtain rfl : h1 = hX g14 := by rw [e13, eg15]; exact rfl
  clear e13
  exact ex_vret dX1_clear_25 rfl ⟨rfl, _, rfl, hyp⟩
set_option maxRecDepth 4000 in
theorem uX1_weddings {P : Int → GS → Prop} (g0 : GS) (s0 : Nat) (hs0 : s0 < 18) (hyp : P ((g0.1 (121 + 2 * s0) 1) - (g0.1 (121 + 2 * s0) 2)) g0) : MXi mX1_weddings [vr (121 + 2 * s0)] g0 P := by
  refine met_of_ex (by decide +kernel) (Nat.le_of_ble_eq_true rfl) ?_
  show EX mX1_weddings 0 [some (vr (121 + 2 * s0))] [] (hX g0) (0, 0) _
  refine ex_aload_n 1 dX1_weddings_0 rfl rfl ?_
  refine q_getI 1 1 4 dX1_weddings_1 rfl fiX1_15 (Or.inl rfl) (obL hs0) ?_
  refine ex_aload_n 5 dX1_weddings_4 rfl rfl ?_
  refine q_getI 1 2 8 dX1_weddings_5 rfl fiX1_19 (Or.inl rfl) (obL hs0) ?_
  refine ex_isub 9 dX1_weddings_8 rfl ?_
  exact ex_iret dX1_weddings_9 (Or.inl rfl) ⟨_, rfl, _, rfl, hyp⟩
set_option maxRecDepth 4000 in
theorem uX1_isBorn {P : Int → GS → Prop} (g0 : GS) (s0 : Nat) (hs0 : s0 < 18) (hyp : rng (g0.1 (121 + 2 * s0) 5) ∧ rng (g0.1 (121 + 2 * s0) 6) ∧ (g0.1 (121 + 2 * s0) 6 < g0.1 (121 + 2 * s0) 5 → (P 0 g0)) ∧ (g0.1 (121 + 2 * s0) 5 ≤ g0.1 (121 + 2 * s0) 6 → (P 1 g0))) : MXi mX1_isBorn [vr (121 + 2 * s0)] g0 P := by
  refine met_of_ex (by decide +kernel) (Nat.le_of_ble_eq_true rfl) ?_
  show EX mX1_isBorn 0 [some (vr (121 + 2 * s0))] [] (hX g0) (0, 0) _
  refine ex_aload_n 1 dX1_isBorn_0 rfl rfl ?_
  refine q_getI 1 5 4 dX1_isBorn_1 rfl fiX1_32 (Or.inl rfl) (obL hs0) ?_
  refine ex_aload_n 5 dX1_isBorn_4 rfl rfl ?_
  refine q_getI 1 6 8 dX1_isBorn_5 rfl fiX1_35 (Or.inl rfl) (obL hs0) ?_
  obtain ⟨o1, hyp⟩ := hyp
  obtain ⟨o2, hyp⟩ := hyp
  obtain ⟨ht, hf⟩ := hyp
  refine ex_icmp_gt 15 11 dX1_isBorn_8 (by decide) rfl o1 o2 (fun c3 => ?_) (fun c3 => ?_)
  · have hyp := ht c3
    clear ht hf
    refine ex_iconst 16 dX1_isBorn_15 rfl ?_
    exact ex_iret dX1_isBorn_16 (Or.inr ⟨rfl, Or.inl rfl⟩) ⟨_, rfl, _, rfl, hyp⟩
  · have hyp := hf c3
    clear ht hf
    refine ex_iconst 12 dX1_isBorn_11 rfl ?_
    refine ex_goto 16 dX1_isBorn_12 (by decide) ?_
    exact ex_iret dX1_isBorn_16 (Or.inr ⟨rfl, Or.inr rfl⟩) ⟨_, rfl, _, rfl, hyp⟩
set_option maxRecDepth 4000 in
theorem uX1_add {P : GS → Prop} (g0 : GS) (s0 : Nat) (hs0 : s0 < 18) (x1 : Int) (s2 : Nat) (hs2 : s2 < 18) (hyp : rng (g0.1 (121 + 2 * s0) 1) ∧ (g0.1 (121 + 2 * s0) 1 < 5 → ((¬ g0.1 (121 + 2 * s0) 1 = 0 → (rng (g0.1 (121 + 2 * s0) 5) ∧ rng (g0.1 (11 + 3 * s2) 8) ∧ XXv mX1_add 39 [some (vr (121 + 2 * s0)), some (vi x1), some (vr (11 + 3 * s2))] [vi (max (g0.1 (121 + 2 * s0) 5) (g0.1 (11 + 3 * s2) 8)), vr (121 + 2 * s0)] g0 P)) ∧ (g0.1 (121 + 2 * s0) 1 = 0 → (XXv mX1_add 39 [some (vr (121 + 2 * s0)), some (vi x1), some (vr (11 + 3 * s2))] [vi (g0.1 (11 + 3 * s2) 8), vr (121 + 2 * s0)] g0 P)))) ∧ (5 ≤ g0.1 (121 + 2 * s0) 1 → (P g0))) : MXv mX1_add [vr (121 + 2 * s0), vi x1, vr (11 + 3 * s2)] g0 P := by
  refine met_of_ex (by decide +kernel) (Nat.le_of_ble_eq_true rfl) ?_
  show EX mX1_add 0 [some (vr (121 + 2 * s0)), some (vi x1), some (vr (11 + 3 * s2))] [] (hX g0) (0, 0) _
  refine ex_aload_n 1 dX1_add_0 rfl rfl ?_
  refine q_getI 1 1 4 dX1_add_1 rfl fiX1_15 (Or.inl rfl) (obL hs0) ?_
  refine ex_aload_n 5 dX1_add_4 rfl rfl ?_
  refine q_getR (a := (122 + 2 * s0)) 1 0 8 dX1_add_5 rfl fiX1_9 rfl (obL hs0) (rxM g0 hs0) ?_
  refine ex_alen (n := 5) (n' := 5) 9 dX1_add_8 rfl (txQ _ hs0) rfl ?_
  obtain ⟨o1, hyp⟩ := hyp
  obtain ⟨ht, hf⟩ := hyp
  refine ex_icmp_lt 13 12 dX1_add_9 (by decide) rfl o1 ⟨by decide, by decide⟩ (fun c5 => ?_) (fun c5 => ?_)
  · have hyp := ht c5
    clear ht hf
    refine ex_aload_n 14 dX1_add_13 rfl rfl ?_
    refine ex_aload_n 15 dX1_add_14 rfl rfl ?_
    refine q_getI 1 1 18 dX1_add_15 rfl fiX1_15 (Or.inl rfl) (obL hs0) ?_
    obtain ⟨ht, hf⟩ := hyp
    refine ex_if_ne 28 21 dX1_add_18 (by decide) rfl o1 (fun c4 => ?_) (fun c4 => ?_)
    · have hyp := ht c4
      clear ht hf
      refine ex_aload_n 29 dX1_add_28 rfl rfl ?_
      refine q_getI 1 5 32 dX1_add_29 rfl fiX1_32 (Or.inl rfl) (obL hs0) ?_
      refine ex_aload_n 33 dX1_add_32 rfl rfl ?_
      refine q_getI 0 8 36 dX1_add_33 rfl fiX1_38 (Or.inl rfl) (obE hs2) ?_
      obtain ⟨o2, hyp⟩ := hyp
      obtain ⟨o3, hyp⟩ := hyp
      refine q_max 39 dX1_add_36 rfl mlX1_41 ⟨Nat.le_of_ble_eq_true rfl, Nat.le_of_ble_eq_true rfl⟩ o2 o3 ?_
      exact hyp
    · have hyp := hf c4
      clear ht hf
      refine ex_aload_n 22 dX1_add_21 rfl rfl ?_
      refine q_getI 0 8 25 dX1_add_22 rfl fiX1_38 (Or.inl rfl) (obE hs2) ?_
      refine ex_goto 39 dX1_add_25 (by decide) ?_
      exact hyp
  · have hyp := hf c5
    clear ht hf
    exact ex_vret dX1_add_12 rfl ⟨rfl, _, rfl, hyp⟩
set_option maxRecDepth 4000 in
theorem uX1_add_39 {P : GS → Prop} (g0 : GS) (s0 : Nat) (hs0 : s0 < 18) (x1 : Int) (s2 : Nat) (hs2 : s2 < 18) (ss0 : Nat) (hss0 : ss0 < 18) (xs1 : Int) (hyp : ∀ g2 : GS, g2 = gI g0 (121 + 2 * ss0) 5 xs1 → (rng (g2.1 (121 + 2 * s0) 1) ∧ (¬ g2.1 (121 + 2 * s0) 1 = 0 → (rng (g2.1 (121 + 2 * s0) 6) ∧ rng (g2.1 (11 + 3 * s2) 9) ∧ XXv mX1_add 68 [some (vr (121 + 2 * s0)), some (vi x1), some (vr (11 + 3 * s2))] [vi (min (g2.1 (121 + 2 * s0) 6) (g2.1 (11 + 3 * s2) 9)), vr (121 + 2 * s0)] g2 P)) ∧ (g2.1 (121 + 2 * s0) 1 = 0 → (XXv mX1_add 68 [some (vr (121 + 2 * s0)), some (vi x1), some (vr (11 + 3 * s2))] [vi (g2.1 (11 + 3 * s2) 9), vr (121 + 2 * s0)] g2 P)))) : XXv mX1_add 39 [some (vr (121 + 2 * s0)), some (vi x1), some (vr (11 + 3 * s2))] [vi xs1, vr (121 + 2 * ss0)] g0 P := by
  refine q_putI 1 5 42 dX1_add_39 rfl fiX1_32 ff1_5 rfl (obL hss0) (fun h1 e1 => ?_)
  obtain ⟨g2, eg3⟩ : ∃ z : GS, z = gI g0 (121 + 2 * ss0) 5 xs1 := ⟨_, rfl⟩
  have hyp := hyp g2 eg3
  obtain rfl : h1 = hX g2 := by rw [e1, eg3]; exact rfl
  clear e1
  refine ex_aload_n 43 dX1_add_42 rfl rfl ?_
  refine ex_aload_n 44 dX1_add_43 rfl rfl ?_
  refine q_getI 1 1 47 dX1_add_44 rfl fiX1_15 (Or.inl rfl) (obL hs0) ?_
  obtain ⟨o4, hyp⟩ := hyp
  obtain ⟨ht, hf⟩ := hyp
  refine ex_if_ne 57 50 dX1_add_47 (by decide) rfl o4 (fun c7 => ?_) (fun c7 => ?_)
  · have hyp := ht c7
    clear ht hf
    refine ex_aload_n 58 dX1_add_57 rfl rfl ?_
    refine q_getI 1 6 61 dX1_add_58 rfl fiX1_35 (Or.inl rfl) (obL hs0) ?_
    refine ex_aload_n 62 dX1_add_61 rfl rfl ?_
    refine q_getI 0 9 65 dX1_add_62 rfl fiX1_47 (Or.inl rfl) (obE hs2) ?_
    obtain ⟨o5, hyp⟩ := hyp
    obtain ⟨o6, hyp⟩ := hyp
    refine q_min 68 dX1_add_65 rfl mlX1_48 ⟨Nat.le_of_ble_eq_true rfl, Nat.le_of_ble_eq_true rfl⟩ o5 o6 ?_
    exact hyp
  · have hyp := hf c7
    clear ht hf
    refine ex_aload_n 51 dX1_add_50 rfl rfl ?_
    refine q_getI 0 9 54 dX1_add_51 rfl fiX1_47 (Or.inl rfl) (obE hs2) ?_
    refine ex_goto 68 dX1_add_54 (by decide) ?_
    exact hyp
set_option maxRecDepth 4000 in
theorem uX1_add_68 {P : GS → Prop} (g0 : GS) (s0 : Nat) (hs0 : s0 < 18) (x1 : Int) (s2 : Nat) (hs2 : s2 < 18) (ss0 : Nat) (hss0 : ss0 < 18) (xs1 : Int) (hyp : ∀ g2 : GS, g2 = gI g0 (121 + 2 * ss0) 6 xs1 → (rng (g2.1 (121 + 2 * s0) 1) ∧ (¬ g2.1 (121 + 2 * s0) 1 = 0 → (rng (g2.1 (121 + 2 * s0) 7) ∧ rng (g2.1 (11 + 3 * s2) 5) ∧ ∀ g8 : GS, g8 = gI g2 (121 + 2 * s0) 7 (max (g2.1 (121 + 2 * s0) 7) (g2.1 (11 + 3 * s2) 5)) → (0 ≤ g8.1 (121 + 2 * s0) 1 ∧ g8.1 (121 + 2 * s0) 1 < 5 ∧ ∀ g13 : GS, g13 = gI g8 (122 + 2 * s0) (g8.1 (121 + 2 * s0) 1).toNat x1 → (∀ g16 : GS, g16 = gI g13 (121 + 2 * s0) 1 ((g13.1 (121 + 2 * s0) 1) + 1) → (rng (g16.1 (11 + 3 * s2) 4) ∧ (¬ g16.1 (11 + 3 * s2) 4 = 1 → (∀ g20 : GS, g20 = gI g16 (121 + 2 * s0) 2 ((g16.1 (121 + 2 * s0) 2) + 1) → (rng (g20.1 (11 + 3 * s2) 4) ∧ (¬ g20.1 (11 + 3 * s2) 4 = 0 → (∀ g24 : GS, g24 = gI g20 (121 + 2 * s0) 4 x1 → (P g24))) ∧ (g20.1 (11 + 3 * s2) 4 = 0 → (∀ g27 : GS, g27 = gI g20 (121 + 2 * s0) 3 x1 → (P g27)))))) ∧ (g16.1 (11 + 3 * s2) 4 = 1 → (P g16))))))) ∧ (g2.1 (121 + 2 * s0) 1 = 0 → (∀ g32 : GS, g32 = gI g2 (121 + 2 * s0) 7 (g2.1 (11 + 3 * s2) 5) → (0 ≤ g32.1 (121 + 2 * s0) 1 ∧ g32.1 (121 + 2 * s0) 1 < 5 ∧ ∀ g37 : GS, g37 = gI g32 (122 + 2 * s0) (g32.1 (121 + 2 * s0) 1).toNat x1 → (∀ g40 : GS, g40 = gI g37 (121 + 2 * s0) 1 ((g37.1 (121 + 2 * s0) 1) + 1) → (rng (g40.1 (11 + 3 * s2) 4) ∧ (¬ g40.1 (11 + 3 * s2) 4 = 1 → (∀ g44 : GS, g44 = gI g40 (121 + 2 * s0) 2 ((g40.1 (121 + 2 * s0) 2) + 1) → (rng (g44.1 (11 + 3 * s2) 4) ∧ (¬ g44.1 (11 + 3 * s2) 4 = 0 → (∀ g48 : GS, g48 = gI g44 (121 + 2 * s0) 4 x1 → (P g48))) ∧ (g44.1 (11 + 3 * s2) 4 = 0 → (∀ g51 : GS, g51 = gI g44 (121 + 2 * s0) 3 x1 → (P g51)))))) ∧ (g40.1 (11 + 3 * s2) 4 = 1 → (P g40))))))))) : XXv mX1_add 68 [some (vr (121 + 2 * s0)), some (vi x1), some (vr (11 + 3 * s2))] [vi xs1, vr (121 + 2 * ss0)] g0 P := by
  refine q_putI 1 6 71 dX1_add_68 rfl fiX1_35 ff1_6 rfl (obL hss0) (fun h1 e1 => ?_)
  obtain ⟨g2, eg3⟩ : ∃ z : GS, z = gI g0 (121 + 2 * ss0) 6 xs1 := ⟨_, rfl⟩
  have hyp := hyp g2 eg3
  obtain rfl : h1 = hX g2 := by rw [e1, eg3]; exact rfl
  clear e1
  refine ex_aload_n 72 dX1_add_71 rfl rfl ?_
  refine ex_aload_n 73 dX1_add_72 rfl rfl ?_
  refine q_getI 1 1 76 dX1_add_73 rfl fiX1_15 (Or.inl rfl) (obL hs0) ?_
  obtain ⟨o4, hyp⟩ := hyp
  obtain ⟨ht, hf⟩ := hyp
  refine ex_if_ne 86 79 dX1_add_76 (by decide) rfl o4 (fun c55 => ?_) (fun c55 => ?_)
  · have hyp := ht c55
    clear ht hf
    refine ex_aload_n 87 dX1_add_86 rfl rfl ?_
    refine q_getI 1 7 90 dX1_add_87 rfl fiX1_54 (Or.inl rfl) (obL hs0) ?_
    refine ex_aload_n 91 dX1_add_90 rfl rfl ?_
    refine q_getI 0 5 94 dX1_add_91 rfl fiX1_51 (Or.inl rfl) (obE hs2) ?_
    obtain ⟨o5, hyp⟩ := hyp
    obtain ⟨o6, hyp⟩ := hyp
    refine q_max 97 dX1_add_94 rfl mlX1_41 ⟨Nat.le_of_ble_eq_true rfl, Nat.le_of_ble_eq_true rfl⟩ o5 o6 ?_
    refine q_putI 1 7 100 dX1_add_97 rfl fiX1_54 ff1_7 rfl (obL hs0) (fun h1 e7 => ?_)
    obtain ⟨g8, eg9⟩ : ∃ z : GS, z = gI g2 (121 + 2 * s0) 7 (max (g2.1 (121 + 2 * s0) 7) (g2.1 (11 + 3 * s2) 5)) := ⟨_, rfl⟩
    have hyp := hyp g8 eg9
    obtain rfl : h1 = hX g8 := by rw [e7, eg9]; exact rfl
    clear e7
    refine ex_aload_n 101 dX1_add_100 rfl rfl ?_
    refine q_getR (a := (122 + 2 * s0)) 1 0 104 dX1_add_101 rfl fiX1_9 rfl (obL hs0) (rxM g8 hs0) ?_
    refine ex_aload_n 105 dX1_add_104 rfl rfl ?_
    refine q_getI 1 1 108 dX1_add_105 rfl fiX1_15 (Or.inl rfl) (obL hs0) ?_
    refine ex_iload_n 109 dX1_add_108 rfl rfl ?_
    obtain ⟨o10, hyp⟩ := hyp
    obtain ⟨o11, hyp⟩ := hyp
    refine ex_iast 110 dX1_add_109 rfl (ai_of (n := 5) (txQ _ hs0) o10 o11 (by decide)) (fun h1 e12 => ?_)
    obtain ⟨g13, eg14⟩ : ∃ z : GS, z = gI g8 (122 + 2 * s0) (g8.1 (121 + 2 * s0) 1).toNat x1 := ⟨_, rfl⟩
    have hyp := hyp g13 eg14
    obtain rfl : h1 = hX g13 := by rw [e12, eg14]; exact rfl
    clear e12
    refine ex_aload_n 111 dX1_add_110 rfl rfl ?_
    refine ex_dup 112 dX1_add_111 rfl rfl ?_
    refine q_getI 1 1 115 dX1_add_112 rfl fiX1_15 (Or.inl rfl) (obL hs0) ?_
    refine ex_iconst 116 dX1_add_115 rfl ?_
    refine ex_iadd 117 dX1_add_116 rfl ?_
    refine q_putI 1 1 120 dX1_add_117 rfl fiX1_15 ff1_1 rfl (obL hs0) (fun h1 e15 => ?_)
    obtain ⟨g16, eg17⟩ : ∃ z : GS, z = gI g13 (121 + 2 * s0) 1 ((g13.1 (121 + 2 * s0) 1) + 1) := ⟨_, rfl⟩
    have hyp := hyp g16 eg17
    obtain rfl : h1 = hX g16 := by rw [e15, eg17]; exact rfl
    clear e15
    refine ex_aload_n 121 dX1_add_120 rfl rfl ?_
    refine q_getI 0 4 124 dX1_add_121 rfl fiX1_57 (Or.inl rfl) (obE hs2) ?_
    refine ex_iconst 125 dX1_add_124 rfl ?_
    obtain ⟨o18, hyp⟩ := hyp
    obtain ⟨ht, hf⟩ := hyp
    refine ex_icmp_ne 129 128 dX1_add_125 (by decide) rfl o18 ⟨by decide, by decide⟩ (fun c30 => ?_) (fun c30 => ?_)
    · have hyp := ht c30
      clear ht hf
      refine ex_aload_n 130 dX1_add_129 rfl rfl ?_
      refine ex_dup 131 dX1_add_130 rfl rfl ?_
      refine q_getI 1 2 134 dX1_add_131 rfl fiX1_19 (Or.inl rfl) (obL hs0) ?_
      refine ex_iconst 135 dX1_add_134 rfl ?_
      refine ex_iadd 136 dX1_add_135 rfl ?_
      refine q_putI 1 2 139 dX1_add_136 rfl fiX1_19 ff1_2 rfl (obL hs0) (fun h1 e19 => ?_)
      obtain ⟨g20, eg21⟩ : ∃ z : GS, z = gI g16 (121 + 2 * s0) 2 ((g16.1 (121 + 2 * s0) 2) + 1) := ⟨_, rfl⟩
      have hyp := hyp g20 eg21
      obtain rfl : h1 = hX g20 := by rw [e19, eg21]; exact rfl
      clear e19
      refine ex_aload_n 140 dX1_add_139 rfl rfl ?_
      refine q_getI 0 4 143 dX1_add_140 rfl fiX1_57 (Or.inl rfl) (obE hs2) ?_
      obtain ⟨o22, hyp⟩ := hyp
      obtain ⟨ht, hf⟩ := hyp
      refine ex_if_ne 154 146 dX1_add_143 (by decide) rfl o22 (fun c29 => ?_) (fun c29 => ?_)
      · have hyp := ht c29
        clear ht hf
        refine ex_aload_n 155 dX1_add_154 rfl rfl ?_
        refine ex_iload_n 156 dX1_add_155 rfl rfl ?_
        refine q_putI 1 4 159 dX1_add_156 rfl fiX1_25 ff1_4 rfl (obL hs0) (fun h1 e23 => ?_)
        obtain ⟨g24, eg25⟩ : ∃ z : GS, z = gI g20 (121 + 2 * s0) 4 x1 := ⟨_, rfl⟩
        have hyp := hyp g24 eg25
        obtain rfl : h1 = hX g24 := by rw [e23, eg25]; exact rfl
        clear e23
        exact ex_vret dX1_add_159 rfl ⟨rfl, _, rfl, hyp⟩
      · have hyp := hf c29
        clear ht hf
        refine ex_aload_n 147 dX1_add_146 rfl rfl ?_
        refine ex_iload_n 148 dX1_add_147 rfl rfl ?_
        refine q_putI 1 3 151 dX1_add_148 rfl fiX1_22 ff1_3 rfl (obL hs0) (fun h1 e26 => ?_)
        obtain ⟨g27, eg28⟩ : ∃ z : GS, z = gI g20 (121 + 2 * s0) 3 x1 := ⟨_, rfl⟩
        have hyp := hyp g27 eg28
        obtain rfl : h1 = hX g27 := by rw [e26, eg28]; exact rfl
        clear e26
        refine ex_goto 159 dX1_add_151 (by decide) ?_
        exact ex_vret dX1_add_159 rfl ⟨rfl, _, rfl, hyp⟩
    · have hyp := hf c30
      clear ht hf
      exact ex_vret dX1_add_128 rfl ⟨rfl, _, rfl, hyp⟩
  · have hyp := hf c55
    clear ht hf
    refine ex_aload_n 80 dX1_add_79 rfl rfl ?_
    refine q_getI 0 5 83 dX1_add_80 rfl fiX1_51 (Or.inl rfl) (obE hs2) ?_
    refine ex_goto 97 dX1_add_83 (by decide) ?_
    refine q_putI 1 7 100 dX1_add_97 rfl fiX1_54 ff1_7 rfl (obL hs0) (fun h1 e31 => ?_)
    obtain ⟨g32, eg33⟩ : ∃ z : GS, z = gI g2 (121 + 2 * s0) 7 (g2.1 (11 + 3 * s2) 5) := ⟨_, rfl⟩
    have hyp := hyp g32 eg33
    obtain rfl : h1 = hX g32 := by rw [e31, eg33]; exact rfl
    clear e31
    refine ex_aload_n 101 dX1_add_100 rfl rfl ?_
    refine q_getR (a := (122 + 2 * s0)) 1 0 104 dX1_add_101 rfl fiX1_9 rfl (obL hs0) (rxM g32 hs0) ?_
    refine ex_aload_n 105 dX1_add_104 rfl rfl ?_
    refine q_getI 1 1 108 dX1_add_105 rfl fiX1_15 (Or.inl rfl) (obL hs0) ?_
    refine ex_iload_n 109 dX1_add_108 rfl rfl ?_
    obtain ⟨o34, hyp⟩ := hyp
    obtain ⟨o35, hyp⟩ := hyp
    refine ex_iast 110 dX1_add_109 rfl (ai_of (n := 5) (txQ _ hs0) o34 o35 (by decide)) (fun h1 e36 => ?_)
    obtain ⟨g37, eg38⟩ : ∃ z : GS, z = gI g32 (122 + 2 * s0) (g32.1 (121 + 2 * s0) 1).toNat x1 := ⟨_, rfl⟩
    have hyp := hyp g37 eg38
    obtain rfl : h1 = hX g37 := by rw [e36, eg38]; exact rfl
    clear e36
    refine ex_aload_n 111 dX1_add_110 rfl rfl ?_
    refine ex_dup 112 dX1_add_111 rfl rfl ?_
    refine q_getI 1 1 115 dX1_add_112 rfl fiX1_15 (Or.inl rfl) (obL hs0) ?_
    refine ex_iconst 116 dX1_add_115 rfl ?_
    refine ex_iadd 117 dX1_add_116 rfl ?_
    refine q_putI 1 1 120 dX1_add_117 rfl fiX1_15 ff1_1 rfl (obL hs0) (fun h1 e39 => ?_)
    obtain ⟨g40, eg41⟩ : ∃ z : GS, z = gI g37 (121 + 2 * s0) 1 ((g37.1 (121 + 2 * s0) 1) + 1) := ⟨_, rfl⟩
    have hyp := hyp g40 eg41
    obtain rfl : h1 = hX g40 := by rw [e39, eg41]; exact rfl
    clear e39
    refine ex_aload_n 121 dX1_add_120 rfl rfl ?_
    refine q_getI 0 4 124 dX1_add_121 rfl fiX1_57 (Or.inl rfl) (obE hs2) ?_
    refine ex_iconst 125 dX1_add_124 rfl ?_
    obtain ⟨o42, hyp⟩ := hyp
    obtain ⟨ht, hf⟩ := hyp
    refine ex_icmp_ne 129 128 dX1_add_125 (by decide) rfl o42 ⟨by decide, by decide⟩ (fun c54 => ?_) (fun c54 => ?_)
    · have hyp := ht c54
      clear ht hf
      refine ex_aload_n 130 dX1_add_129 rfl rfl ?_
      refine ex_dup 131 dX1_add_130 rfl rfl ?_
      refine q_getI 1 2 134 dX1_add_131 rfl fiX1_19 (Or.inl rfl) (obL hs0) ?_
      refine ex_iconst 135 dX1_add_134 rfl ?_
      refine ex_iadd 136 dX1_add_135 rfl ?_
      refine q_putI 1 2 139 dX1_add_136 rfl fiX1_19 ff1_2 rfl (obL hs0) (fun h1 e43 => ?_)
      obtain ⟨g44, eg45⟩ : ∃ z : GS, z = gI g40 (121 + 2 * s0) 2 ((g40.1 (121 + 2 * s0) 2) + 1) := ⟨_, rfl⟩
      have hyp := hyp g44 eg45
      obtain rfl : h1 = hX g44 := by rw [e43, eg45]; exact rfl
      clear e43
      refine ex_aload_n 140 dX1_add_139 rfl rfl ?_
      refine q_getI 0 4 143 dX1_add_140 rfl fiX1_57 (Or.inl rfl) (obE hs2) ?_
      obtain ⟨o46, hyp⟩ := hyp
      obtain ⟨ht, hf⟩ := hyp
      refine ex_if_ne 154 146 dX1_add_143 (by decide) rfl o46 (fun c53 => ?_) (fun c53 => ?_)
      · have hyp := ht c53
        clear ht hf
        refine ex_aload_n 155 dX1_add_154 rfl rfl ?_
        refine ex_iload_n 156 dX1_add_155 rfl rfl ?_
        refine q_putI 1 4 159 dX1_add_156 rfl fiX1_25 ff1_4 rfl (obL hs0) (fun h1 e47 => ?_)
        obtain ⟨g48, eg49⟩ : ∃ z : GS, z = gI g44 (121 + 2 * s0) 4 x1 := ⟨_, rfl⟩
        have hyp := hyp g48 eg49
        obtain rfl : h1 = hX g48 := by rw [e47, eg49]; exact rfl
        clear e47
        exact ex_vret dX1_add_159 rfl ⟨rfl, _, rfl, hyp⟩
      · have hyp := hf c53
        clear ht hf
        refine ex_aload_n 147 dX1_add_146 rfl rfl ?_
        refine ex_iload_n 148 dX1_add_147 rfl rfl ?_
        refine q_putI 1 3 151 dX1_add_148 rfl fiX1_22 ff1_3 rfl (obL hs0) (fun h1 e50 => ?_)
        obtain ⟨g51, eg52⟩ : ∃ z : GS, z = gI g44 (121 + 2 * s0) 3 x1 := ⟨_, rfl⟩
        have hyp := hyp g51 eg52
        obtain rfl : h1 = hX g51 := by rw [e50, eg52]; exact rfl
        clear e50
        refine ex_goto 159 dX1_add_151 (by decide) ?_
        exact ex_vret dX1_add_159 rfl ⟨rfl, _, rfl, hyp⟩
    · have hyp := hf c54
      clear ht hf
      exact ex_vret dX1_add_128 rfl ⟨rfl, _, rfl, hyp⟩
set_option maxRecDepth 4000 in
theorem uX3_settle {P : GS → Prop} (g0 : GS)  (hyp : MXv mX3_list [vr 104, vr 8] g0 (fun g1 => XXv mX3_settle 12 [some (vr 104), none, some (vr 65), some (vi ((g1.1 104 5) - 1)), none] [] g1 P)) : MXv mX3_settle [vr 104, vr 8, vr 65] g0 P := by
  refine met_of_ex (by decide +kernel) (Nat.le_of_ble_eq_true rfl) ?_
  show EX mX3_settle 0 [some (vr 104), some (vr 8), some (vr 65), none, none] [] (hX g0) (0, 0) _
  refine ex_aload_n 1 dX3_settle_0 rfl rfl ?_
  refine ex_aload_n 2 dX3_settle_1 rfl rfl ?_
  refine s_callVv [vr 8] 5 dX3_settle_2 rfl cvX3_26 rfl rfl ⟨Nat.le_of_ble_eq_true rfl, Nat.le_of_ble_eq_true rfl⟩ (Nat.le_of_ble_eq_true rfl) ⟨_, rfl⟩ hyp (fun h1 hq => ?_)
  obtain ⟨g1, rfl, hyp⟩ := hq
  refine ex_aload_n 6 dX3_settle_5 rfl rfl ?_
  refine q_getI 3 5 9 dX3_settle_6 rfl fiX3_30 (Or.inl rfl) ⟨_, rfl⟩ ?_
  refine ex_iconst 10 dX3_settle_9 rfl ?_
  refine ex_isub 11 dX3_settle_10 rfl ?_
  refine q_istore_n [some (vr 104), some (vr 8), some (vr 65), some (vi ((g1.1 104 5) - 1)), none] 12 dX3_settle_11 rfl (Nat.le_of_ble_eq_true rfl) rfl rfl ?_
  refine ex_dropL (ls' := [some (vr 104), none, some (vr 65), some (vi ((g1.1 104 5) - 1)), none]) 1 rfl ?_
  exact hyp
set_option maxRecDepth 4000 in
theorem uX3_settle_12 {P : GS → Prop} (g0 : GS) (x3 : Int) (hyp : rng x3 ∧ (x3 < 0 → (MXv mX3_choose [vr 104, vr 65] g0 (fun g2 => P g2))) ∧ (0 ≤ x3 → (XXv mX3_settle 19 [some (vr 104), none, some (vr 65), some (vi x3), some (vi 0)] [] g0 P))) : XXv mX3_settle 12 [some (vr 104), none, some (vr 65), some (vi x3), none] [] g0 P := by
  refine ex_iload_n 13 dX3_settle_12 rfl rfl ?_
  obtain ⟨o1, hyp⟩ := hyp
  obtain ⟨ht, hf⟩ := hyp
  refine ex_if_lt 59 16 dX3_settle_13 (by decide) rfl o1 (fun c3 => ?_) (fun c3 => ?_)
  · have hyp := ht c3
    clear ht hf
    refine ex_aload_n 60 dX3_settle_59 rfl rfl ?_
    refine ex_aload_n 61 dX3_settle_60 rfl rfl ?_
    refine s_callVv [vr 65] 64 dX3_settle_61 rfl cvX3_41 rfl rfl ⟨Nat.le_of_ble_eq_true rfl, Nat.le_of_ble_eq_true rfl⟩ (Nat.le_of_ble_eq_true rfl) ⟨_, rfl⟩ hyp (fun h1 hq => ?_)
    obtain ⟨g2, rfl, hyp⟩ := hq
    exact ex_vret dX3_settle_64 rfl ⟨rfl, _, rfl, hyp⟩
  · have hyp := hf c3
    clear ht hf
    refine ex_iconst 17 dX3_settle_16 rfl ?_
    refine q_istore [some (vr 104), none, some (vr 65), some (vi x3), some (vi 0)] 19 dX3_settle_17 rfl (Nat.le_of_ble_eq_true rfl) rfl rfl ?_
    exact hyp
set_option maxRecDepth 4000 in
theorem uX3_settle_19 {P : GS → Prop} (g0 : GS) (x3 : Int) (x4 : Int) (hyp : rng x4 ∧ rng (b_shl 1 (g0.1 104 6)) ∧ (b_shl 1 (g0.1 104 6) ≤ x4 → (XXv mX3_settle 12 [some (vr 104), none, some (vr 65), some (vi (x3 + (-1))), none] [] g0 P)) ∧ (x4 < b_shl 1 (g0.1 104 6) → (0 ≤ x3 ∧ x3 < 8 ∧ MXi mX3_bestFrom [vr 104, vi x3, vi x4, vr 65] g0 (fun y6 g5 => 0 ≤ x4 ∧ x4 < 128 ∧ ∀ g10 : GS, g10 = gI g5 (109 + (x3).toNat) (x4).toNat y6 → (XXv mX3_settle 19 [some (vr 104), none, some (vr 65), some (vi x3), some (vi (x4 + 1))] [] g10 P))))) : XXv mX3_settle 19 [some (vr 104), none, some (vr 65), some (vi x3), some (vi x4)] [] g0 P := by
  refine ex_iload 21 dX3_settle_19 rfl rfl ?_
  refine ex_iconst 22 dX3_settle_21 rfl ?_
  refine ex_aload_n 23 dX3_settle_22 rfl rfl ?_
  refine q_getI 3 6 26 dX3_settle_23 rfl fiX3_34 (Or.inl rfl) ⟨_, rfl⟩ ?_
  refine ex_ishl 27 dX3_settle_26 rfl ?_
  obtain ⟨o1, hyp⟩ := hyp
  obtain ⟨o2, hyp⟩ := hyp
  obtain ⟨ht, hf⟩ := hyp
  refine ex_icmp_ge 53 30 dX3_settle_27 (by decide) rfl o1 o2 (fun c12 => ?_) (fun c12 => ?_)
  · have hyp := ht c12
    clear ht hf
    refine q_iinc [some (vr 104), none, some (vr 65), some (vi (x3 + (-1))), some (vi x4)] 56 dX3_settle_53 rfl rfl (Nat.le_of_ble_eq_true rfl) rfl rfl ?_
    refine ex_goto 12 dX3_settle_56 (by decide) ?_
    refine ex_dropL (ls' := [some (vr 104), none, some (vr 65), some (vi (x3 + (-1))), none]) 4 rfl ?_
    exact hyp
  · have hyp := hf c12
    clear ht hf
    refine ex_aload_n 31 dX3_settle_30 rfl rfl ?_
    refine q_getR (a := 108) 3 7 34 dX3_settle_31 rfl fiX3_23 rfl ⟨_, rfl⟩ rfl ?_
    refine ex_iload_n 35 dX3_settle_34 rfl rfl ?_
    obtain ⟨o3, hyp⟩ := hyp
    obtain ⟨o4, hyp⟩ := hyp
    refine ex_aald (a := (109 + (x3).toNat)) 23 36 dX3_settle_35 rfl (by decide) (ai_of (n := 8) rfl o3 o4 (by decide)) (rxB g0 (ltN (n := 8) o3 o4)) ?_
    refine ex_iload 38 dX3_settle_36 rfl rfl ?_
    refine ex_aload_n 39 dX3_settle_38 rfl rfl ?_
    refine ex_iload_n 40 dX3_settle_39 rfl rfl ?_
    refine ex_iload 42 dX3_settle_40 rfl rfl ?_
    refine ex_aload_n 43 dX3_settle_42 rfl rfl ?_
    refine s_callVi [vi x3, vi x4, vr 65] 46 dX3_settle_43 rfl cvX3_37 rfl rfl ⟨Nat.le_of_ble_eq_true rfl, Nat.le_of_ble_eq_true rfl⟩ (Nat.le_of_ble_eq_true rfl) ⟨_, rfl⟩ hyp (fun y6 h1 hq => ?_)
    obtain ⟨g5, rfl, hyp⟩ := hq
    obtain ⟨o7, hyp⟩ := hyp
    obtain ⟨o8, hyp⟩ := hyp
    refine ex_iast 47 dX3_settle_46 rfl (ai_of (n := 128) (txB _ (ltN (n := 8) o3 o4)) o7 o8 (by decide)) (fun h1 e9 => ?_)
    obtain ⟨g10, eg11⟩ : ∃ z : GS, z = gI g5 (109 + (x3).toNat) (x4).toNat y6 := ⟨_, rfl⟩
    have hyp := hyp g10 eg11
    obtain rfl : h1 = hX g10 := by rw [e9, eg11]; exact rfl
    clear e9
    refine q_iinc [some (vr 104), none, some (vr 65), some (vi x3), some (vi (x4 + 1))] 50 dX3_settle_47 rfl rfl (Nat.le_of_ble_eq_true rfl) rfl rfl ?_
    refine ex_goto 19 dX3_settle_50 (by decide) ?_
    exact hyp
set_option maxRecDepth 4000 in
theorem uX3_list {P : GS → Prop} (g0 : GS)  (hyp : ∀ g2 : GS, g2 = gI g0 104 5 0 → (∀ g5 : GS, g5 = gI g2 104 6 0 → (XXv mX3_list 12 [some (vr 104), some (vr 8), some (vi 0), none] [] g5 P))) : MXv mX3_list [vr 104, vr 8] g0 P := by
  refine met_of_ex (by decide +kernel) (Nat.le_of_ble_eq_true rfl) ?_
  show EX mX3_list 0 [some (vr 104), some (vr 8), none, none] [] (hX g0) (0, 0) _
  refine ex_aload_n 1 dX3_list_0 rfl rfl ?_
  refine ex_iconst 2 dX3_list_1 rfl ?_
  refine q_putI 3 5 5 dX3_list_2 rfl fiX3_30 ff3_5 rfl ⟨_, rfl⟩ (fun h1 e1 => ?_)
  obtain ⟨g2, eg3⟩ : ∃ z : GS, z = gI g0 104 5 0 := ⟨_, rfl⟩
  have hyp := hyp g2 eg3
  obtain rfl : h1 = hX g2 := by rw [e1, eg3]; exact rfl
  clear e1
  refine ex_aload_n 6 dX3_list_5 rfl rfl ?_
  refine ex_iconst 7 dX3_list_6 rfl ?_
  refine q_putI 3 6 10 dX3_list_7 rfl fiX3_34 ff3_6 rfl ⟨_, rfl⟩ (fun h1 e4 => ?_)
  obtain ⟨g5, eg6⟩ : ∃ z : GS, z = gI g2 104 6 0 := ⟨_, rfl⟩
  have hyp := hyp g5 eg6
  obtain rfl : h1 = hX g5 := by rw [e4, eg6]; exact rfl
  clear e4
  refine ex_iconst 11 dX3_list_10 rfl ?_
  refine q_istore_n [some (vr 104), some (vr 8), some (vi 0), none] 12 dX3_list_11 rfl (Nat.le_of_ble_eq_true rfl) rfl rfl ?_
  exact hyp
set_option maxRecDepth 4000 in
theorem uX3_list_12 {P : GS → Prop} (g0 : GS) (x2 : Int) (hyp : rng x2 ∧ rng (g0.1 8 2) ∧ (g0.1 8 2 ≤ x2 → (XXv mX3_list 115 [some (vr 104), none, some (vi 0), none] [] g0 P)) ∧ (x2 < g0.1 8 2 → (0 ≤ x2 ∧ x2 < 18 ∧ ∀ g6 : GS, g6 = gI g0 105 (x2).toNat (-1) → (g6.2.1 (x2).toNat < 18 ∧ rng (g6.1 (11 + 3 * (g6.2.1 (x2).toNat)) 4) ∧ (¬ g6.1 (11 + 3 * (g6.2.1 (x2).toNat)) 4 = 0 → ((¬ g6.1 (11 + 3 * (g6.2.1 (x2).toNat)) 4 = 2 → (XXv mX3_list 12 [some (vr 104), some (vr 8), some (vi (x2 + 1)), none] [] g6 P)) ∧ (g6.1 (11 + 3 * (g6.2.1 (x2).toNat)) 4 = 2 → (rng (g6.1 104 6) ∧ (7 ≤ g6.1 104 6 → (XXv mX3_list 12 [some (vr 104), some (vr 8), some (vi (x2 + 1)), none] [] g6 P)) ∧ (g6.1 104 6 < 7 → (0 ≤ g6.1 104 6 ∧ g6.1 104 6 < 7 ∧ ∀ g14 : GS, g14 = gI g6 107 (g6.1 104 6).toNat x2 → (∀ g17 : GS, g17 = gI g14 104 6 ((g14.1 104 6) + 1) → (XXv mX3_list 12 [some (vr 104), some (vr 8), some (vi (x2 + 1)), none] [] g17 P)))))))) ∧ (g6.1 (11 + 3 * (g6.2.1 (x2).toNat)) 4 = 0 → (rng (g6.1 104 5) ∧ (7 ≤ g6.1 104 5 → ((¬ g6.1 (11 + 3 * (g6.2.1 (x2).toNat)) 4 = 2 → (XXv mX3_list 12 [some (vr 104), some (vr 8), some (vi (x2 + 1)), none] [] g6 P)) ∧ (g6.1 (11 + 3 * (g6.2.1 (x2).toNat)) 4 = 2 → (rng (g6.1 104 6) ∧ (7 ≤ g6.1 104 6 → (XXv mX3_list 12 [some (vr 104), some (vr 8), some (vi (x2 + 1)), none] [] g6 P)) ∧ (g6.1 104 6 < 7 → (0 ≤ g6.1 104 6 ∧ g6.1 104 6 < 7 ∧ ∀ g26 : GS, g26 = gI g6 107 (g6.1 104 6).toNat x2 → (∀ g29 : GS, g29 = gI g26 104 6 ((g26.1 104 6) + 1) → (XXv mX3_list 12 [some (vr 104), some (vr 8), some (vi (x2 + 1)), none] [] g29 P)))))))) ∧ (g6.1 104 5 < 7 → (0 ≤ g6.1 104 5 ∧ g6.1 104 5 < 7 ∧ ∀ g36 : GS, g36 = gI g6 106 (g6.1 104 5).toNat x2 → (∀ g39 : GS, g39 = gI g36 104 5 ((g36.1 104 5) + 1) → (XXv mX3_list 12 [some (vr 104), some (vr 8), some (vi (x2 + 1)), none] [] g39 P)))))))))) : XXv mX3_list 12 [some (vr 104), some (vr 8), some (vi x2), none] [] g0 P := by
  refine ex_iload_n 13 dX3_list_12 rfl rfl ?_
  refine ex_aload_n 14 dX3_list_13 rfl rfl ?_
  refine q_getI 8 2 17 dX3_list_14 rfl fiX3_45 (Or.inl rfl) ⟨_, rfl⟩ ?_
  obtain ⟨o1, hyp⟩ := hyp
  obtain ⟨o2, hyp⟩ := hyp
  obtain ⟨ht, hf⟩ := hyp
  refine ex_icmp_ge 113 20 dX3_list_17 (by decide) rfl o1 o2 (fun c43 => ?_) (fun c43 => ?_)
  · have hyp := ht c43
    clear ht hf
    refine ex_iconst 114 dX3_list_113 rfl ?_
    refine q_istore_n [some (vr 104), some (vr 8), some (vi 0), none] 115 dX3_list_114 rfl (Nat.le_of_ble_eq_true rfl) rfl rfl ?_
    refine ex_dropL (ls' := [some (vr 104), none, some (vi 0), none]) 1 rfl ?_
    exact hyp
  · have hyp := hf c43
    clear ht hf
    refine ex_aload_n 21 dX3_list_20 rfl rfl ?_
    refine q_getR (a := 105) 3 0 24 dX3_list_21 rfl fiX3_9 rfl ⟨_, rfl⟩ rfl ?_
    refine ex_iload_n 25 dX3_list_24 rfl rfl ?_
    refine ex_iconst 26 dX3_list_25 rfl ?_
    obtain ⟨o3, hyp⟩ := hyp
    obtain ⟨o4, hyp⟩ := hyp
    refine ex_iast 27 dX3_list_26 rfl (ai_of (n := 18) rfl o3 o4 (by decide)) (fun h1 e5 => ?_)
    obtain ⟨g6, eg7⟩ : ∃ z : GS, z = gI g0 105 (x2).toNat (-1) := ⟨_, rfl⟩
    have hyp := hyp g6 eg7
    obtain rfl : h1 = hX g6 := by rw [e5, eg7]; exact rfl
    clear e5
    refine ex_aload_n 28 dX3_list_27 rfl rfl ?_
    refine q_getR (a := 9) 8 0 31 dX3_list_28 rfl fiX3_50 rfl ⟨_, rfl⟩ rfl ?_
    refine ex_iload_n 32 dX3_list_31 rfl rfl ?_
    obtain ⟨o8, hyp⟩ := hyp
    refine ex_aald (a := (11 + 3 * (g6.2.1 (x2).toNat))) 21 33 dX3_list_32 rfl (by decide) (ai_of (n := 18) rfl o3 o4 (by decide)) (rxR g6 (ltN (n := 18) o3 o4)) ?_
    refine q_getI 0 4 36 dX3_list_33 rfl fiX3_54 (Or.inl rfl) (obE o8) ?_
    refine q_istore_n [some (vr 104), some (vr 8), some (vi x2), some (vi (g6.1 (11 + 3 * (g6.2.1 (x2).toNat)) 4))] 37 dX3_list_36 rfl (Nat.le_of_ble_eq_true rfl) rfl rfl ?_
    refine ex_iload_n 38 dX3_list_37 rfl rfl ?_
    obtain ⟨o9, hyp⟩ := hyp
    obtain ⟨ht, hf⟩ := hyp
    refine ex_if_ne 73 41 dX3_list_38 (by decide) rfl o9 (fun c42 => ?_) (fun c42 => ?_)
    · have hyp := ht c42
      clear ht hf
      refine ex_iload_n 74 dX3_list_73 rfl rfl ?_
      refine ex_iconst 75 dX3_list_74 rfl ?_
      obtain ⟨ht, hf⟩ := hyp
      refine ex_icmp_ne 107 78 dX3_list_75 (by decide) rfl o9 ⟨by decide, by decide⟩ (fun c20 => ?_) (fun c20 => ?_)
      · have hyp := ht c20
        clear ht hf
        refine q_iinc [some (vr 104), some (vr 8), some (vi (x2 + 1)), some (vi (g6.1 (11 + 3 * (g6.2.1 (x2).toNat)) 4))] 110 dX3_list_107 rfl rfl (Nat.le_of_ble_eq_true rfl) rfl rfl ?_
        refine ex_goto 12 dX3_list_110 (by decide) ?_
        refine ex_dropL (ls' := [some (vr 104), some (vr 8), some (vi (x2 + 1)), none]) 3 rfl ?_
        exact hyp
      · have hyp := hf c20
        clear ht hf
        refine ex_aload_n 79 dX3_list_78 rfl rfl ?_
        refine q_getI 3 6 82 dX3_list_79 rfl fiX3_34 (Or.inl rfl) ⟨_, rfl⟩ ?_
        refine ex_bipush 84 dX3_list_82 rfl ⟨by decide, by decide⟩ ?_
        obtain ⟨o10, hyp⟩ := hyp
        obtain ⟨ht, hf⟩ := hyp
        refine ex_icmp_ge 107 87 dX3_list_84 (by decide) rfl o10 ⟨by decide, by decide⟩ (fun c19 => ?_) (fun c19 => ?_)
        · have hyp := ht c19
          clear ht hf
          refine q_iinc [some (vr 104), some (vr 8), some (vi (x2 + 1)), some (vi (g6.1 (11 + 3 * (g6.2.1 (x2).toNat)) 4))] 110 dX3_list_107 rfl rfl (Nat.le_of_ble_eq_true rfl) rfl rfl ?_
          refine ex_goto 12 dX3_list_110 (by decide) ?_
          refine ex_dropL (ls' := [some (vr 104), some (vr 8), some (vi (x2 + 1)), none]) 3 rfl ?_
          exact hyp
        · have hyp := hf c19
          clear ht hf
          refine ex_aload_n 88 dX3_list_87 rfl rfl ?_
          refine q_getR (a := 107) 3 4 91 dX3_list_88 rfl fiX3_18 rfl ⟨_, rfl⟩ rfl ?_
          refine ex_aload_n 92 dX3_list_91 rfl rfl ?_
          refine q_getI 3 6 95 dX3_list_92 rfl fiX3_34 (Or.inl rfl) ⟨_, rfl⟩ ?_
          refine ex_iload_n 96 dX3_list_95 rfl rfl ?_
          obtain ⟨o11, hyp⟩ := hyp
          obtain ⟨o12, hyp⟩ := hyp
          refine ex_iast 97 dX3_list_96 rfl (ai_of (n := 7) rfl o11 o12 (by decide)) (fun h1 e13 => ?_)
          obtain ⟨g14, eg15⟩ : ∃ z : GS, z = gI g6 107 (g6.1 104 6).toNat x2 := ⟨_, rfl⟩
          have hyp := hyp g14 eg15
          obtain rfl : h1 = hX g14 := by rw [e13, eg15]; exact rfl
          clear e13
          refine ex_aload_n 98 dX3_list_97 rfl rfl ?_
          refine ex_dup 99 dX3_list_98 rfl rfl ?_
          refine q_getI 3 6 102 dX3_list_99 rfl fiX3_34 (Or.inl rfl) ⟨_, rfl⟩ ?_
          refine ex_iconst 103 dX3_list_102 rfl ?_
          refine ex_iadd 104 dX3_list_103 rfl ?_
          refine q_putI 3 6 107 dX3_list_104 rfl fiX3_34 ff3_6 rfl ⟨_, rfl⟩ (fun h1 e16 => ?_)
          obtain ⟨g17, eg18⟩ : ∃ z : GS, z = gI g14 104 6 ((g14.1 104 6) + 1) := ⟨_, rfl⟩
          have hyp := hyp g17 eg18
          obtain rfl : h1 = hX g17 := by rw [e16, eg18]; exact rfl
          clear e16
          refine q_iinc [some (vr 104), some (vr 8), some (vi (x2 + 1)), some (vi (g6.1 (11 + 3 * (g6.2.1 (x2).toNat)) 4))] 110 dX3_list_107 rfl rfl (Nat.le_of_ble_eq_true rfl) rfl rfl ?_
          refine ex_goto 12 dX3_list_110 (by decide) ?_
          refine ex_dropL (ls' := [some (vr 104), some (vr 8), some (vi (x2 + 1)), none]) 3 rfl ?_
          exact hyp
    · have hyp := hf c42
      clear ht hf
      refine ex_aload_n 42 dX3_list_41 rfl rfl ?_
      refine q_getI 3 5 45 dX3_list_42 rfl fiX3_30 (Or.inl rfl) ⟨_, rfl⟩ ?_
      refine ex_bipush 47 dX3_list_45 rfl ⟨by decide, by decide⟩ ?_
      obtain ⟨o21, hyp⟩ := hyp
      obtain ⟨ht, hf⟩ := hyp
      refine ex_icmp_ge 73 50 dX3_list_47 (by decide) rfl o21 ⟨by decide, by decide⟩ (fun c41 => ?_) (fun c41 => ?_)
      · have hyp := ht c41
        clear ht hf
        refine ex_iload_n 74 dX3_list_73 rfl rfl ?_
        refine ex_iconst 75 dX3_list_74 rfl ?_
        obtain ⟨ht, hf⟩ := hyp
        refine ex_icmp_ne 107 78 dX3_list_75 (by decide) rfl o9 ⟨by decide, by decide⟩ (fun c32 => ?_) (fun c32 => ?_)
        · have hyp := ht c32
          clear ht hf
          refine q_iinc [some (vr 104), some (vr 8), some (vi (x2 + 1)), some (vi (g6.1 (11 + 3 * (g6.2.1 (x2).toNat)) 4))] 110 dX3_list_107 rfl rfl (Nat.le_of_ble_eq_true rfl) rfl rfl ?_
          refine ex_goto 12 dX3_list_110 (by decide) ?_
          refine ex_dropL (ls' := [some (vr 104), some (vr 8), some (vi (x2 + 1)), none]) 3 rfl ?_
          exact hyp
        · have hyp := hf c32
          clear ht hf
          refine ex_aload_n 79 dX3_list_78 rfl rfl ?_
          refine q_getI 3 6 82 dX3_list_79 rfl fiX3_34 (Or.inl rfl) ⟨_, rfl⟩ ?_
          refine ex_bipush 84 dX3_list_82 rfl ⟨by decide, by decide⟩ ?_
          obtain ⟨o22, hyp⟩ := hyp
          obtain ⟨ht, hf⟩ := hyp
          refine ex_icmp_ge 107 87 dX3_list_84 (by decide) rfl o22 ⟨by decide, by decide⟩ (fun c31 => ?_) (fun c31 => ?_)
          · have hyp := ht c31
            clear ht hf
            refine q_iinc [some (vr 104), some (vr 8), some (vi (x2 + 1)), some (vi (g6.1 (11 + 3 * (g6.2.1 (x2).toNat)) 4))] 110 dX3_list_107 rfl rfl (Nat.le_of_ble_eq_true rfl) rfl rfl ?_
            refine ex_goto 12 dX3_list_110 (by decide) ?_
            refine ex_dropL (ls' := [some (vr 104), some (vr 8), some (vi (x2 + 1)), none]) 3 rfl ?_
            exact hyp
          · have hyp := hf c31
            clear ht hf
            refine ex_aload_n 88 dX3_list_87 rfl rfl ?_
            refine q_getR (a := 107) 3 4 91 dX3_list_88 rfl fiX3_18 rfl ⟨_, rfl⟩ rfl ?_
            refine ex_aload_n 92 dX3_list_91 rfl rfl ?_
            refine q_getI 3 6 95 dX3_list_92 rfl fiX3_34 (Or.inl rfl) ⟨_, rfl⟩ ?_
            refine ex_iload_n 96 dX3_list_95 rfl rfl ?_
            obtain ⟨o23, hyp⟩ := hyp
            obtain ⟨o24, hyp⟩ := hyp
            refine ex_iast 97 dX3_list_96 rfl (ai_of (n := 7) rfl o23 o24 (by decide)) (fun h1 e25 => ?_)
            obtain ⟨g26, eg27⟩ : ∃ z : GS, z = gI g6 107 (g6.1 104 6).toNat x2 := ⟨_, rfl⟩
            have hyp := hyp g26 eg27
            obtain rfl : h1 = hX g26 := by rw [e25, eg27]; exact rfl
            clear e25
            refine ex_aload_n 98 dX3_list_97 rfl rfl ?_
            refine ex_dup 99 dX3_list_98 rfl rfl ?_
            refine q_getI 3 6 102 dX3_list_99 rfl fiX3_34 (Or.inl rfl) ⟨_, rfl⟩ ?_
            refine ex_iconst 103 dX3_list_102 rfl ?_
            refine ex_iadd 104 dX3_list_103 rfl ?_
            refine q_putI 3 6 107 dX3_list_104 rfl fiX3_34 ff3_6 rfl ⟨_, rfl⟩ (fun h1 e28 => ?_)
            obtain ⟨g29, eg30⟩ : ∃ z : GS, z = gI g26 104 6 ((g26.1 104 6) + 1) := ⟨_, rfl⟩
            have hyp := hyp g29 eg30
            obtain rfl : h1 = hX g29 := by rw [e28, eg30]; exact rfl
            clear e28
            refine q_iinc [some (vr 104), some (vr 8), some (vi (x2 + 1)), some (vi (g6.1 (11 + 3 * (g6.2.1 (x2).toNat)) 4))] 110 dX3_list_107 rfl rfl (Nat.le_of_ble_eq_true rfl) rfl rfl ?_
            refine ex_goto 12 dX3_list_110 (by decide) ?_
            refine ex_dropL (ls' := [some (vr 104), some (vr 8), some (vi (x2 + 1)), none]) 3 rfl ?_
            exact hyp
      · have hyp := hf c41
        clear ht hf
        refine ex_aload_n 51 dX3_list_50 rfl rfl ?_
        refine q_getR (a := 106) 3 3 54 dX3_list_51 rfl fiX3_15 rfl ⟨_, rfl⟩ rfl ?_
        refine ex_aload_n 55 dX3_list_54 rfl rfl ?_
        refine q_getI 3 5 58 dX3_list_55 rfl fiX3_30 (Or.inl rfl) ⟨_, rfl⟩ ?_
        refine ex_iload_n 59 dX3_list_58 rfl rfl ?_
        obtain ⟨o33, hyp⟩ := hyp
        obtain ⟨o34, hyp⟩ := hyp
        refine ex_iast 60 dX3_list_59 rfl (ai_of (n := 7) rfl o33 o34 (by decide)) (fun h1 e35 => ?_)
        obtain ⟨g36, eg37⟩ : ∃ z : GS, z = gI g6 106 (g6.1 104 5).toNat x2 := ⟨_, rfl⟩
        have hyp := hyp g36 eg37
        obtain rfl : h1 = hX g36 := by rw [e35, eg37]; exact rfl
        clear e35
        refine ex_aload_n 61 dX3_list_60 rfl rfl ?_
        refine ex_dup 62 dX3_list_61 rfl rfl ?_
        refine q_getI 3 5 65 dX3_list_62 rfl fiX3_30 (Or.inl rfl) ⟨_, rfl⟩ ?_
        refine ex_iconst 66 dX3_list_65 rfl ?_
        refine ex_iadd 67 dX3_list_66 rfl ?_
        refine q_putI 3 5 70 dX3_list_67 rfl fiX3_30 ff3_5 rfl ⟨_, rfl⟩ (fun h1 e38 => ?_)
        obtain ⟨g39, eg40⟩ : ∃ z : GS, z = gI g36 104 5 ((g36.1 104 5) + 1) := ⟨_, rfl⟩
        have hyp := hyp g39 eg40
        obtain rfl : h1 = hX g39 := by rw [e38, eg40]; exact rfl
        clear e38
        refine ex_goto 107 dX3_list_70 (by decide) ?_
        refine q_iinc [some (vr 104), some (vr 8), some (vi (x2 + 1)), some (vi (g6.1 (11 + 3 * (g6.2.1 (x2).toNat)) 4))] 110 dX3_list_107 rfl rfl (Nat.le_of_ble_eq_true rfl) rfl rfl ?_
        refine ex_goto 12 dX3_list_110 (by decide) ?_
        refine ex_dropL (ls' := [some (vr 104), some (vr 8), some (vi (x2 + 1)), none]) 3 rfl ?_
        exact hyp
set_option maxRecDepth 4000 in
theorem uX3_list_115 {P : GS → Prop} (g0 : GS) (x2 : Int) (hyp : rng x2 ∧ rng (b_shl 1 (g0.1 104 6)) ∧ (b_shl 1 (g0.1 104 6) ≤ x2 → (P g0)) ∧ (x2 < b_shl 1 (g0.1 104 6) → (0 ≤ g0.1 104 5 ∧ g0.1 104 5 < 8 ∧ 0 ≤ x2 ∧ x2 < 128 ∧ ∀ g8 : GS, g8 = gI g0 (109 + (g0.1 104 5).toNat) (x2).toNat 0 → (XXv mX3_list 115 [some (vr 104), none, some (vi (x2 + 1)), none] [] g8 P)))) : XXv mX3_list 115 [some (vr 104), none, some (vi x2), none] [] g0 P := by
  refine ex_iload_n 116 dX3_list_115 rfl rfl ?_
  refine ex_iconst 117 dX3_list_116 rfl ?_
  refine ex_aload_n 118 dX3_list_117 rfl rfl ?_
  refine q_getI 3 6 121 dX3_list_118 rfl fiX3_34 (Or.inl rfl) ⟨_, rfl⟩ ?_
  refine ex_ishl 122 dX3_list_121 rfl ?_
  obtain ⟨o1, hyp⟩ := hyp
  obtain ⟨o2, hyp⟩ := hyp
  obtain ⟨ht, hf⟩ := hyp
  refine ex_icmp_ge 143 125 dX3_list_122 (by decide) rfl o1 o2 (fun c10 => ?_) (fun c10 => ?_)
  · have hyp := ht c10
    clear ht hf
    exact ex_vret dX3_list_143 rfl ⟨rfl, _, rfl, hyp⟩
  · have hyp := hf c10
    clear ht hf
    refine ex_aload_n 126 dX3_list_125 rfl rfl ?_
    refine q_getR (a := 108) 3 7 129 dX3_list_126 rfl fiX3_23 rfl ⟨_, rfl⟩ rfl ?_
    refine ex_aload_n 130 dX3_list_129 rfl rfl ?_
    refine q_getI 3 5 133 dX3_list_130 rfl fiX3_30 (Or.inl rfl) ⟨_, rfl⟩ ?_
    obtain ⟨o3, hyp⟩ := hyp
    obtain ⟨o4, hyp⟩ := hyp
    refine ex_aald (a := (109 + (g0.1 104 5).toNat)) 23 134 dX3_list_133 rfl (by decide) (ai_of (n := 8) rfl o3 o4 (by decide)) (rxB g0 (ltN (n := 8) o3 o4)) ?_
    refine ex_iload_n 135 dX3_list_134 rfl rfl ?_
    refine ex_iconst 136 dX3_list_135 rfl ?_
    obtain ⟨o5, hyp⟩ := hyp
    obtain ⟨o6, hyp⟩ := hyp
    refine ex_iast 137 dX3_list_136 rfl (ai_of (n := 128) (txB _ (ltN (n := 8) o3 o4)) o5 o6 (by decide)) (fun h1 e7 => ?_)
    obtain ⟨g8, eg9⟩ : ∃ z : GS, z = gI g0 (109 + (g0.1 104 5).toNat) (x2).toNat 0 := ⟨_, rfl⟩
    have hyp := hyp g8 eg9
    obtain rfl : h1 = hX g8 := by rw [e7, eg9]; exact rfl
    clear e7
    refine q_iinc [some (vr 104), none, some (vi (x2 + 1)), none] 140 dX3_list_137 rfl rfl (Nat.le_of_ble_eq_true rfl) rfl rfl ?_
    refine ex_goto 115 dX3_list_140 (by decide) ?_
    exact hyp
set_option maxRecDepth 4000 in
theorem uX3_bestFrom {P : Int → GS → Prop} (g0 : GS) (x1 : Int) (x2 : Int) (hyp : 0 ≤ x1 + 1 ∧ x1 + 1 < 8 ∧ 0 ≤ x2 ∧ x2 < 128 ∧ XXi mX3_bestFrom 15 [some (vr 104), some (vi x1), some (vi x2), some (vr 65), some (vi (g0.1 (109 + (x1 + 1).toNat) (x2).toNat)), some (vi 0)] [] g0 P) : MXi mX3_bestFrom [vr 104, vi x1, vi x2, vr 65] g0 P := by
  refine met_of_ex (by decide +kernel) (Nat.le_of_ble_eq_true rfl) ?_
  show EX mX3_bestFrom 0 [some (vr 104), some (vi x1), some (vi x2), some (vr 65), none, none] [] (hX g0) (0, 0) _
  refine ex_aload_n 1 dX3_bestFrom_0 rfl rfl ?_
  refine q_getR (a := 108) 3 7 4 dX3_bestFrom_1 rfl fiX3_23 rfl ⟨_, rfl⟩ rfl ?_
  refine ex_iload_n 5 dX3_bestFrom_4 rfl rfl ?_
  refine ex_iconst 6 dX3_bestFrom_5 rfl ?_
  refine ex_iadd 7 dX3_bestFrom_6 rfl ?_
  obtain ⟨o1, hyp⟩ := hyp
  obtain ⟨o2, hyp⟩ := hyp
  refine ex_aald (a := (109 + (x1 + 1).toNat)) 23 8 dX3_bestFrom_7 rfl (by decide) (ai_of (n := 8) rfl o1 o2 (by decide)) (rxB g0 (ltN (n := 8) o1 o2)) ?_
  refine ex_iload_n 9 dX3_bestFrom_8 rfl rfl ?_
  obtain ⟨o3, hyp⟩ := hyp
  obtain ⟨o4, hyp⟩ := hyp
  refine ex_iald 10 dX3_bestFrom_9 rfl (ai_of (n := 128) (txB _ (ltN (n := 8) o1 o2)) o3 o4 (by decide)) ?_
  refine q_istore [some (vr 104), some (vi x1), some (vi x2), some (vr 65), some (vi (g0.1 (109 + (x1 + 1).toNat) (x2).toNat)), none] 12 dX3_bestFrom_10 rfl (Nat.le_of_ble_eq_true rfl) rfl rfl ?_
  refine ex_iconst 13 dX3_bestFrom_12 rfl ?_
  refine q_istore [some (vr 104), some (vi x1), some (vi x2), some (vr 65), some (vi (g0.1 (109 + (x1 + 1).toNat) (x2).toNat)), some (vi 0)] 15 dX3_bestFrom_13 rfl (Nat.le_of_ble_eq_true rfl) rfl rfl ?_
  exact hyp
set_option maxRecDepth 4000 in
theorem uX3_bestFrom_15 {P : Int → GS → Prop} (g0 : GS) (x1 : Int) (x2 : Int) (x4 : Int) (x5 : Int) (hyp : rng x5 ∧ rng (g0.1 104 6) ∧ (g0.1 104 6 ≤ x5 → (P x4 g0)) ∧ (x5 < g0.1 104 6 → (MXi mX3_isFree [vr 104, vi x1, vi x5, vi x2, vr 65] g0 (fun y4 g3 => rng y4 ∧ (y4 = 0 → (XXi mX3_bestFrom 15 [some (vr 104), some (vi x1), some (vi x2), some (vr 65), some (vi x4), some (vi (x5 + 1))] [] g3 P)) ∧ (¬ y4 = 0 → (MXi mX3_worthWith [vr 104, vi x1, vi x5, vi x2, vr 65] g3 (fun y7 g6 => rng x4 ∧ rng y7 ∧ XXi mX3_bestFrom 15 [some (vr 104), some (vi x1), some (vi x2), some (vr 65), some (vi (max x4 y7)), some (vi (x5 + 1))] [] g6 P))))))) : XXi mX3_bestFrom 15 [some (vr 104), some (vi x1), some (vi x2), some (vr 65), some (vi x4), some (vi x5)] [] g0 P := by
  refine ex_iload 17 dX3_bestFrom_15 rfl rfl ?_
  refine ex_aload_n 18 dX3_bestFrom_17 rfl rfl ?_
  refine q_getI 3 6 21 dX3_bestFrom_18 rfl fiX3_34 (Or.inl rfl) ⟨_, rfl⟩ ?_
  obtain ⟨o1, hyp⟩ := hyp
  obtain ⟨o2, hyp⟩ := hyp
  obtain ⟨ht, hf⟩ := hyp
  refine ex_icmp_ge 58 24 dX3_bestFrom_21 (by decide) rfl o1 o2 (fun c11 => ?_) (fun c11 => ?_)
  · have hyp := ht c11
    clear ht hf
    refine ex_iload 60 dX3_bestFrom_58 rfl rfl ?_
    exact ex_iret dX3_bestFrom_60 (Or.inl rfl) ⟨_, rfl, _, rfl, hyp⟩
  · have hyp := hf c11
    clear ht hf
    refine ex_aload_n 25 dX3_bestFrom_24 rfl rfl ?_
    refine ex_iload_n 26 dX3_bestFrom_25 rfl rfl ?_
    refine ex_iload 28 dX3_bestFrom_26 rfl rfl ?_
    refine ex_iload_n 29 dX3_bestFrom_28 rfl rfl ?_
    refine ex_aload_n 30 dX3_bestFrom_29 rfl rfl ?_
    refine s_callVi [vi x1, vi x5, vi x2, vr 65] 33 dX3_bestFrom_30 rfl cvX3_59 rfl rfl ⟨Nat.le_of_ble_eq_true rfl, Nat.le_of_ble_eq_true rfl⟩ (Nat.le_of_ble_eq_true rfl) ⟨_, rfl⟩ hyp (fun y4 h1 hq => ?_)
    obtain ⟨g3, rfl, hyp⟩ := hq
    obtain ⟨o5, hyp⟩ := hyp
    obtain ⟨ht, hf⟩ := hyp
    refine ex_if_eq 52 36 dX3_bestFrom_33 (by decide) rfl o5 (fun c10 => ?_) (fun c10 => ?_)
    · have hyp := ht c10
      clear ht hf
      refine q_iinc [some (vr 104), some (vi x1), some (vi x2), some (vr 65), some (vi x4), some (vi (x5 + 1))] 55 dX3_bestFrom_52 rfl rfl (Nat.le_of_ble_eq_true rfl) rfl rfl ?_
      refine ex_goto 15 dX3_bestFrom_55 (by decide) ?_
      exact hyp
    · have hyp := hf c10
      clear ht hf
      refine ex_iload 38 dX3_bestFrom_36 rfl rfl ?_
      refine ex_aload_n 39 dX3_bestFrom_38 rfl rfl ?_
      refine ex_iload_n 40 dX3_bestFrom_39 rfl rfl ?_
      refine ex_iload 42 dX3_bestFrom_40 rfl rfl ?_
      refine ex_iload_n 43 dX3_bestFrom_42 rfl rfl ?_
      refine ex_aload_n 44 dX3_bestFrom_43 rfl rfl ?_
      refine s_callVi [vi x1, vi x5, vi x2, vr 65] 47 dX3_bestFrom_44 rfl cvX3_63 rfl rfl ⟨Nat.le_of_ble_eq_true rfl, Nat.le_of_ble_eq_true rfl⟩ (Nat.le_of_ble_eq_true rfl) ⟨_, rfl⟩ hyp (fun y7 h1 hq => ?_)
      obtain ⟨g6, rfl, hyp⟩ := hq
      obtain ⟨o8, hyp⟩ := hyp
      obtain ⟨o9, hyp⟩ := hyp
      refine q_max 50 dX3_bestFrom_47 rfl mlX3_67 ⟨Nat.le_of_ble_eq_true rfl, Nat.le_of_ble_eq_true rfl⟩ o8 o9 ?_
      refine q_istore [some (vr 104), some (vi x1), some (vi x2), some (vr 65), some (vi (max x4 y7)), some (vi x5)] 52 dX3_bestFrom_50 rfl (Nat.le_of_ble_eq_true rfl) rfl rfl ?_
      refine q_iinc [some (vr 104), some (vi x1), some (vi x2), some (vr 65), some (vi (max x4 y7)), some (vi (x5 + 1))] 55 dX3_bestFrom_52 rfl rfl (Nat.le_of_ble_eq_true rfl) rfl rfl ?_
      refine ex_goto 15 dX3_bestFrom_55 (by decide) ?_
      exact hyp
set_option maxRecDepth 4000 in
theorem uX3_isFree {P : Int → GS → Prop} (g0 : GS) (x1 : Int) (x2 : Int) (x3 : Int) (hyp : rng (b_and x3 (b_shl 1 x2)) ∧ (¬ b_and x3 (b_shl 1 x2) = 0 → (P 0 g0)) ∧ (b_and x3 (b_shl 1 x2) = 0 → (0 ≤ x1 ∧ x1 < 7 ∧ 0 ≤ x2 ∧ x2 < 7 ∧ MXi mX6_fit [vr 65, vi (g0.1 106 (x1).toNat), vi (g0.1 107 (x2).toNat)] g0 (fun y7 g6 => rng y7 ∧ (y7 = 0 → (P 0 g6)) ∧ (¬ y7 = 0 → (P 1 g6)))))) : MXi mX3_isFree [vr 104, vi x1, vi x2, vi x3, vr 65] g0 P := by
  refine met_of_ex (by decide +kernel) (Nat.le_of_ble_eq_true rfl) ?_
  show EX mX3_isFree 0 [some (vr 104), some (vi x1), some (vi x2), some (vi x3), some (vr 65)] [] (hX g0) (0, 0) _
  refine ex_iload_n 1 dX3_isFree_0 rfl rfl ?_
  refine ex_iconst 2 dX3_isFree_1 rfl ?_
  refine ex_iload_n 3 dX3_isFree_2 rfl rfl ?_
  refine ex_ishl 4 dX3_isFree_3 rfl ?_
  refine ex_iand 5 dX3_isFree_4 rfl ?_
  obtain ⟨o1, hyp⟩ := hyp
  obtain ⟨ht, hf⟩ := hyp
  refine ex_if_ne 32 8 dX3_isFree_5 (by decide) rfl o1 (fun c10 => ?_) (fun c10 => ?_)
  · have hyp := ht c10
    clear ht hf
    refine ex_iconst 33 dX3_isFree_32 rfl ?_
    exact ex_iret dX3_isFree_33 (Or.inr ⟨rfl, Or.inl rfl⟩) ⟨_, rfl, _, rfl, hyp⟩
  · have hyp := hf c10
    clear ht hf
    refine ex_aload 10 dX3_isFree_8 rfl rfl ?_
    refine ex_aload_n 11 dX3_isFree_10 rfl rfl ?_
    refine q_getR (a := 106) 3 3 14 dX3_isFree_11 rfl fiX3_15 rfl ⟨_, rfl⟩ rfl ?_
    refine ex_iload_n 15 dX3_isFree_14 rfl rfl ?_
    obtain ⟨o2, hyp⟩ := hyp
    obtain ⟨o3, hyp⟩ := hyp
    refine ex_iald 16 dX3_isFree_15 rfl (ai_of (n := 7) rfl o2 o3 (by decide)) ?_
    refine ex_aload_n 17 dX3_isFree_16 rfl rfl ?_
    refine q_getR (a := 107) 3 4 20 dX3_isFree_17 rfl fiX3_18 rfl ⟨_, rfl⟩ rfl ?_
    refine ex_iload_n 21 dX3_isFree_20 rfl rfl ?_
    obtain ⟨o4, hyp⟩ := hyp
    obtain ⟨o5, hyp⟩ := hyp
    refine ex_iald 22 dX3_isFree_21 rfl (ai_of (n := 7) rfl o4 o5 (by decide)) ?_
    refine s_callVi [vi (g0.1 106 (x1).toNat), vi (g0.1 107 (x2).toNat)] 25 dX3_isFree_22 rfl cvX3_73 rfl rfl ⟨Nat.le_of_ble_eq_true rfl, Nat.le_of_ble_eq_true rfl⟩ (Nat.le_of_ble_eq_true rfl) ⟨_, rfl⟩ hyp (fun y7 h1 hq => ?_)
    obtain ⟨g6, rfl, hyp⟩ := hq
    obtain ⟨o8, hyp⟩ := hyp
    obtain ⟨ht, hf⟩ := hyp
    refine ex_if_eq 32 28 dX3_isFree_25 (by decide) rfl o8 (fun c9 => ?_) (fun c9 => ?_)
    · have hyp := ht c9
      clear ht hf
      refine ex_iconst 33 dX3_isFree_32 rfl ?_
      exact ex_iret dX3_isFree_33 (Or.inr ⟨rfl, Or.inl rfl⟩) ⟨_, rfl, _, rfl, hyp⟩
    · have hyp := hf c9
      clear ht hf
      refine ex_iconst 29 dX3_isFree_28 rfl ?_
      refine ex_goto 33 dX3_isFree_29 (by decide) ?_
      exact ex_iret dX3_isFree_33 (Or.inr ⟨rfl, Or.inr rfl⟩) ⟨_, rfl, _, rfl, hyp⟩
set_option maxRecDepth 4000 in
theorem uX3_worthWith {P : Int → GS → Prop} (g0 : GS) (x1 : Int) (x2 : Int) (x3 : Int) (hyp : 0 ≤ x1 ∧ x1 < 7 ∧ 0 ≤ g0.1 106 (x1).toNat ∧ g0.1 106 (x1).toNat < 18 ∧ 0 ≤ x2 ∧ x2 < 7 ∧ 0 ≤ g0.1 107 (x2).toNat ∧ g0.1 107 (x2).toNat < 18 ∧ 0 ≤ x1 + 1 ∧ x1 + 1 < 8 ∧ 0 ≤ b_or x3 (b_shl 1 x2) ∧ b_or x3 (b_shl 1 x2) < 128 ∧ P ((g0.1 (86 + (g0.1 106 (x1).toNat).toNat) (g0.1 107 (x2).toNat).toNat) + (g0.1 (109 + (x1 + 1).toNat) (b_or x3 (b_shl 1 x2)).toNat)) g0) : MXi mX3_worthWith [vr 104, vi x1, vi x2, vi x3, vr 65] g0 P := by
  refine met_of_ex (by decide +kernel) (Nat.le_of_ble_eq_true rfl) ?_
  show EX mX3_worthWith 0 [some (vr 104), some (vi x1), some (vi x2), some (vi x3), some (vr 65)] [] (hX g0) (0, 0) _
  refine ex_aload 2 dX3_worthWith_0 rfl rfl ?_
  refine q_getR (a := 85) 6 1 5 dX3_worthWith_2 rfl fiX3_79 rfl ⟨_, rfl⟩ rfl ?_
  refine ex_aload_n 6 dX3_worthWith_5 rfl rfl ?_
  refine q_getR (a := 106) 3 3 9 dX3_worthWith_6 rfl fiX3_15 rfl ⟨_, rfl⟩ rfl ?_
  refine ex_iload_n 10 dX3_worthWith_9 rfl rfl ?_
  obtain ⟨o1, hyp⟩ := hyp
  obtain ⟨o2, hyp⟩ := hyp
  refine ex_iald 11 dX3_worthWith_10 rfl (ai_of (n := 7) rfl o1 o2 (by decide)) ?_
  obtain ⟨o3, hyp⟩ := hyp
  obtain ⟨o4, hyp⟩ := hyp
  refine ex_aald (a := (86 + (g0.1 106 (x1).toNat).toNat)) 23 12 dX3_worthWith_11 rfl (by decide) (ai_of (n := 18) rfl o3 o4 (by decide)) (rxV g0 (ltN (n := 18) o3 o4)) ?_
  refine ex_aload_n 13 dX3_worthWith_12 rfl rfl ?_
  refine q_getR (a := 107) 3 4 16 dX3_worthWith_13 rfl fiX3_18 rfl ⟨_, rfl⟩ rfl ?_
  refine ex_iload_n 17 dX3_worthWith_16 rfl rfl ?_
  obtain ⟨o5, hyp⟩ := hyp
  obtain ⟨o6, hyp⟩ := hyp
  refine ex_iald 18 dX3_worthWith_17 rfl (ai_of (n := 7) rfl o5 o6 (by decide)) ?_
  obtain ⟨o7, hyp⟩ := hyp
  obtain ⟨o8, hyp⟩ := hyp
  refine ex_iald 19 dX3_worthWith_18 rfl (ai_of (n := 18) (txV _ (ltN (n := 18) o3 o4)) o7 o8 (by decide)) ?_
  refine ex_aload_n 20 dX3_worthWith_19 rfl rfl ?_
  refine q_getR (a := 108) 3 7 23 dX3_worthWith_20 rfl fiX3_23 rfl ⟨_, rfl⟩ rfl ?_
  refine ex_iload_n 24 dX3_worthWith_23 rfl rfl ?_
  refine ex_iconst 25 dX3_worthWith_24 rfl ?_
  refine ex_iadd 26 dX3_worthWith_25 rfl ?_
  obtain ⟨o9, hyp⟩ := hyp
  obtain ⟨o10, hyp⟩ := hyp
  refine ex_aald (a := (109 + (x1 + 1).toNat)) 23 27 dX3_worthWith_26 rfl (by decide) (ai_of (n := 8) rfl o9 o10 (by decide)) (rxB g0 (ltN (n := 8) o9 o10)) ?_
  refine ex_iload_n 28 dX3_worthWith_27 rfl rfl ?_
  refine ex_iconst 29 dX3_worthWith_28 rfl ?_
  refine ex_iload_n 30 dX3_worthWith_29 rfl rfl ?_
  refine ex_ishl 31 dX3_worthWith_30 rfl ?_
  refine ex_ior 32 dX3_worthWith_31 rfl ?_
  obtain ⟨o11, hyp⟩ := hyp
  obtain ⟨o12, hyp⟩ := hyp
  refine ex_iald 33 dX3_worthWith_32 rfl (ai_of (n := 128) (txB _ (ltN (n := 8) o9 o10)) o11 o12 (by decide)) ?_
  refine ex_iadd 34 dX3_worthWith_33 rfl ?_
  exact ex_iret dX3_worthWith_34 (Or.inl rfl) ⟨_, rfl, _, rfl, hyp⟩
set_option maxRecDepth 4000 in
theorem uX3_choose {P : GS → Prop} (g0 : GS)  (hyp : ∀ g2 : GS, g2 = gI g0 104 1 0 → (∀ g5 : GS, g5 = gI g2 104 2 (g2.1 (109 + (0 : Int).toNat) (0 : Int).toNat) → (XXv mX3_choose 21 [some (vr 104), some (vr 65), some (vi 0), some (vi 0), none] [] g5 P))) : MXv mX3_choose [vr 104, vr 65] g0 P := by
  refine met_of_ex (by decide +kernel) (Nat.le_of_ble_eq_true rfl) ?_
  show EX mX3_choose 0 [some (vr 104), some (vr 65), none, none, none] [] (hX g0) (0, 0) _
  refine ex_aload_n 1 dX3_choose_0 rfl rfl ?_
  refine ex_iconst 2 dX3_choose_1 rfl ?_
  refine q_putI 3 1 5 dX3_choose_2 rfl fiX3_82 ff3_1 rfl ⟨_, rfl⟩ (fun h1 e1 => ?_)
  obtain ⟨g2, eg3⟩ : ∃ z : GS, z = gI g0 104 1 0 := ⟨_, rfl⟩
  have hyp := hyp g2 eg3
  obtain rfl : h1 = hX g2 := by rw [e1, eg3]; exact rfl
  clear e1
  refine ex_aload_n 6 dX3_choose_5 rfl rfl ?_
  refine ex_aload_n 7 dX3_choose_6 rfl rfl ?_
  refine q_getR (a := 108) 3 7 10 dX3_choose_7 rfl fiX3_23 rfl ⟨_, rfl⟩ rfl ?_
  refine ex_iconst 11 dX3_choose_10 rfl ?_
  refine ex_aald (a := (109 + (0 : Int).toNat)) 23 12 dX3_choose_11 rfl (by decide) (ai_of (n := 8) rfl (by decide) (by decide) (by decide)) (rxB g2 (ltN (n := 8) (by decide) (by decide))) ?_
  refine ex_iconst 13 dX3_choose_12 rfl ?_
  refine ex_iald 14 dX3_choose_13 rfl (ai_of (n := 128) (txB _ (ltN (n := 8) (by decide) (by decide))) (by decide) (by decide) (by decide)) ?_
  refine q_putI 3 2 17 dX3_choose_14 rfl fiX3_85 ff3_2 rfl ⟨_, rfl⟩ (fun h1 e4 => ?_)
  obtain ⟨g5, eg6⟩ : ∃ z : GS, z = gI g2 104 2 (g2.1 (109 + (0 : Int).toNat) (0 : Int).toNat) := ⟨_, rfl⟩
  have hyp := hyp g5 eg6
  obtain rfl : h1 = hX g5 := by rw [e4, eg6]; exact rfl
  clear e4
  refine ex_iconst 18 dX3_choose_17 rfl ?_
  refine q_istore_n [some (vr 104), some (vr 65), some (vi 0), none, none] 19 dX3_choose_18 rfl (Nat.le_of_ble_eq_true rfl) rfl rfl ?_
  refine ex_iconst 20 dX3_choose_19 rfl ?_
  refine q_istore_n [some (vr 104), some (vr 65), some (vi 0), some (vi 0), none] 21 dX3_choose_20 rfl (Nat.le_of_ble_eq_true rfl) rfl rfl ?_
  exact hyp
set_option maxRecDepth 4000 in
theorem uX3_choose_21 {P : GS → Prop} (g0 : GS) (x2 : Int) (x3 : Int) (hyp : rng x3 ∧ rng (g0.1 104 5) ∧ (g0.1 104 5 ≤ x3 → (P g0)) ∧ (x3 < g0.1 104 5 → (XXv mX3_choose 32 [some (vr 104), some (vr 65), some (vi x2), some (vi x3), some (vi 0)] [] g0 P))) : XXv mX3_choose 21 [some (vr 104), some (vr 65), some (vi x2), some (vi x3), none] [] g0 P := by
  refine ex_iload_n 22 dX3_choose_21 rfl rfl ?_
  refine ex_aload_n 23 dX3_choose_22 rfl rfl ?_
  refine q_getI 3 5 26 dX3_choose_23 rfl fiX3_30 (Or.inl rfl) ⟨_, rfl⟩ ?_
  obtain ⟨o1, hyp⟩ := hyp
  obtain ⟨o2, hyp⟩ := hyp
  obtain ⟨ht, hf⟩ := hyp
  refine ex_icmp_ge 141 29 dX3_choose_26 (by decide) rfl o1 o2 (fun c3 => ?_) (fun c3 => ?_)
  · have hyp := ht c3
    clear ht hf
    exact ex_vret dX3_choose_141 rfl ⟨rfl, _, rfl, hyp⟩
  · have hyp := hf c3
    clear ht hf
    refine ex_iconst 30 dX3_choose_29 rfl ?_
    refine q_istore [some (vr 104), some (vr 65), some (vi x2), some (vi x3), some (vi 0)] 32 dX3_choose_30 rfl (Nat.le_of_ble_eq_true rfl) rfl rfl ?_
    exact hyp
set_option maxRecDepth 4000 in
theorem uX3_choose_32 {P : GS → Prop} (g0 : GS) (x2 : Int) (x3 : Int) (x4 : Int) (hyp : rng x4 ∧ rng (g0.1 104 6) ∧ (g0.1 104 6 ≤ x4 → (XXv mX3_choose 21 [some (vr 104), some (vr 65), some (vi x2), some (vi (x3 + 1)), none] [] g0 P)) ∧ (x4 < g0.1 104 6 → (MXi mX3_isFree [vr 104, vi x3, vi x4, vi x2, vr 65] g0 (fun y4 g3 => rng y4 ∧ (y4 = 0 → (XXv mX3_choose 32 [some (vr 104), some (vr 65), some (vi x2), some (vi x3), some (vi (x4 + 1))] [] g3 P)) ∧ (¬ y4 = 0 → (MXi mX3_worthWith [vr 104, vi x3, vi x4, vi x2, vr 65] g3 (fun y7 g6 => 0 ≤ x3 ∧ x3 < 8 ∧ 0 ≤ x2 ∧ x2 < 128 ∧ rng y7 ∧ rng (g6.1 (109 + (x3).toNat) (x2).toNat) ∧ (¬ y7 = g6.1 (109 + (x3).toNat) (x2).toNat → (XXv mX3_choose 32 [some (vr 104), some (vr 65), some (vi x2), some (vi x3), some (vi (x4 + 1))] [] g6 P)) ∧ (y7 = g6.1 (109 + (x3).toNat) (x2).toNat → (x3 < 7 ∧ 0 ≤ x4 ∧ x4 < 7 ∧ 0 ≤ g6.1 106 (x3).toNat ∧ g6.1 106 (x3).toNat < 18 ∧ ∀ g20 : GS, g20 = gI g6 105 (g6.1 106 (x3).toNat).toNat (g6.1 107 (x4).toNat) → (0 ≤ g20.1 107 (x4).toNat ∧ g20.1 107 (x4).toNat < 18 ∧ ∀ g25 : GS, g25 = gI g20 105 (g20.1 107 (x4).toNat).toNat (g20.1 106 (x3).toNat) → (∀ g28 : GS, g28 = gI g25 104 1 ((g25.1 104 1) + 1) → (XXv mX3_choose 21 [some (vr 104), some (vr 65), some (vi (b_or x2 (b_shl 1 x4))), some (vi (x3 + 1)), none] [] g28 P)))))))))))) : XXv mX3_choose 32 [some (vr 104), some (vr 65), some (vi x2), some (vi x3), some (vi x4)] [] g0 P := by
  refine ex_iload 34 dX3_choose_32 rfl rfl ?_
  refine ex_aload_n 35 dX3_choose_34 rfl rfl ?_
  refine q_getI 3 6 38 dX3_choose_35 rfl fiX3_34 (Or.inl rfl) ⟨_, rfl⟩ ?_
  obtain ⟨o1, hyp⟩ := hyp
  obtain ⟨o2, hyp⟩ := hyp
  obtain ⟨ht, hf⟩ := hyp
  refine ex_icmp_ge 135 41 dX3_choose_38 (by decide) rfl o1 o2 (fun c32 => ?_) (fun c32 => ?_)
  · have hyp := ht c32
    clear ht hf
    refine q_iinc [some (vr 104), some (vr 65), some (vi x2), some (vi (x3 + 1)), some (vi x4)] 138 dX3_choose_135 rfl rfl (Nat.le_of_ble_eq_true rfl) rfl rfl ?_
    refine ex_goto 21 dX3_choose_138 (by decide) ?_
    refine ex_dropL (ls' := [some (vr 104), some (vr 65), some (vi x2), some (vi (x3 + 1)), none]) 4 rfl ?_
    exact hyp
  · have hyp := hf c32
    clear ht hf
    refine ex_aload_n 42 dX3_choose_41 rfl rfl ?_
    refine ex_iload_n 43 dX3_choose_42 rfl rfl ?_
    refine ex_iload 45 dX3_choose_43 rfl rfl ?_
    refine ex_iload_n 46 dX3_choose_45 rfl rfl ?_
    refine ex_aload_n 47 dX3_choose_46 rfl rfl ?_
    refine s_callVi [vi x3, vi x4, vi x2, vr 65] 50 dX3_choose_47 rfl cvX3_59 rfl rfl ⟨Nat.le_of_ble_eq_true rfl, Nat.le_of_ble_eq_true rfl⟩ (Nat.le_of_ble_eq_true rfl) ⟨_, rfl⟩ hyp (fun y4 h1 hq => ?_)
    obtain ⟨g3, rfl, hyp⟩ := hq
    obtain ⟨o5, hyp⟩ := hyp
    obtain ⟨ht, hf⟩ := hyp
    refine ex_if_eq 129 53 dX3_choose_50 (by decide) rfl o5 (fun c31 => ?_) (fun c31 => ?_)
    · have hyp := ht c31
      clear ht hf
      refine q_iinc [some (vr 104), some (vr 65), some (vi x2), some (vi x3), some (vi (x4 + 1))] 132 dX3_choose_129 rfl rfl (Nat.le_of_ble_eq_true rfl) rfl rfl ?_
      refine ex_goto 32 dX3_choose_132 (by decide) ?_
      exact hyp
    · have hyp := hf c31
      clear ht hf
      refine ex_aload_n 54 dX3_choose_53 rfl rfl ?_
      refine ex_iload_n 55 dX3_choose_54 rfl rfl ?_
      refine ex_iload 57 dX3_choose_55 rfl rfl ?_
      refine ex_iload_n 58 dX3_choose_57 rfl rfl ?_
      refine ex_aload_n 59 dX3_choose_58 rfl rfl ?_
      refine s_callVi [vi x3, vi x4, vi x2, vr 65] 62 dX3_choose_59 rfl cvX3_63 rfl rfl ⟨Nat.le_of_ble_eq_true rfl, Nat.le_of_ble_eq_true rfl⟩ (Nat.le_of_ble_eq_true rfl) ⟨_, rfl⟩ hyp (fun y7 h1 hq => ?_)
      obtain ⟨g6, rfl, hyp⟩ := hq
      refine ex_aload_n 63 dX3_choose_62 rfl rfl ?_
      refine q_getR (a := 108) 3 7 66 dX3_choose_63 rfl fiX3_23 rfl ⟨_, rfl⟩ rfl ?_
      refine ex_iload_n 67 dX3_choose_66 rfl rfl ?_
      obtain ⟨o8, hyp⟩ := hyp
      obtain ⟨o9, hyp⟩ := hyp
      refine ex_aald (a := (109 + (x3).toNat)) 23 68 dX3_choose_67 rfl (by decide) (ai_of (n := 8) rfl o8 o9 (by decide)) (rxB g6 (ltN (n := 8) o8 o9)) ?_
      refine ex_iload_n 69 dX3_choose_68 rfl rfl ?_
      obtain ⟨o10, hyp⟩ := hyp
      obtain ⟨o11, hyp⟩ := hyp
      refine ex_iald 70 dX3_choose_69 rfl (ai_of (n := 128) (txB _ (ltN (n := 8) o8 o9)) o10 o11 (by decide)) ?_
      obtain ⟨o12, hyp⟩ := hyp
      obtain ⟨o13, hyp⟩ := hyp
      obtain ⟨ht, hf⟩ := hyp
      refine ex_icmp_ne 129 73 dX3_choose_70 (by decide) rfl o12 o13 (fun c30 => ?_) (fun c30 => ?_)
      · have hyp := ht c30
        clear ht hf
        refine q_iinc [some (vr 104), some (vr 65), some (vi x2), some (vi x3), some (vi (x4 + 1))] 132 dX3_choose_129 rfl rfl (Nat.le_of_ble_eq_true rfl) rfl rfl ?_
        refine ex_goto 32 dX3_choose_132 (by decide) ?_
        exact hyp
      · have hyp := hf c30
        clear ht hf
        refine ex_aload_n 74 dX3_choose_73 rfl rfl ?_
        refine q_getR (a := 105) 3 0 77 dX3_choose_74 rfl fiX3_9 rfl ⟨_, rfl⟩ rfl ?_
        refine ex_aload_n 78 dX3_choose_77 rfl rfl ?_
        refine q_getR (a := 106) 3 3 81 dX3_choose_78 rfl fiX3_15 rfl ⟨_, rfl⟩ rfl ?_
        refine ex_iload_n 82 dX3_choose_81 rfl rfl ?_
        obtain ⟨o14, hyp⟩ := hyp
        refine ex_iald 83 dX3_choose_82 rfl (ai_of (n := 7) rfl o8 o14 (by decide)) ?_
        refine ex_aload_n 84 dX3_choose_83 rfl rfl ?_
        refine q_getR (a := 107) 3 4 87 dX3_choose_84 rfl fiX3_18 rfl ⟨_, rfl⟩ rfl ?_
        refine ex_iload 89 dX3_choose_87 rfl rfl ?_
        obtain ⟨o15, hyp⟩ := hyp
        obtain ⟨o16, hyp⟩ := hyp
        refine ex_iald 90 dX3_choose_89 rfl (ai_of (n := 7) rfl o15 o16 (by decide)) ?_
        obtain ⟨o17, hyp⟩ := hyp
        obtain ⟨o18, hyp⟩ := hyp
        refine ex_iast 91 dX3_choose_90 rfl (ai_of (n := 18) rfl o17 o18 (by decide)) (fun h1 e19 => ?_)
        obtain ⟨g20, eg21⟩ : ∃ z : GS, z = gI g6 105 (g6.1 106 (x3).toNat).toNat (g6.1 107 (x4).toNat) := ⟨_, rfl⟩
        have hyp := hyp g20 eg21
        obtain rfl : h1 = hX g20 := by rw [e19, eg21]; exact rfl
        clear e19
        refine ex_aload_n 92 dX3_choose_91 rfl rfl ?_
        refine q_getR (a := 105) 3 0 95 dX3_choose_92 rfl fiX3_9 rfl ⟨_, rfl⟩ rfl ?_
        refine ex_aload_n 96 dX3_choose_95 rfl rfl ?_
        refine q_getR (a := 107) 3 4 99 dX3_choose_96 rfl fiX3_18 rfl ⟨_, rfl⟩ rfl ?_
        refine ex_iload 101 dX3_choose_99 rfl rfl ?_
        refine ex_iald 102 dX3_choose_101 rfl (ai_of (n := 7) rfl o15 o16 (by decide)) ?_
        refine ex_aload_n 103 dX3_choose_102 rfl rfl ?_
        refine q_getR (a := 106) 3 3 106 dX3_choose_103 rfl fiX3_15 rfl ⟨_, rfl⟩ rfl ?_
        refine ex_iload_n 107 dX3_choose_106 rfl rfl ?_
        refine ex_iald 108 dX3_choose_107 rfl (ai_of (n := 7) rfl o8 o14 (by decide)) ?_
        obtain ⟨o22, hyp⟩ := hyp
        obtain ⟨o23, hyp⟩ := hyp
        refine ex_iast 109 dX3_choose_108 rfl (ai_of (n := 18) rfl o22 o23 (by decide)) (fun h1 e24 => ?_)
        obtain ⟨g25, eg26⟩ : ∃ z : GS, z = gI g20 105 (g20.1 107 (x4).toNat).toNat (g20.1 106 (x3).toNat) := ⟨_, rfl⟩
        have hyp := hyp g25 eg26
        obtain rfl : h1 = hX g25 := by rw [e24, eg26]; exact rfl
        clear e24
        refine ex_iload_n 110 dX3_choose_109 rfl rfl ?_
        refine ex_iconst 111 dX3_choose_110 rfl ?_
        refine ex_iload 113 dX3_choose_111 rfl rfl ?_
        refine ex_ishl 114 dX3_choose_113 rfl ?_
        refine ex_ior 115 dX3_choose_114 rfl ?_
        refine q_istore_n [some (vr 104), some (vr 65), some (vi (b_or x2 (b_shl 1 x4))), some (vi x3), some (vi x4)] 116 dX3_choose_115 rfl (Nat.le_of_ble_eq_true rfl) rfl rfl ?_
        refine ex_aload_n 117 dX3_choose_116 rfl rfl ?_
        refine ex_dup 118 dX3_choose_117 rfl rfl ?_
        refine q_getI 3 1 121 dX3_choose_118 rfl fiX3_82 (Or.inl rfl) ⟨_, rfl⟩ ?_
        refine ex_iconst 122 dX3_choose_121 rfl ?_
        refine ex_iadd 123 dX3_choose_122 rfl ?_
        refine q_putI 3 1 126 dX3_choose_123 rfl fiX3_82 ff3_1 rfl ⟨_, rfl⟩ (fun h1 e27 => ?_)
        obtain ⟨g28, eg29⟩ : ∃ z : GS, z = gI g25 104 1 ((g25.1 104 1) + 1) := ⟨_, rfl⟩
        have hyp := hyp g28 eg29
        obtain rfl : h1 = hX g28 := by rw [e27, eg29]; exact rfl
        clear e27
        refine ex_goto 135 dX3_choose_126 (by decide) ?_
        refine q_iinc [some (vr 104), some (vr 65), some (vi (b_or x2 (b_shl 1 x4))), some (vi (x3 + 1)), some (vi x4)] 138 dX3_choose_135 rfl rfl (Nat.le_of_ble_eq_true rfl) rfl rfl ?_
        refine ex_goto 21 dX3_choose_138 (by decide) ?_
        refine ex_dropL (ls' := [some (vr 104), some (vr 65), some (vi (b_or x2 (b_shl 1 x4))), some (vi (x3 + 1)), none]) 4 rfl ?_
        exact hyp
set_option maxRecDepth 4000 in
theorem uX4_distance {P : Int → GS → Prop} (g0 : GS) (s1 : Nat) (hs1 : s1 < 18) (s2 : Nat) (hs2 : s2 < 18) (hyp : XXi mX4_distance 2 [some (vr 5), some (vr (11 + 3 * s1)), some (vr (11 + 3 * s2)), some (vi 0), none, none, none] [] g0 P) : MXi mX4_distance [vr 5, vr (11 + 3 * s1), vr (11 + 3 * s2)] g0 P := by
  refine met_of_ex (by decide +kernel) (Nat.le_of_ble_eq_true rfl) ?_
  show EX mX4_distance 0 [some (vr 5), some (vr (11 + 3 * s1)), some (vr (11 + 3 * s2)), none, none, none, none] [] (hX g0) (0, 0) _
  refine ex_iconst 1 dX4_distance_0 rfl ?_
  refine q_istore_n [some (vr 5), some (vr (11 + 3 * s1)), some (vr (11 + 3 * s2)), some (vi 0), none, none, none] 2 dX4_distance_1 rfl (Nat.le_of_ble_eq_true rfl) rfl rfl ?_
  exact hyp
set_option maxRecDepth 4000 in
theorem uX4_distance_2 {P : Int → GS → Prop} (g0 : GS) (s1 : Nat) (hs1 : s1 < 18) (s2 : Nat) (hs2 : s2 < 18) (x3 : Int) (hyp : rng x3 ∧ rng (g0.1 (11 + 3 * s2) 3) ∧ (g0.1 (11 + 3 * s2) 3 < x3 → (XXi mX4_distance 27 [some (vr 5), some (vr (11 + 3 * s1)), some (vr (11 + 3 * s2)), some (vi 1), none, none, none] [] g0 P)) ∧ (x3 ≤ g0.1 (11 + 3 * s2) 3 → ((g0.2.2 1 = 6 ∨ g0.2.2 1 = 7) ∧ 0 ≤ x3 ∧ x3 < 9 ∧ ∀ g7 : GS, g7 = gI g0 (g0.2.2 1) (x3).toNat (2 * x3) → (XXi mX4_distance 2 [some (vr 5), some (vr (11 + 3 * s1)), some (vr (11 + 3 * s2)), some (vi (x3 + 1)), none, none, none] [] g7 P)))) : XXi mX4_distance 2 [some (vr 5), some (vr (11 + 3 * s1)), some (vr (11 + 3 * s2)), some (vi x3), none, none, none] [] g0 P := by
  refine ex_iload_n 3 dX4_distance_2 rfl rfl ?_
  refine ex_aload_n 4 dX4_distance_3 rfl rfl ?_
  refine q_getI 0 3 7 dX4_distance_4 rfl fiX4_18 (Or.inl rfl) (obE hs2) ?_
  obtain ⟨o1, hyp⟩ := hyp
  obtain ⟨o2, hyp⟩ := hyp
  obtain ⟨ht, hf⟩ := hyp
  refine ex_icmp_gt 25 10 dX4_distance_7 (by decide) rfl o1 o2 (fun c9 => ?_) (fun c9 => ?_)
  · have hyp := ht c9
    clear ht hf
    refine ex_iconst 26 dX4_distance_25 rfl ?_
    refine q_istore_n [some (vr 5), some (vr (11 + 3 * s1)), some (vr (11 + 3 * s2)), some (vi 1), none, none, none] 27 dX4_distance_26 rfl (Nat.le_of_ble_eq_true rfl) rfl rfl ?_
    exact hyp
  · have hyp := hf c9
    clear ht hf
    refine ex_aload_n 11 dX4_distance_10 rfl rfl ?_
    obtain ⟨o3, hyp⟩ := hyp
    refine q_getR (a := (g0.2.2 1)) 4 1 14 dX4_distance_11 rfl fiX4_15 rfl ⟨_, rfl⟩ (rx5 g0 (by decide)) ?_
    refine ex_iload_n 15 dX4_distance_14 rfl rfl ?_
    refine ex_iconst 16 dX4_distance_15 rfl ?_
    refine ex_iload_n 17 dX4_distance_16 rfl rfl ?_
    refine ex_imul 18 dX4_distance_17 rfl ?_
    obtain ⟨o4, hyp⟩ := hyp
    obtain ⟨o5, hyp⟩ := hyp
    refine ex_iast 19 dX4_distance_18 rfl (ai_of (n := 9) (txR o3) o4 o5 (by decide)) (fun h1 e6 => ?_)
    obtain ⟨g7, eg8⟩ : ∃ z : GS, z = gI g0 (g0.2.2 1) (x3).toNat (2 * x3) := ⟨_, rfl⟩
    have hyp := hyp g7 eg8
    obtain rfl : h1 = hX g7 := by rw [e6, eg8]; exact rfl
    clear e6
    refine q_iinc [some (vr 5), some (vr (11 + 3 * s1)), some (vr (11 + 3 * s2)), some (vi (x3 + 1)), none, none, none] 22 dX4_distance_19 rfl rfl (Nat.le_of_ble_eq_true rfl) rfl rfl ?_
    refine ex_goto 2 dX4_distance_22 (by decide) ?_
    exact hyp
set_option maxRecDepth 4000 in
theorem uX4_distance_27 {P : Int → GS → Prop} (g0 : GS) (s1 : Nat) (hs1 : s1 < 18) (s2 : Nat) (hs2 : s2 < 18) (x3 : Int) (hyp : rng x3 ∧ rng (g0.1 (11 + 3 * s1) 3) ∧ (g0.1 (11 + 3 * s1) 3 < x3 → ((g0.2.2 1 = 6 ∨ g0.2.2 1 = 7) ∧ 0 ≤ g0.1 (11 + 3 * s2) 3 ∧ g0.1 (11 + 3 * s2) 3 < 9 ∧ P (g0.1 (g0.2.2 1) (g0.1 (11 + 3 * s2) 3).toNat) g0)) ∧ (x3 ≤ g0.1 (11 + 3 * s1) 3 → ((g0.2.2 0 = 6 ∨ g0.2.2 0 = 7) ∧ (g0.2.2 1 = 6 ∨ g0.2.2 1 = 7) ∧ ∀ g9 : GS, g9 = gN g0 0 (g0.2.2 1) → (∀ g12 : GS, g12 = gN g9 1 (g0.2.2 0) → ((g12.2.2 1 = 6 ∨ g12.2.2 1 = 7) ∧ ∀ g16 : GS, g16 = gI g12 (g12.2.2 1) (0 : Int).toNat (2 * x3) → (XXi mX4_distance 67 [some (vr 5), some (vr (11 + 3 * s1)), some (vr (11 + 3 * s2)), some (vi x3), none, some (vi 1), none] [] g16 P)))))) : XXi mX4_distance 27 [some (vr 5), some (vr (11 + 3 * s1)), some (vr (11 + 3 * s2)), some (vi x3), none, none, none] [] g0 P := by
  refine ex_iload_n 28 dX4_distance_27 rfl rfl ?_
  refine ex_aload_n 29 dX4_distance_28 rfl rfl ?_
  refine q_getI 0 3 32 dX4_distance_29 rfl fiX4_18 (Or.inl rfl) (obE hs1) ?_
  obtain ⟨o1, hyp⟩ := hyp
  obtain ⟨o2, hyp⟩ := hyp
  obtain ⟨ht, hf⟩ := hyp
  refine ex_icmp_gt 153 35 dX4_distance_32 (by decide) rfl o1 o2 (fun c18 => ?_) (fun c18 => ?_)
  · have hyp := ht c18
    clear ht hf
    refine ex_aload_n 154 dX4_distance_153 rfl rfl ?_
    obtain ⟨o3, hyp⟩ := hyp
    refine q_getR (a := (g0.2.2 1)) 4 1 157 dX4_distance_154 rfl fiX4_15 rfl ⟨_, rfl⟩ (rx5 g0 (by decide)) ?_
    refine ex_aload_n 158 dX4_distance_157 rfl rfl ?_
    refine q_getI 0 3 161 dX4_distance_158 rfl fiX4_18 (Or.inl rfl) (obE hs2) ?_
    obtain ⟨o4, hyp⟩ := hyp
    obtain ⟨o5, hyp⟩ := hyp
    refine ex_iald 162 dX4_distance_161 rfl (ai_of (n := 9) (txR o3) o4 o5 (by decide)) ?_
    exact ex_iret dX4_distance_162 (Or.inl rfl) ⟨_, rfl, _, rfl, hyp⟩
  · have hyp := hf c18
    clear ht hf
    refine ex_aload_n 36 dX4_distance_35 rfl rfl ?_
    obtain ⟨o6, hyp⟩ := hyp
    refine q_getR (a := (g0.2.2 0)) 4 0 39 dX4_distance_36 rfl fiX4_9 rfl ⟨_, rfl⟩ (rx5 g0 (by decide)) ?_
    refine q_astore [some (vr 5), some (vr (11 + 3 * s1)), some (vr (11 + 3 * s2)), some (vi x3), some (vr (g0.2.2 0)), none, none] 41 dX4_distance_39 rfl (Nat.le_of_ble_eq_true rfl) rfl rfl ?_
    refine ex_aload_n 42 dX4_distance_41 rfl rfl ?_
    refine ex_aload_n 43 dX4_distance_42 rfl rfl ?_
    obtain ⟨o7, hyp⟩ := hyp
    refine q_getR (a := (g0.2.2 1)) 4 1 46 dX4_distance_43 rfl fiX4_15 rfl ⟨_, rfl⟩ (rx5 g0 (by decide)) ?_
    refine q_putR 4 0 49 dX4_distance_46 rfl fiX4_9 ff4_0 rfl ⟨_, rfl⟩ (fun h1 e8 => ?_)
    obtain ⟨g9, eg10⟩ : ∃ z : GS, z = gN g0 0 (g0.2.2 1) := ⟨_, rfl⟩
    have hyp := hyp g9 eg10
    obtain rfl : h1 = hX g9 := by rw [e8, eg10]; exact hX_N _ _ _ (by decide)
    clear e8
    refine ex_aload_n 50 dX4_distance_49 rfl rfl ?_
    refine ex_aload 52 dX4_distance_50 rfl rfl ?_
    refine q_putR 4 1 55 dX4_distance_52 rfl fiX4_15 ff4_1 rfl ⟨_, rfl⟩ (fun h1 e11 => ?_)
    obtain ⟨g12, eg13⟩ : ∃ z : GS, z = gN g9 1 (g0.2.2 0) := ⟨_, rfl⟩
    have hyp := hyp g12 eg13
    obtain rfl : h1 = hX g12 := by rw [e11, eg13]; exact hX_N _ _ _ (by decide)
    clear e11
    refine ex_aload_n 56 dX4_distance_55 rfl rfl ?_
    obtain ⟨o14, hyp⟩ := hyp
    refine q_getR (a := (g12.2.2 1)) 4 1 59 dX4_distance_56 rfl fiX4_15 rfl ⟨_, rfl⟩ (rx5 g12 (by decide)) ?_
    refine ex_iconst 60 dX4_distance_59 rfl ?_
    refine ex_iconst 61 dX4_distance_60 rfl ?_
    refine ex_iload_n 62 dX4_distance_61 rfl rfl ?_
    refine ex_imul 63 dX4_distance_62 rfl ?_
    refine ex_iast 64 dX4_distance_63 rfl (ai_of (n := 9) (txR o14) (by decide) (by decide) (by decide)) (fun h1 e15 => ?_)
    obtain ⟨g16, eg17⟩ : ∃ z : GS, z = gI g12 (g12.2.2 1) (0 : Int).toNat (2 * x3) := ⟨_, rfl⟩
    have hyp := hyp g16 eg17
    obtain rfl : h1 = hX g16 := by rw [e15, eg17]; exact rfl
    clear e15
    refine ex_iconst 65 dX4_distance_64 rfl ?_
    refine q_istore [some (vr 5), some (vr (11 + 3 * s1)), some (vr (11 + 3 * s2)), some (vi x3), some (vr (g0.2.2 0)), some (vi 1), none] 67 dX4_distance_65 rfl (Nat.le_of_ble_eq_true rfl) rfl rfl ?_
    refine ex_dropL (ls' := [some (vr 5), some (vr (11 + 3 * s1)), some (vr (11 + 3 * s2)), some (vi x3), none, some (vi 1), none]) 4 rfl ?_
    exact hyp
set_option maxRecDepth 4000 in
theorem uX4_distance_67 {P : Int → GS → Prop} (g0 : GS) (s1 : Nat) (hs1 : s1 < 18) (s2 : Nat) (hs2 : s2 < 18) (x3 : Int) (x5 : Int) (hyp : rng x5 ∧ rng (g0.1 (11 + 3 * s2) 3) ∧ (g0.1 (11 + 3 * s2) 3 < x5 → (XXi mX4_distance 27 [some (vr 5), some (vr (11 + 3 * s1)), some (vr (11 + 3 * s2)), some (vi (x3 + 1)), none, none, none] [] g0 P)) ∧ (x5 ≤ g0.1 (11 + 3 * s2) 3 → ((g0.2.2 0 = 6 ∨ g0.2.2 0 = 7) ∧ 0 ≤ x5 - 1 ∧ x5 - 1 < 9 ∧ 0 ≤ x3 - 1 ∧ x3 - 1 < 8 ∧ x5 - 1 < 8 ∧ MXi mX4_costOfMaking [vi (g0.1 (12 + 3 * s1) (x3 - 1).toNat), vi (g0.1 (12 + 3 * s2) (x5 - 1).toNat)] g0 (fun y10 g9 => (g9.2.2 1 = 6 ∨ g9.2.2 1 = 7) ∧ (g9.2.2 0 = 6 ∨ g9.2.2 0 = 7) ∧ 0 ≤ x5 ∧ x5 < 9 ∧ rng (g9.1 (g9.2.2 0) (x5).toNat) ∧ rng (g9.1 (g9.2.2 1) (x5 - 1).toNat) ∧ rng ((g0.1 (g0.2.2 0) (x5 - 1).toNat) + y10) ∧ rng (2 + (min (g9.1 (g9.2.2 0) (x5).toNat) (g9.1 (g9.2.2 1) (x5 - 1).toNat))) ∧ ∀ g20 : GS, g20 = gI g9 (g9.2.2 1) (x5).toNat (min ((g0.1 (g0.2.2 0) (x5 - 1).toNat) + y10) (2 + (min (g9.1 (g9.2.2 0) (x5).toNat) (g9.1 (g9.2.2 1) (x5 - 1).toNat)))) → (XXi mX4_distance 67 [some (vr 5), some (vr (11 + 3 * s1)), some (vr (11 + 3 * s2)), some (vi x3), none, some (vi (x5 + 1)), none] [] g20 P))))) : XXi mX4_distance 67 [some (vr 5), some (vr (11 + 3 * s1)), some (vr (11 + 3 * s2)), some (vi x3), none, some (vi x5), none] [] g0 P := by
  refine ex_iload 69 dX4_distance_67 rfl rfl ?_
  refine ex_aload_n 70 dX4_distance_69 rfl rfl ?_
  refine q_getI 0 3 73 dX4_distance_70 rfl fiX4_18 (Or.inl rfl) (obE hs2) ?_
  obtain ⟨o1, hyp⟩ := hyp
  obtain ⟨o2, hyp⟩ := hyp
  obtain ⟨ht, hf⟩ := hyp
  refine ex_icmp_gt 147 76 dX4_distance_73 (by decide) rfl o1 o2 (fun c22 => ?_) (fun c22 => ?_)
  · have hyp := ht c22
    clear ht hf
    refine q_iinc [some (vr 5), some (vr (11 + 3 * s1)), some (vr (11 + 3 * s2)), some (vi (x3 + 1)), none, some (vi x5), none] 150 dX4_distance_147 rfl rfl (Nat.le_of_ble_eq_true rfl) rfl rfl ?_
    refine ex_goto 27 dX4_distance_150 (by decide) ?_
    refine ex_dropL (ls' := [some (vr 5), some (vr (11 + 3 * s1)), some (vr (11 + 3 * s2)), some (vi (x3 + 1)), none, none, none]) 5 rfl ?_
    exact hyp
  · have hyp := hf c22
    clear ht hf
    refine ex_aload_n 77 dX4_distance_76 rfl rfl ?_
    obtain ⟨o3, hyp⟩ := hyp
    refine q_getR (a := (g0.2.2 0)) 4 0 80 dX4_distance_77 rfl fiX4_9 rfl ⟨_, rfl⟩ (rx5 g0 (by decide)) ?_
    refine ex_iload 82 dX4_distance_80 rfl rfl ?_
    refine ex_iconst 83 dX4_distance_82 rfl ?_
    refine ex_isub 84 dX4_distance_83 rfl ?_
    obtain ⟨o4, hyp⟩ := hyp
    obtain ⟨o5, hyp⟩ := hyp
    refine ex_iald 85 dX4_distance_84 rfl (ai_of (n := 9) (txR o3) o4 o5 (by decide)) ?_
    refine ex_aload_n 86 dX4_distance_85 rfl rfl ?_
    refine q_getR (a := (12 + 3 * s1)) 0 1 89 dX4_distance_86 rfl fiX4_24 rfl (obE hs1) (rxN g0 hs1) ?_
    refine ex_iload_n 90 dX4_distance_89 rfl rfl ?_
    refine ex_iconst 91 dX4_distance_90 rfl ?_
    refine ex_isub 92 dX4_distance_91 rfl ?_
    obtain ⟨o6, hyp⟩ := hyp
    obtain ⟨o7, hyp⟩ := hyp
    refine ex_iald 93 dX4_distance_92 rfl (ai_of (n := 8) (txN _ hs1) o6 o7 (by decide)) ?_
    refine ex_aload_n 94 dX4_distance_93 rfl rfl ?_
    refine q_getR (a := (12 + 3 * s2)) 0 1 97 dX4_distance_94 rfl fiX4_24 rfl (obE hs2) (rxN g0 hs2) ?_
    refine ex_iload 99 dX4_distance_97 rfl rfl ?_
    refine ex_iconst 100 dX4_distance_99 rfl ?_
    refine ex_isub 101 dX4_distance_100 rfl ?_
    obtain ⟨o8, hyp⟩ := hyp
    refine ex_iald 102 dX4_distance_101 rfl (ai_of (n := 8) (txN _ hs2) o4 o8 (by decide)) ?_
    refine s_callSi [vi (g0.1 (12 + 3 * s1) (x3 - 1).toNat), vi (g0.1 (12 + 3 * s2) (x5 - 1).toNat)] 105 dX4_distance_102 rfl cvX4_27 rfl rfl ⟨Nat.le_of_ble_eq_true rfl, Nat.le_of_ble_eq_true rfl⟩ (Nat.le_of_ble_eq_true rfl) hyp (fun y10 h1 hq => ?_)
    obtain ⟨g9, rfl, hyp⟩ := hq
    refine ex_iadd 106 dX4_distance_105 rfl ?_
    refine q_istore [some (vr 5), some (vr (11 + 3 * s1)), some (vr (11 + 3 * s2)), some (vi x3), none, some (vi x5), some (vi ((g0.1 (g0.2.2 0) (x5 - 1).toNat) + y10))] 108 dX4_distance_106 rfl (Nat.le_of_ble_eq_true rfl) rfl rfl ?_
    refine ex_aload_n 109 dX4_distance_108 rfl rfl ?_
    obtain ⟨o11, hyp⟩ := hyp
    refine q_getR (a := (g9.2.2 1)) 4 1 112 dX4_distance_109 rfl fiX4_15 rfl ⟨_, rfl⟩ (rx5 g9 (by decide)) ?_
    refine ex_iload 114 dX4_distance_112 rfl rfl ?_
    refine ex_iload 116 dX4_distance_114 rfl rfl ?_
    refine ex_iconst 117 dX4_distance_116 rfl ?_
    refine ex_aload_n 118 dX4_distance_117 rfl rfl ?_
    obtain ⟨o12, hyp⟩ := hyp
    refine q_getR (a := (g9.2.2 0)) 4 0 121 dX4_distance_118 rfl fiX4_9 rfl ⟨_, rfl⟩ (rx5 g9 (by decide)) ?_
    refine ex_iload 123 dX4_distance_121 rfl rfl ?_
    obtain ⟨o13, hyp⟩ := hyp
    obtain ⟨o14, hyp⟩ := hyp
    refine ex_iald 124 dX4_distance_123 rfl (ai_of (n := 9) (txR o12) o13 o14 (by decide)) ?_
    refine ex_aload_n 125 dX4_distance_124 rfl rfl ?_
    refine q_getR (a := (g9.2.2 1)) 4 1 128 dX4_distance_125 rfl fiX4_15 rfl ⟨_, rfl⟩ (rx5 g9 (by decide)) ?_
    refine ex_iload 130 dX4_distance_128 rfl rfl ?_
    refine ex_iconst 131 dX4_distance_130 rfl ?_
    refine ex_isub 132 dX4_distance_131 rfl ?_
    refine ex_iald 133 dX4_distance_132 rfl (ai_of (n := 9) (txR o11) o4 o5 (by decide)) ?_
    obtain ⟨o15, hyp⟩ := hyp
    obtain ⟨o16, hyp⟩ := hyp
    refine q_min 136 dX4_distance_133 rfl mlX4_31 ⟨Nat.le_of_ble_eq_true rfl, Nat.le_of_ble_eq_true rfl⟩ o15 o16 ?_
    refine ex_iadd 137 dX4_distance_136 rfl ?_
    obtain ⟨o17, hyp⟩ := hyp
    obtain ⟨o18, hyp⟩ := hyp
    refine q_min 140 dX4_distance_137 rfl mlX4_31 ⟨Nat.le_of_ble_eq_true rfl, Nat.le_of_ble_eq_true rfl⟩ o17 o18 ?_
    refine ex_iast 141 dX4_distance_140 rfl (ai_of (n := 9) (txR o11) o13 o14 (by decide)) (fun h1 e19 => ?_)
    obtain ⟨g20, eg21⟩ : ∃ z : GS, z = gI g9 (g9.2.2 1) (x5).toNat (min ((g0.1 (g0.2.2 0) (x5 - 1).toNat) + y10) (2 + (min (g9.1 (g9.2.2 0) (x5).toNat) (g9.1 (g9.2.2 1) (x5 - 1).toNat)))) := ⟨_, rfl⟩
    have hyp := hyp g20 eg21
    obtain rfl : h1 = hX g20 := by rw [e19, eg21]; exact rfl
    clear e19
    refine q_iinc [some (vr 5), some (vr (11 + 3 * s1)), some (vr (11 + 3 * s2)), some (vi x3), none, some (vi (x5 + 1)), some (vi ((g0.1 (g0.2.2 0) (x5 - 1).toNat) + y10))] 144 dX4_distance_141 rfl rfl (Nat.le_of_ble_eq_true rfl) rfl rfl ?_
    refine ex_goto 67 dX4_distance_144 (by decide) ?_
    refine ex_dropL (ls' := [some (vr 5), some (vr (11 + 3 * s1)), some (vr (11 + 3 * s2)), some (vi x3), none, some (vi (x5 + 1)), none]) 6 rfl ?_
    exact hyp
set_option maxRecDepth 4000 in
theorem uX4_costOfMaking {P : Int → GS → Prop} (g0 : GS) (x0 : Int) (x1 : Int) (hyp : rng x0 ∧ rng x1 ∧ (¬ x0 = x1 → (MXi mX4_soundOf [vi x0] g0 (fun y4 g3 => MXi mX4_soundOf [vi x1] g3 (fun y6 g5 => rng y4 ∧ rng y6 ∧ (¬ y4 = y6 → (P 2 g5)) ∧ (y4 = y6 → (P 1 g5)))))) ∧ (x0 = x1 → (P 0 g0))) : MXi mX4_costOfMaking [vi x0, vi x1] g0 P := by
  refine met_of_ex (by decide +kernel) (Nat.le_of_ble_eq_true rfl) ?_
  show EX mX4_costOfMaking 0 [some (vi x0), some (vi x1)] [] (hX g0) (0, 0) _
  refine ex_iload_n 1 dX4_costOfMaking_0 rfl rfl ?_
  refine ex_iload_n 2 dX4_costOfMaking_1 rfl rfl ?_
  obtain ⟨o1, hyp⟩ := hyp
  obtain ⟨o2, hyp⟩ := hyp
  obtain ⟨ht, hf⟩ := hyp
  refine ex_icmp_ne 7 5 dX4_costOfMaking_2 (by decide) rfl o1 o2 (fun c10 => ?_) (fun c10 => ?_)
  · have hyp := ht c10
    clear ht hf
    refine ex_iload_n 8 dX4_costOfMaking_7 rfl rfl ?_
    refine s_callSi [vi x0] 11 dX4_costOfMaking_8 rfl cvX4_36 rfl rfl ⟨Nat.le_of_ble_eq_true rfl, Nat.le_of_ble_eq_true rfl⟩ (Nat.le_of_ble_eq_true rfl) hyp (fun y4 h1 hq => ?_)
    obtain ⟨g3, rfl, hyp⟩ := hq
    refine ex_iload_n 12 dX4_costOfMaking_11 rfl rfl ?_
    refine s_callSi [vi x1] 15 dX4_costOfMaking_12 rfl cvX4_36 rfl rfl ⟨Nat.le_of_ble_eq_true rfl, Nat.le_of_ble_eq_true rfl⟩ (Nat.le_of_ble_eq_true rfl) hyp (fun y6 h1 hq => ?_)
    obtain ⟨g5, rfl, hyp⟩ := hq
    obtain ⟨o7, hyp⟩ := hyp
    obtain ⟨o8, hyp⟩ := hyp
    obtain ⟨ht, hf⟩ := hyp
    refine ex_icmp_ne 22 18 dX4_costOfMaking_15 (by decide) rfl o7 o8 (fun c9 => ?_) (fun c9 => ?_)
    · have hyp := ht c9
      clear ht hf
      refine ex_iconst 23 dX4_costOfMaking_22 rfl ?_
      exact ex_iret dX4_costOfMaking_23 (Or.inl rfl) ⟨_, rfl, _, rfl, hyp⟩
    · have hyp := hf c9
      clear ht hf
      refine ex_iconst 19 dX4_costOfMaking_18 rfl ?_
      refine ex_goto 23 dX4_costOfMaking_19 (by decide) ?_
      exact ex_iret dX4_costOfMaking_23 (Or.inl rfl) ⟨_, rfl, _, rfl, hyp⟩
  · have hyp := hf c10
    clear ht hf
    refine ex_iconst 6 dX4_costOfMaking_5 rfl ?_
    exact ex_iret dX4_costOfMaking_6 (Or.inl rfl) ⟨_, rfl, _, rfl, hyp⟩
set_option maxRecDepth 4000 in
theorem uX5_put {P : GS → Prop} (g0 : GS) (x1 : Int) (hyp : rng (g0.1 1 1) ∧ (60 ≤ g0.1 1 1 → (P g0)) ∧ (g0.1 1 1 < 60 → (0 ≤ g0.1 1 1 ∧ g0.1 1 1 < 60 ∧ ∀ g5 : GS, g5 = gI g0 2 (g0.1 1 1).toNat x1 → (∀ g8 : GS, g8 = gI g5 1 1 ((g5.1 1 1) + 1) → (P g8))))) : MXv mX5_put [vr 1, vi x1] g0 P := by
  refine met_of_ex (by decide +kernel) (Nat.le_of_ble_eq_true rfl) ?_
  show EX mX5_put 0 [some (vr 1), some (vi x1)] [] (hX g0) (0, 0) _
  refine ex_aload_n 1 dX5_put_0 rfl rfl ?_
  refine q_getI 5 1 4 dX5_put_1 rfl fiX5_15 (Or.inl rfl) ⟨_, rfl⟩ ?_
  refine ex_bipush 6 dX5_put_4 rfl ⟨by decide, by decide⟩ ?_
  obtain ⟨o1, hyp⟩ := hyp
  obtain ⟨ht, hf⟩ := hyp
  refine ex_icmp_ge 29 9 dX5_put_6 (by decide) rfl o1 ⟨by decide, by decide⟩ (fun c10 => ?_) (fun c10 => ?_)
  · have hyp := ht c10
    clear ht hf
    exact ex_vret dX5_put_29 rfl ⟨rfl, _, rfl, hyp⟩
  · have hyp := hf c10
    clear ht hf
    refine ex_aload_n 10 dX5_put_9 rfl rfl ?_
    refine q_getR (a := 2) 5 0 13 dX5_put_10 rfl fiX5_9 rfl ⟨_, rfl⟩ rfl ?_
    refine ex_aload_n 14 dX5_put_13 rfl rfl ?_
    refine q_getI 5 1 17 dX5_put_14 rfl fiX5_15 (Or.inl rfl) ⟨_, rfl⟩ ?_
    refine ex_iload_n 18 dX5_put_17 rfl rfl ?_
    obtain ⟨o2, hyp⟩ := hyp
    obtain ⟨o3, hyp⟩ := hyp
    refine ex_iast 19 dX5_put_18 rfl (ai_of (n := 60) rfl o2 o3 (by decide)) (fun h1 e4 => ?_)
    obtain ⟨g5, eg6⟩ : ∃ z : GS, z = gI g0 2 (g0.1 1 1).toNat x1 := ⟨_, rfl⟩
    have hyp := hyp g5 eg6
    obtain rfl : h1 = hX g5 := by rw [e4, eg6]; exact rfl
    clear e4
    refine ex_aload_n 20 dX5_put_19 rfl rfl ?_
    refine ex_dup 21 dX5_put_20 rfl rfl ?_
    refine q_getI 5 1 24 dX5_put_21 rfl fiX5_15 (Or.inl rfl) ⟨_, rfl⟩ ?_
    refine ex_iconst 25 dX5_put_24 rfl ?_
    refine ex_iadd 26 dX5_put_25 rfl ?_
    refine q_putI 5 1 29 dX5_put_26 rfl fiX5_15 ff5_1 rfl ⟨_, rfl⟩ (fun h1 e7 => ?_)
    obtain ⟨g8, eg9⟩ : ∃ z : GS, z = gI g5 1 1 ((g5.1 1 1) + 1) := ⟨_, rfl⟩
    have hyp := hyp g8 eg9
    obtain rfl : h1 = hX g8 := by rw [e7, eg9]; exact rfl
    clear e7
    exact ex_vret dX5_put_29 rfl ⟨rfl, _, rfl, hyp⟩
set_option maxRecDepth 4000 in
theorem uX6_settle {P : GS → Prop} (g0 : GS) (x2 : Int) (hyp : ∀ g2 : GS, g2 = gI g0 65 2 (g0.1 8 2) → (XXv mX6_settle 10 [some (vr 65), some (vr 8), some (vi x2), some (vi 0), none] [] g2 P)) : MXv mX6_settle [vr 65, vr 8, vi x2] g0 P := by
  refine met_of_ex (by decide +kernel) (Nat.le_of_ble_eq_true rfl) ?_
  show EX mX6_settle 0 [some (vr 65), some (vr 8), some (vi x2), none, none] [] (hX g0) (0, 0) _
  refine ex_aload_n 1 dX6_settle_0 rfl rfl ?_
  refine ex_aload_n 2 dX6_settle_1 rfl rfl ?_
  refine q_getI 8 2 5 dX6_settle_2 rfl fiX6_19 (Or.inl rfl) ⟨_, rfl⟩ ?_
  refine q_putI 6 2 8 dX6_settle_5 rfl fiX6_25 ff6_2 rfl ⟨_, rfl⟩ (fun h1 e1 => ?_)
  obtain ⟨g2, eg3⟩ : ∃ z : GS, z = gI g0 65 2 (g0.1 8 2) := ⟨_, rfl⟩
  have hyp := hyp g2 eg3
  obtain rfl : h1 = hX g2 := by rw [e1, eg3]; exact rfl
  clear e1
  refine ex_iconst 9 dX6_settle_8 rfl ?_
  refine q_istore_n [some (vr 65), some (vr 8), some (vi x2), some (vi 0), none] 10 dX6_settle_9 rfl (Nat.le_of_ble_eq_true rfl) rfl rfl ?_
  exact hyp
set_option maxRecDepth 4000 in
theorem uX6_settle_10 {P : GS → Prop} (g0 : GS) (x2 : Int) (x3 : Int) (hyp : rng x3 ∧ rng (g0.1 65 2) ∧ (g0.1 65 2 ≤ x3 → (P g0)) ∧ (x3 < g0.1 65 2 → (0 ≤ x3 ∧ x3 < 18 ∧ ∀ g6 : GS, g6 = gI g0 (86 + (x3).toNat) (x3).toNat (-1) → (XXv mX6_settle 30 [some (vr 65), some (vr 8), some (vi x2), some (vi x3), some (vi 0)] [] g6 P)))) : XXv mX6_settle 10 [some (vr 65), some (vr 8), some (vi x2), some (vi x3), none] [] g0 P := by
  refine ex_iload_n 11 dX6_settle_10 rfl rfl ?_
  refine ex_aload_n 12 dX6_settle_11 rfl rfl ?_
  refine q_getI 6 2 15 dX6_settle_12 rfl fiX6_25 (Or.inl rfl) ⟨_, rfl⟩ ?_
  obtain ⟨o1, hyp⟩ := hyp
  obtain ⟨o2, hyp⟩ := hyp
  obtain ⟨ht, hf⟩ := hyp
  refine ex_icmp_ge 57 18 dX6_settle_15 (by decide) rfl o1 o2 (fun c8 => ?_) (fun c8 => ?_)
  · have hyp := ht c8
    clear ht hf
    exact ex_vret dX6_settle_57 rfl ⟨rfl, _, rfl, hyp⟩
  · have hyp := hf c8
    clear ht hf
    refine ex_aload_n 19 dX6_settle_18 rfl rfl ?_
    refine q_getR (a := 85) 6 1 22 dX6_settle_19 rfl fiX6_16 rfl ⟨_, rfl⟩ rfl ?_
    refine ex_iload_n 23 dX6_settle_22 rfl rfl ?_
    obtain ⟨o3, hyp⟩ := hyp
    obtain ⟨o4, hyp⟩ := hyp
    refine ex_aald (a := (86 + (x3).toNat)) 23 24 dX6_settle_23 rfl (by decide) (ai_of (n := 18) rfl o3 o4 (by decide)) (rxV g0 (ltN (n := 18) o3 o4)) ?_
    refine ex_iload_n 25 dX6_settle_24 rfl rfl ?_
    refine ex_iconst 26 dX6_settle_25 rfl ?_
    refine ex_iast 27 dX6_settle_26 rfl (ai_of (n := 18) (txV _ (ltN (n := 18) o3 o4)) o3 o4 (by decide)) (fun h1 e5 => ?_)
    obtain ⟨g6, eg7⟩ : ∃ z : GS, z = gI g0 (86 + (x3).toNat) (x3).toNat (-1) := ⟨_, rfl⟩
    have hyp := hyp g6 eg7
    obtain rfl : h1 = hX g6 := by rw [e5, eg7]; exact rfl
    clear e5
    refine ex_iconst 28 dX6_settle_27 rfl ?_
    refine q_istore [some (vr 65), some (vr 8), some (vi x2), some (vi x3), some (vi 0)] 30 dX6_settle_28 rfl (Nat.le_of_ble_eq_true rfl) rfl rfl ?_
    exact hyp
set_option maxRecDepth 4000 in
theorem uX6_settle_30 {P : GS → Prop} (g0 : GS) (x2 : Int) (x3 : Int) (x4 : Int) (hyp : rng x4 ∧ rng x3 ∧ (x3 ≤ x4 → (XXv mX6_settle 10 [some (vr 65), some (vr 8), some (vi x2), some (vi (x3 + 1)), none] [] g0 P)) ∧ (x4 < x3 → (MXv mX6_settleTwo [vr 65, vr 8, vi x3, vi x4, vi x2] g0 (fun g3 => XXv mX6_settle 30 [some (vr 65), some (vr 8), some (vi x2), some (vi x3), some (vi (x4 + 1))] [] g3 P)))) : XXv mX6_settle 30 [some (vr 65), some (vr 8), some (vi x2), some (vi x3), some (vi x4)] [] g0 P := by
  refine ex_iload 32 dX6_settle_30 rfl rfl ?_
  refine ex_iload_n 33 dX6_settle_32 rfl rfl ?_
  obtain ⟨o1, hyp⟩ := hyp
  obtain ⟨o2, hyp⟩ := hyp
  obtain ⟨ht, hf⟩ := hyp
  refine ex_icmp_ge 51 36 dX6_settle_33 (by decide) rfl o1 o2 (fun c4 => ?_) (fun c4 => ?_)
  · have hyp := ht c4
    clear ht hf
    refine q_iinc [some (vr 65), some (vr 8), some (vi x2), some (vi (x3 + 1)), some (vi x4)] 54 dX6_settle_51 rfl rfl (Nat.le_of_ble_eq_true rfl) rfl rfl ?_
    refine ex_goto 10 dX6_settle_54 (by decide) ?_
    refine ex_dropL (ls' := [some (vr 65), some (vr 8), some (vi x2), some (vi (x3 + 1)), none]) 4 rfl ?_
    exact hyp
  · have hyp := hf c4
    clear ht hf
    refine ex_aload_n 37 dX6_settle_36 rfl rfl ?_
    refine ex_aload_n 38 dX6_settle_37 rfl rfl ?_
    refine ex_iload_n 39 dX6_settle_38 rfl rfl ?_
    refine ex_iload 41 dX6_settle_39 rfl rfl ?_
    refine ex_iload_n 42 dX6_settle_41 rfl rfl ?_
    refine s_callVv [vr 8, vi x3, vi x4, vi x2] 45 dX6_settle_42 rfl cvX6_26 rfl rfl ⟨Nat.le_of_ble_eq_true rfl, Nat.le_of_ble_eq_true rfl⟩ (Nat.le_of_ble_eq_true rfl) ⟨_, rfl⟩ hyp (fun h1 hq => ?_)
    obtain ⟨g3, rfl, hyp⟩ := hq
    refine q_iinc [some (vr 65), some (vr 8), some (vi x2), some (vi x3), some (vi (x4 + 1))] 48 dX6_settle_45 rfl rfl (Nat.le_of_ble_eq_true rfl) rfl rfl ?_
    refine ex_goto 30 dX6_settle_48 (by decide) ?_
    exact hyp
set_option maxRecDepth 4000 in
theorem uX6_fit {P : Int → GS → Prop} (g0 : GS) (x1 : Int) (x2 : Int) (hyp : 0 ≤ x1 ∧ x1 < 18 ∧ 0 ≤ x2 ∧ x2 < 18 ∧ rng (g0.1 (86 + (x1).toNat) (x2).toNat) ∧ (g0.1 (86 + (x1).toNat) (x2).toNat = (-1) → (P 0 g0)) ∧ (¬ g0.1 (86 + (x1).toNat) (x2).toNat = (-1) → (P 1 g0))) : MXi mX6_fit [vr 65, vi x1, vi x2] g0 P := by
  refine met_of_ex (by decide +kernel) (Nat.le_of_ble_eq_true rfl) ?_
  show EX mX6_fit 0 [some (vr 65), some (vi x1), some (vi x2)] [] (hX g0) (0, 0) _
  refine ex_aload_n 1 dX6_fit_0 rfl rfl ?_
  refine q_getR (a := 85) 6 1 4 dX6_fit_1 rfl fiX6_16 rfl ⟨_, rfl⟩ rfl ?_
  refine ex_iload_n 5 dX6_fit_4 rfl rfl ?_
  obtain ⟨o1, hyp⟩ := hyp
  obtain ⟨o2, hyp⟩ := hyp
  refine ex_aald (a := (86 + (x1).toNat)) 23 6 dX6_fit_5 rfl (by decide) (ai_of (n := 18) rfl o1 o2 (by decide)) (rxV g0 (ltN (n := 18) o1 o2)) ?_
  refine ex_iload_n 7 dX6_fit_6 rfl rfl ?_
  obtain ⟨o3, hyp⟩ := hyp
  obtain ⟨o4, hyp⟩ := hyp
  refine ex_iald 8 dX6_fit_7 rfl (ai_of (n := 18) (txV _ (ltN (n := 18) o1 o2)) o3 o4 (by decide)) ?_
  refine ex_iconst 9 dX6_fit_8 rfl ?_
  obtain ⟨o5, hyp⟩ := hyp
  obtain ⟨ht, hf⟩ := hyp
  refine ex_icmp_eq 16 12 dX6_fit_9 (by decide) rfl o5 ⟨by decide, by decide⟩ (fun c6 => ?_) (fun c6 => ?_)
  · have hyp := ht c6
    clear ht hf
    refine ex_iconst 17 dX6_fit_16 rfl ?_
    exact ex_iret dX6_fit_17 (Or.inr ⟨rfl, Or.inl rfl⟩) ⟨_, rfl, _, rfl, hyp⟩
  · have hyp := hf c6
    clear ht hf
    refine ex_iconst 13 dX6_fit_12 rfl ?_
    refine ex_goto 17 dX6_fit_13 (by decide) ?_
    exact ex_iret dX6_fit_17 (Or.inr ⟨rfl, Or.inr rfl⟩) ⟨_, rfl, _, rfl, hyp⟩
set_option maxRecDepth 4000 in
theorem uX6_countFitting {P : Int → GS → Prop} (g0 : GS) (x1 : Int) (hyp : XXi mX6_countFitting 4 [some (vr 65), some (vi x1), some (vi 0), some (vi 0)] [] g0 P) : MXi mX6_countFitting [vr 65, vi x1] g0 P := by
  refine met_of_ex (by decide +kernel) (Nat.le_of_ble_eq_true rfl) ?_
  show EX mX6_countFitting 0 [some (vr 65), some (vi x1), none, none] [] (hX g0) (0, 0) _
  refine ex_iconst 1 dX6_countFitting_0 rfl ?_
  refine q_istore_n [some (vr 65), some (vi x1), some (vi 0), none] 2 dX6_countFitting_1 rfl (Nat.le_of_ble_eq_true rfl) rfl rfl ?_
  refine ex_iconst 3 dX6_countFitting_2 rfl ?_
  refine q_istore_n [some (vr 65), some (vi x1), some (vi 0), some (vi 0)] 4 dX6_countFitting_3 rfl (Nat.le_of_ble_eq_true rfl) rfl rfl ?_
  exact hyp
set_option maxRecDepth 4000 in
theorem uX6_countFitting_4 {P : Int → GS → Prop} (g0 : GS) (x1 : Int) (x2 : Int) (x3 : Int) (hyp : rng x3 ∧ rng (g0.1 65 2) ∧ (g0.1 65 2 ≤ x3 → (P x2 g0)) ∧ (x3 < g0.1 65 2 → (MXi mX6_fit [vr 65, vi x1, vi x3] g0 (fun y4 g3 => rng y4 ∧ (y4 = 0 → (XXi mX6_countFitting 4 [some (vr 65), some (vi x1), some (vi (x2 + 0)), some (vi (x3 + 1))] [] g3 P)) ∧ (¬ y4 = 0 → (XXi mX6_countFitting 4 [some (vr 65), some (vi x1), some (vi (x2 + 1)), some (vi (x3 + 1))] [] g3 P)))))) : XXi mX6_countFitting 4 [some (vr 65), some (vi x1), some (vi x2), some (vi x3)] [] g0 P := by
  refine ex_iload_n 5 dX6_countFitting_4 rfl rfl ?_
  refine ex_aload_n 6 dX6_countFitting_5 rfl rfl ?_
  refine q_getI 6 2 9 dX6_countFitting_6 rfl fiX6_25 (Or.inl rfl) ⟨_, rfl⟩ ?_
  obtain ⟨o1, hyp⟩ := hyp
  obtain ⟨o2, hyp⟩ := hyp
  obtain ⟨ht, hf⟩ := hyp
  refine ex_icmp_ge 35 12 dX6_countFitting_9 (by decide) rfl o1 o2 (fun c7 => ?_) (fun c7 => ?_)
  · have hyp := ht c7
    clear ht hf
    refine ex_iload_n 36 dX6_countFitting_35 rfl rfl ?_
    exact ex_iret dX6_countFitting_36 (Or.inl rfl) ⟨_, rfl, _, rfl, hyp⟩
  · have hyp := hf c7
    clear ht hf
    refine ex_iload_n 13 dX6_countFitting_12 rfl rfl ?_
    refine ex_aload_n 14 dX6_countFitting_13 rfl rfl ?_
    refine ex_iload_n 15 dX6_countFitting_14 rfl rfl ?_
    refine ex_iload_n 16 dX6_countFitting_15 rfl rfl ?_
    refine s_callVi [vi x1, vi x3] 19 dX6_countFitting_16 rfl cvX6_30 rfl rfl ⟨Nat.le_of_ble_eq_true rfl, Nat.le_of_ble_eq_true rfl⟩ (Nat.le_of_ble_eq_true rfl) ⟨_, rfl⟩ hyp (fun y4 h1 hq => ?_)
    obtain ⟨g3, rfl, hyp⟩ := hq
    obtain ⟨o5, hyp⟩ := hyp
    obtain ⟨ht, hf⟩ := hyp
    refine ex_if_eq 26 22 dX6_countFitting_19 (by decide) rfl o5 (fun c6 => ?_) (fun c6 => ?_)
    · have hyp := ht c6
      clear ht hf
      refine ex_iconst 27 dX6_countFitting_26 rfl ?_
      refine ex_iadd 28 dX6_countFitting_27 rfl ?_
      refine q_istore_n [some (vr 65), some (vi x1), some (vi (x2 + 0)), some (vi x3)] 29 dX6_countFitting_28 rfl (Nat.le_of_ble_eq_true rfl) rfl rfl ?_
      refine q_iinc [some (vr 65), some (vi x1), some (vi (x2 + 0)), some (vi (x3 + 1))] 32 dX6_countFitting_29 rfl rfl (Nat.le_of_ble_eq_true rfl) rfl rfl ?_
      refine ex_goto 4 dX6_countFitting_32 (by decide) ?_
      exact hyp
    · have hyp := hf c6
      clear ht hf
      refine ex_iconst 23 dX6_countFitting_22 rfl ?_
      refine ex_goto 27 dX6_countFitting_23 (by decide) ?_
      refine ex_iadd 28 dX6_countFitting_27 rfl ?_
      refine q_istore_n [some (vr 65), some (vi x1), some (vi (x2 + 1)), some (vi x3)] 29 dX6_countFitting_28 rfl (Nat.le_of_ble_eq_true rfl) rfl rfl ?_
      refine q_iinc [some (vr 65), some (vi x1), some (vi (x2 + 1)), some (vi (x3 + 1))] 32 dX6_countFitting_29 rfl rfl (Nat.le_of_ble_eq_true rfl) rfl rfl ?_
      refine ex_goto 4 dX6_countFitting_32 (by decide) ?_
      exact hyp
set_option maxRecDepth 4000 in
theorem uX6_bestFor {P : Int → GS → Prop} (g0 : GS) (x1 : Int) (hyp : XXi mX6_bestFor 4 [some (vr 65), some (vi x1), some (vi (-1)), some (vi 0)] [] g0 P) : MXi mX6_bestFor [vr 65, vi x1] g0 P := by
  refine met_of_ex (by decide +kernel) (Nat.le_of_ble_eq_true rfl) ?_
  show EX mX6_bestFor 0 [some (vr 65), some (vi x1), none, none] [] (hX g0) (0, 0) _
  refine ex_iconst 1 dX6_bestFor_0 rfl ?_
  refine q_istore_n [some (vr 65), some (vi x1), some (vi (-1)), none] 2 dX6_bestFor_1 rfl (Nat.le_of_ble_eq_true rfl) rfl rfl ?_
  refine ex_iconst 3 dX6_bestFor_2 rfl ?_
  refine q_istore_n [some (vr 65), some (vi x1), some (vi (-1)), some (vi 0)] 4 dX6_bestFor_3 rfl (Nat.le_of_ble_eq_true rfl) rfl rfl ?_
  exact hyp
set_option maxRecDepth 4000 in
theorem uX6_bestFor_4 {P : Int → GS → Prop} (g0 : GS) (x1 : Int) (x2 : Int) (x3 : Int) (hyp : rng x3 ∧ rng (g0.1 65 2) ∧ (g0.1 65 2 ≤ x3 → (P x2 g0)) ∧ (x3 < g0.1 65 2 → (MXi mX6_fit [vr 65, vi x1, vi x3] g0 (fun y4 g3 => rng y4 ∧ (y4 = 0 → (XXi mX6_bestFor 4 [some (vr 65), some (vi x1), some (vi x2), some (vi (x3 + 1))] [] g3 P)) ∧ (¬ y4 = 0 → (rng x2 ∧ (x2 = (-1) → (XXi mX6_bestFor 4 [some (vr 65), some (vi x1), some (vi x3), some (vi (x3 + 1))] [] g3 P)) ∧ (¬ x2 = (-1) → (0 ≤ x1 ∧ x1 < 18 ∧ 0 ≤ x3 ∧ x3 < 18 ∧ 0 ≤ x2 ∧ x2 < 18 ∧ rng (g3.1 (86 + (x1).toNat) (x3).toNat) ∧ rng (g3.1 (86 + (x1).toNat) (x2).toNat) ∧ (g3.1 (86 + (x1).toNat) (x3).toNat ≤ g3.1 (86 + (x1).toNat) (x2).toNat → (XXi mX6_bestFor 4 [some (vr 65), some (vi x1), some (vi x2), some (vi (x3 + 1))] [] g3 P)) ∧ (g3.1 (86 + (x1).toNat) (x2).toNat < g3.1 (86 + (x1).toNat) (x3).toNat → (XXi mX6_bestFor 4 [some (vr 65), some (vi x1), some (vi x3), some (vi (x3 + 1))] [] g3 P)))))))))) : XXi mX6_bestFor 4 [some (vr 65), some (vi x1), some (vi x2), some (vi x3)] [] g0 P := by
  refine ex_iload_n 5 dX6_bestFor_4 rfl rfl ?_
  refine ex_aload_n 6 dX6_bestFor_5 rfl rfl ?_
  refine q_getI 6 2 9 dX6_bestFor_6 rfl fiX6_25 (Or.inl rfl) ⟨_, rfl⟩ ?_
  obtain ⟨o1, hyp⟩ := hyp
  obtain ⟨o2, hyp⟩ := hyp
  obtain ⟨ht, hf⟩ := hyp
  refine ex_icmp_ge 53 12 dX6_bestFor_9 (by decide) rfl o1 o2 (fun c18 => ?_) (fun c18 => ?_)
  · have hyp := ht c18
    clear ht hf
    refine ex_iload_n 54 dX6_bestFor_53 rfl rfl ?_
    exact ex_iret dX6_bestFor_54 (Or.inl rfl) ⟨_, rfl, _, rfl, hyp⟩
  · have hyp := hf c18
    clear ht hf
    refine ex_aload_n 13 dX6_bestFor_12 rfl rfl ?_
    refine ex_iload_n 14 dX6_bestFor_13 rfl rfl ?_
    refine ex_iload_n 15 dX6_bestFor_14 rfl rfl ?_
    refine s_callVi [vi x1, vi x3] 18 dX6_bestFor_15 rfl cvX6_30 rfl rfl ⟨Nat.le_of_ble_eq_true rfl, Nat.le_of_ble_eq_true rfl⟩ (Nat.le_of_ble_eq_true rfl) ⟨_, rfl⟩ hyp (fun y4 h1 hq => ?_)
    obtain ⟨g3, rfl, hyp⟩ := hq
    obtain ⟨o5, hyp⟩ := hyp
    obtain ⟨ht, hf⟩ := hyp
    refine ex_if_eq 47 21 dX6_bestFor_18 (by decide) rfl o5 (fun c17 => ?_) (fun c17 => ?_)
    · have hyp := ht c17
      clear ht hf
      refine q_iinc [some (vr 65), some (vi x1), some (vi x2), some (vi (x3 + 1))] 50 dX6_bestFor_47 rfl rfl (Nat.le_of_ble_eq_true rfl) rfl rfl ?_
      refine ex_goto 4 dX6_bestFor_50 (by decide) ?_
      exact hyp
    · have hyp := hf c17
      clear ht hf
      refine ex_iload_n 22 dX6_bestFor_21 rfl rfl ?_
      refine ex_iconst 23 dX6_bestFor_22 rfl ?_
      obtain ⟨o6, hyp⟩ := hyp
      obtain ⟨ht, hf⟩ := hyp
      refine ex_icmp_eq 45 26 dX6_bestFor_23 (by decide) rfl o6 ⟨by decide, by decide⟩ (fun c16 => ?_) (fun c16 => ?_)
      · have hyp := ht c16
        clear ht hf
        refine ex_iload_n 46 dX6_bestFor_45 rfl rfl ?_
        refine q_istore_n [some (vr 65), some (vi x1), some (vi x3), some (vi x3)] 47 dX6_bestFor_46 rfl (Nat.le_of_ble_eq_true rfl) rfl rfl ?_
        refine q_iinc [some (vr 65), some (vi x1), some (vi x3), some (vi (x3 + 1))] 50 dX6_bestFor_47 rfl rfl (Nat.le_of_ble_eq_true rfl) rfl rfl ?_
        refine ex_goto 4 dX6_bestFor_50 (by decide) ?_
        exact hyp
      · have hyp := hf c16
        clear ht hf
        refine ex_aload_n 27 dX6_bestFor_26 rfl rfl ?_
        refine q_getR (a := 85) 6 1 30 dX6_bestFor_27 rfl fiX6_16 rfl ⟨_, rfl⟩ rfl ?_
        refine ex_iload_n 31 dX6_bestFor_30 rfl rfl ?_
        obtain ⟨o7, hyp⟩ := hyp
        obtain ⟨o8, hyp⟩ := hyp
        refine ex_aald (a := (86 + (x1).toNat)) 23 32 dX6_bestFor_31 rfl (by decide) (ai_of (n := 18) rfl o7 o8 (by decide)) (rxV g3 (ltN (n := 18) o7 o8)) ?_
        refine ex_iload_n 33 dX6_bestFor_32 rfl rfl ?_
        obtain ⟨o9, hyp⟩ := hyp
        obtain ⟨o10, hyp⟩ := hyp
        refine ex_iald 34 dX6_bestFor_33 rfl (ai_of (n := 18) (txV _ (ltN (n := 18) o7 o8)) o9 o10 (by decide)) ?_
        refine ex_aload_n 35 dX6_bestFor_34 rfl rfl ?_
        refine q_getR (a := 85) 6 1 38 dX6_bestFor_35 rfl fiX6_16 rfl ⟨_, rfl⟩ rfl ?_
        refine ex_iload_n 39 dX6_bestFor_38 rfl rfl ?_
        refine ex_aald (a := (86 + (x1).toNat)) 23 40 dX6_bestFor_39 rfl (by decide) (ai_of (n := 18) rfl o7 o8 (by decide)) (rxV g3 (ltN (n := 18) o7 o8)) ?_
        refine ex_iload_n 41 dX6_bestFor_40 rfl rfl ?_
        obtain ⟨o11, hyp⟩ := hyp
        obtain ⟨o12, hyp⟩ := hyp
        refine ex_iald 42 dX6_bestFor_41 rfl (ai_of (n := 18) (txV _ (ltN (n := 18) o7 o8)) o11 o12 (by decide)) ?_
        obtain ⟨o13, hyp⟩ := hyp
        obtain ⟨o14, hyp⟩ := hyp
        obtain ⟨ht, hf⟩ := hyp
        refine ex_icmp_le 47 45 dX6_bestFor_42 (by decide) rfl o13 o14 (fun c15 => ?_) (fun c15 => ?_)
        · have hyp := ht c15
          clear ht hf
          refine q_iinc [some (vr 65), some (vi x1), some (vi x2), some (vi (x3 + 1))] 50 dX6_bestFor_47 rfl rfl (Nat.le_of_ble_eq_true rfl) rfl rfl ?_
          refine ex_goto 4 dX6_bestFor_50 (by decide) ?_
          exact hyp
        · have hyp := hf c15
          clear ht hf
          refine ex_iload_n 46 dX6_bestFor_45 rfl rfl ?_
          refine q_istore_n [some (vr 65), some (vi x1), some (vi x3), some (vi x3)] 47 dX6_bestFor_46 rfl (Nat.le_of_ble_eq_true rfl) rfl rfl ?_
          refine q_iinc [some (vr 65), some (vi x1), some (vi x3), some (vi (x3 + 1))] 50 dX6_bestFor_47 rfl rfl (Nat.le_of_ble_eq_true rfl) rfl rfl ?_
          refine ex_goto 4 dX6_bestFor_50 (by decide) ?_
          exact hyp
set_option maxRecDepth 4000 in
theorem uX6_fitFirst {P : Int → GS → Prop} (g0 : GS) (x1 : Int) (s2 : Nat) (hs2 : s2 < 18) (x3 : Int) (hyp : XXi mX6_fitFirst 3 [some (vr 65), some (vi x1), some (vr (122 + 2 * s2)), some (vi x3), some (vi 0)] [] g0 P) : MXi mX6_fitFirst [vr 65, vi x1, vr (122 + 2 * s2), vi x3] g0 P := by
  refine met_of_ex (by decide +kernel) (Nat.le_of_ble_eq_true rfl) ?_
  show EX mX6_fitFirst 0 [some (vr 65), some (vi x1), some (vr (122 + 2 * s2)), some (vi x3), none] [] (hX g0) (0, 0) _
  refine ex_iconst 1 dX6_fitFirst_0 rfl ?_
  refine q_istore [some (vr 65), some (vi x1), some (vr (122 + 2 * s2)), some (vi x3), some (vi 0)] 3 dX6_fitFirst_1 rfl (Nat.le_of_ble_eq_true rfl) rfl rfl ?_
  exact hyp
set_option maxRecDepth 4000 in
theorem uX6_fitFirst_3 {P : Int → GS → Prop} (g0 : GS) (x1 : Int) (s2 : Nat) (hs2 : s2 < 18) (x3 : Int) (x4 : Int) (hyp : rng x4 ∧ rng x3 ∧ (x3 ≤ x4 → (P 1 g0)) ∧ (x4 < x3 → (0 ≤ x4 ∧ x4 < 5 ∧ MXi mX6_fit [vr 65, vi x1, vi (g0.1 (122 + 2 * s2) (x4).toNat)] g0 (fun y6 g5 => rng y6 ∧ (¬ y6 = 0 → (XXi mX6_fitFirst 3 [some (vr 65), some (vi x1), some (vr (122 + 2 * s2)), some (vi x3), some (vi (x4 + 1))] [] g5 P)) ∧ (y6 = 0 → (P 0 g5)))))) : XXi mX6_fitFirst 3 [some (vr 65), some (vi x1), some (vr (122 + 2 * s2)), some (vi x3), some (vi x4)] [] g0 P := by
  refine ex_iload 5 dX6_fitFirst_3 rfl rfl ?_
  refine ex_iload_n 6 dX6_fitFirst_5 rfl rfl ?_
  obtain ⟨o1, hyp⟩ := hyp
  obtain ⟨o2, hyp⟩ := hyp
  obtain ⟨ht, hf⟩ := hyp
  refine ex_icmp_ge 29 9 dX6_fitFirst_6 (by decide) rfl o1 o2 (fun c9 => ?_) (fun c9 => ?_)
  · have hyp := ht c9
    clear ht hf
    refine ex_iconst 30 dX6_fitFirst_29 rfl ?_
    exact ex_iret dX6_fitFirst_30 (Or.inr ⟨rfl, Or.inr rfl⟩) ⟨_, rfl, _, rfl, hyp⟩
  · have hyp := hf c9
    clear ht hf
    refine ex_aload_n 10 dX6_fitFirst_9 rfl rfl ?_
    refine ex_iload_n 11 dX6_fitFirst_10 rfl rfl ?_
    refine ex_aload_n 12 dX6_fitFirst_11 rfl rfl ?_
    refine ex_iload 14 dX6_fitFirst_12 rfl rfl ?_
    obtain ⟨o3, hyp⟩ := hyp
    obtain ⟨o4, hyp⟩ := hyp
    refine ex_iald 15 dX6_fitFirst_14 rfl (ai_of (n := 5) (txQ _ hs2) o3 o4 (by decide)) ?_
    refine s_callVi [vi x1, vi (g0.1 (122 + 2 * s2) (x4).toNat)] 18 dX6_fitFirst_15 rfl cvX6_30 rfl rfl ⟨Nat.le_of_ble_eq_true rfl, Nat.le_of_ble_eq_true rfl⟩ (Nat.le_of_ble_eq_true rfl) ⟨_, rfl⟩ hyp (fun y6 h1 hq => ?_)
    obtain ⟨g5, rfl, hyp⟩ := hq
    obtain ⟨o7, hyp⟩ := hyp
    obtain ⟨ht, hf⟩ := hyp
    refine ex_if_ne 23 21 dX6_fitFirst_18 (by decide) rfl o7 (fun c8 => ?_) (fun c8 => ?_)
    · have hyp := ht c8
      clear ht hf
      refine q_iinc [some (vr 65), some (vi x1), some (vr (122 + 2 * s2)), some (vi x3), some (vi (x4 + 1))] 26 dX6_fitFirst_23 rfl rfl (Nat.le_of_ble_eq_true rfl) rfl rfl ?_
      refine ex_goto 3 dX6_fitFirst_26 (by decide) ?_
      exact hyp
    · have hyp := hf c8
      clear ht hf
      refine ex_iconst 22 dX6_fitFirst_21 rfl ?_
      exact ex_iret dX6_fitFirst_22 (Or.inr ⟨rfl, Or.inl rfl⟩) ⟨_, rfl, _, rfl, hyp⟩
set_option maxRecDepth 4000 in
theorem uX6_meanWorth {P : Int → GS → Prop} (g0 : GS) (x1 : Int) (s2 : Nat) (hs2 : s2 < 18) (x3 : Int) (hyp : rng x3 ∧ (0 < x3 → (XXi mX6_meanWorth 12 [some (vr 65), some (vi x1), some (vr (122 + 2 * s2)), some (vi x3), some (vi 0), some (vi 0)] [] g0 P)) ∧ (x3 ≤ 0 → (P (-1) g0))) : MXi mX6_meanWorth [vr 65, vi x1, vr (122 + 2 * s2), vi x3] g0 P := by
  refine met_of_ex (by decide +kernel) (Nat.le_of_ble_eq_true rfl) ?_
  show EX mX6_meanWorth 0 [some (vr 65), some (vi x1), some (vr (122 + 2 * s2)), some (vi x3), none, none] [] (hX g0) (0, 0) _
  refine ex_iload_n 1 dX6_meanWorth_0 rfl rfl ?_
  obtain ⟨o1, hyp⟩ := hyp
  obtain ⟨ht, hf⟩ := hyp
  refine ex_if_gt 6 4 dX6_meanWorth_1 (by decide) rfl o1 (fun c2 => ?_) (fun c2 => ?_)
  · have hyp := ht c2
    clear ht hf
    refine ex_iconst 7 dX6_meanWorth_6 rfl ?_
    refine q_istore [some (vr 65), some (vi x1), some (vr (122 + 2 * s2)), some (vi x3), some (vi 0), none] 9 dX6_meanWorth_7 rfl (Nat.le_of_ble_eq_true rfl) rfl rfl ?_
    refine ex_iconst 10 dX6_meanWorth_9 rfl ?_
    refine q_istore [some (vr 65), some (vi x1), some (vr (122 + 2 * s2)), some (vi x3), some (vi 0), some (vi 0)] 12 dX6_meanWorth_10 rfl (Nat.le_of_ble_eq_true rfl) rfl rfl ?_
    exact hyp
  · have hyp := hf c2
    clear ht hf
    refine ex_iconst 5 dX6_meanWorth_4 rfl ?_
    exact ex_iret dX6_meanWorth_5 (Or.inl rfl) ⟨_, rfl, _, rfl, hyp⟩
set_option maxRecDepth 4000 in
theorem uX6_meanWorth_12 {P : Int → GS → Prop} (g0 : GS) (x1 : Int) (s2 : Nat) (hs2 : s2 < 18) (x3 : Int) (x4 : Int) (x5 : Int) (hyp : rng x5 ∧ rng x3 ∧ (x3 ≤ x5 → (rng x4 ∧ ¬ x3 = 0 ∧ P (Int.tdiv x4 x3) g0)) ∧ (x5 < x3 → (0 ≤ x1 ∧ x1 < 18 ∧ 0 ≤ x5 ∧ x5 < 5 ∧ 0 ≤ g0.1 (122 + 2 * s2) (x5).toNat ∧ g0.1 (122 + 2 * s2) (x5).toNat < 18 ∧ XXi mX6_meanWorth 12 [some (vr 65), some (vi x1), some (vr (122 + 2 * s2)), some (vi x3), some (vi (x4 + (g0.1 (86 + (x1).toNat) (g0.1 (122 + 2 * s2) (x5).toNat).toNat))), some (vi (x5 + 1))] [] g0 P))) : XXi mX6_meanWorth 12 [some (vr 65), some (vi x1), some (vr (122 + 2 * s2)), some (vi x3), some (vi x4), some (vi x5)] [] g0 P := by
  refine ex_iload 14 dX6_meanWorth_12 rfl rfl ?_
  refine ex_iload_n 15 dX6_meanWorth_14 rfl rfl ?_
  obtain ⟨o1, hyp⟩ := hyp
  obtain ⟨o2, hyp⟩ := hyp
  obtain ⟨ht, hf⟩ := hyp
  refine ex_icmp_ge 40 18 dX6_meanWorth_15 (by decide) rfl o1 o2 (fun c11 => ?_) (fun c11 => ?_)
  · have hyp := ht c11
    clear ht hf
    refine ex_iload 42 dX6_meanWorth_40 rfl rfl ?_
    refine ex_iload_n 43 dX6_meanWorth_42 rfl rfl ?_
    obtain ⟨o3, hyp⟩ := hyp
    obtain ⟨o4, hyp⟩ := hyp
    refine ex_idiv 44 dX6_meanWorth_43 rfl o3 o2 o4 ?_
    exact ex_iret dX6_meanWorth_44 (Or.inl rfl) ⟨_, rfl, _, rfl, hyp⟩
  · have hyp := hf c11
    clear ht hf
    refine ex_iload 20 dX6_meanWorth_18 rfl rfl ?_
    refine ex_aload_n 21 dX6_meanWorth_20 rfl rfl ?_
    refine q_getR (a := 85) 6 1 24 dX6_meanWorth_21 rfl fiX6_16 rfl ⟨_, rfl⟩ rfl ?_
    refine ex_iload_n 25 dX6_meanWorth_24 rfl rfl ?_
    obtain ⟨o5, hyp⟩ := hyp
    obtain ⟨o6, hyp⟩ := hyp
    refine ex_aald (a := (86 + (x1).toNat)) 23 26 dX6_meanWorth_25 rfl (by decide) (ai_of (n := 18) rfl o5 o6 (by decide)) (rxV g0 (ltN (n := 18) o5 o6)) ?_
    refine ex_aload_n 27 dX6_meanWorth_26 rfl rfl ?_
    refine ex_iload 29 dX6_meanWorth_27 rfl rfl ?_
    obtain ⟨o7, hyp⟩ := hyp
    obtain ⟨o8, hyp⟩ := hyp
    refine ex_iald 30 dX6_meanWorth_29 rfl (ai_of (n := 5) (txQ _ hs2) o7 o8 (by decide)) ?_
    obtain ⟨o9, hyp⟩ := hyp
    obtain ⟨o10, hyp⟩ := hyp
    refine ex_iald 31 dX6_meanWorth_30 rfl (ai_of (n := 18) (txV _ (ltN (n := 18) o5 o6)) o9 o10 (by decide)) ?_
    refine ex_iadd 32 dX6_meanWorth_31 rfl ?_
    refine q_istore [some (vr 65), some (vi x1), some (vr (122 + 2 * s2)), some (vi x3), some (vi (x4 + (g0.1 (86 + (x1).toNat) (g0.1 (122 + 2 * s2) (x5).toNat).toNat))), some (vi x5)] 34 dX6_meanWorth_32 rfl (Nat.le_of_ble_eq_true rfl) rfl rfl ?_
    refine q_iinc [some (vr 65), some (vi x1), some (vr (122 + 2 * s2)), some (vi x3), some (vi (x4 + (g0.1 (86 + (x1).toNat) (g0.1 (122 + 2 * s2) (x5).toNat).toNat))), some (vi (x5 + 1))] 37 dX6_meanWorth_34 rfl rfl (Nat.le_of_ble_eq_true rfl) rfl rfl ?_
    refine ex_goto 12 dX6_meanWorth_37 (by decide) ?_
    exact hyp
set_option maxRecDepth 4000 in
theorem uX6_settleTwo {P : GS → Prop} (g0 : GS) (x2 : Int) (x3 : Int) (x4 : Int) (hyp : 0 ≤ x2 ∧ x2 < 18 ∧ g0.2.1 (x2).toNat < 18 ∧ 0 ≤ x3 ∧ x3 < 18 ∧ g0.2.1 (x3).toNat < 18 ∧ MXi mX6_whyNot [vr (11 + 3 * (g0.2.1 (x2).toNat)), vr (11 + 3 * (g0.2.1 (x3).toNat)), vi x4] g0 (fun y8 g7 => MXi mX0_yearsWith [vr (11 + 3 * (g0.2.1 (x2).toNat)), vr (11 + 3 * (g0.2.1 (x3).toNat))] g7 (fun y10 g9 => rng y8 ∧ (¬ y8 = 0 → (∀ g13 : GS, g13 = gI g9 (67 + (x2).toNat) (x3).toNat y8 → (∀ g16 : GS, g16 = gI g13 (67 + (x3).toNat) (x2).toNat y8 → (∀ g19 : GS, g19 = gI g16 (86 + (x2).toNat) (x3).toNat (-1) → (∀ g22 : GS, g22 = gI g19 (86 + (x3).toNat) (x2).toNat (-1) → (P g22)))))) ∧ (y8 = 0 → (rng y10 ∧ (y10 ≤ 0 → (∀ g26 : GS, g26 = gI g9 (67 + (x2).toNat) (x3).toNat y8 → (∀ g29 : GS, g29 = gI g26 (67 + (x3).toNat) (x2).toNat y8 → (∀ g32 : GS, g32 = gI g29 (86 + (x2).toNat) (x3).toNat (-1) → (∀ g35 : GS, g35 = gI g32 (86 + (x3).toNat) (x2).toNat (-1) → (P g35)))))) ∧ (0 < y10 → (MXi mX0_likenessTo [vr (11 + 3 * (g0.2.1 (x2).toNat)), vr (11 + 3 * (g0.2.1 (x3).toNat))] g9 (fun y38 g37 => ¬ y10 = 0 ∧ ∀ g41 : GS, g41 = gI g37 (67 + (x2).toNat) (x3).toNat y8 → (∀ g44 : GS, g44 = gI g41 (67 + (x3).toNat) (x2).toNat y8 → (∀ g47 : GS, g47 = gI g44 (86 + (x2).toNat) (x3).toNat (y38 + (Int.tdiv 200 y10)) → (∀ g50 : GS, g50 = gI g47 (86 + (x3).toNat) (x2).toNat (y38 + (Int.tdiv 200 y10)) → (P g50)))))))))))) : MXv mX6_settleTwo [vr 65, vr 8, vi x2, vi x3, vi x4] g0 P := by
  refine met_of_ex (by decide +kernel) (Nat.le_of_ble_eq_true rfl) ?_
  show EX mX6_settleTwo 0 [some (vr 65), some (vr 8), some (vi x2), some (vi x3), some (vi x4), none, none, none, none, none] [] (hX g0) (0, 0) _
  refine ex_aload_n 1 dX6_settleTwo_0 rfl rfl ?_
  refine q_getR (a := 9) 8 0 4 dX6_settleTwo_1 rfl fiX6_34 rfl ⟨_, rfl⟩ rfl ?_
  refine ex_iload_n 5 dX6_settleTwo_4 rfl rfl ?_
  obtain ⟨o1, hyp⟩ := hyp
  obtain ⟨o2, hyp⟩ := hyp
  obtain ⟨o3, hyp⟩ := hyp
  refine ex_aald (a := (11 + 3 * (g0.2.1 (x2).toNat))) 21 6 dX6_settleTwo_5 rfl (by decide) (ai_of (n := 18) rfl o1 o2 (by decide)) (rxR g0 (ltN (n := 18) o1 o2)) ?_
  refine q_astore [some (vr 65), some (vr 8), some (vi x2), some (vi x3), some (vi x4), some (vr (11 + 3 * (g0.2.1 (x2).toNat))), none, none, none, none] 8 dX6_settleTwo_6 rfl (Nat.le_of_ble_eq_true rfl) rfl rfl ?_
  refine ex_aload_n 9 dX6_settleTwo_8 rfl rfl ?_
  refine q_getR (a := 9) 8 0 12 dX6_settleTwo_9 rfl fiX6_34 rfl ⟨_, rfl⟩ rfl ?_
  refine ex_iload_n 13 dX6_settleTwo_12 rfl rfl ?_
  obtain ⟨o4, hyp⟩ := hyp
  obtain ⟨o5, hyp⟩ := hyp
  obtain ⟨o6, hyp⟩ := hyp
  refine ex_aald (a := (11 + 3 * (g0.2.1 (x3).toNat))) 21 14 dX6_settleTwo_13 rfl (by decide) (ai_of (n := 18) rfl o4 o5 (by decide)) (rxR g0 (ltN (n := 18) o4 o5)) ?_
  refine q_astore [some (vr 65), some (vr 8), some (vi x2), some (vi x3), some (vi x4), some (vr (11 + 3 * (g0.2.1 (x2).toNat))), some (vr (11 + 3 * (g0.2.1 (x3).toNat))), none, none, none] 16 dX6_settleTwo_14 rfl (Nat.le_of_ble_eq_true rfl) rfl rfl ?_
  refine ex_aload 18 dX6_settleTwo_16 rfl rfl ?_
  refine ex_aload 20 dX6_settleTwo_18 rfl rfl ?_
  refine ex_iload 22 dX6_settleTwo_20 rfl rfl ?_
  refine s_callSi [vr (11 + 3 * (g0.2.1 (x2).toNat)), vr (11 + 3 * (g0.2.1 (x3).toNat)), vi x4] 25 dX6_settleTwo_22 rfl cvX6_38 rfl rfl ⟨Nat.le_of_ble_eq_true rfl, Nat.le_of_ble_eq_true rfl⟩ (Nat.le_of_ble_eq_true rfl) hyp (fun y8 h1 hq => ?_)
  obtain ⟨g7, rfl, hyp⟩ := hq
  refine q_istore [some (vr 65), some (vr 8), some (vi x2), some (vi x3), some (vi x4), some (vr (11 + 3 * (g0.2.1 (x2).toNat))), some (vr (11 + 3 * (g0.2.1 (x3).toNat))), some (vi y8), none, none] 27 dX6_settleTwo_25 rfl (Nat.le_of_ble_eq_true rfl) rfl rfl ?_
  refine ex_aload 29 dX6_settleTwo_27 rfl rfl ?_
  refine ex_aload 31 dX6_settleTwo_29 rfl rfl ?_
  refine s_callVi [vr (11 + 3 * (g0.2.1 (x3).toNat))] 34 dX6_settleTwo_31 rfl cvX6_42 rfl rfl ⟨Nat.le_of_ble_eq_true rfl, Nat.le_of_ble_eq_true rfl⟩ (Nat.le_of_ble_eq_true rfl) (obE o3) hyp (fun y10 h1 hq => ?_)
  obtain ⟨g9, rfl, hyp⟩ := hq
  refine q_istore [some (vr 65), some (vr 8), some (vi x2), some (vi x3), some (vi x4), some (vr (11 + 3 * (g0.2.1 (x2).toNat))), some (vr (11 + 3 * (g0.2.1 (x3).toNat))), some (vi y8), some (vi y10), none] 36 dX6_settleTwo_34 rfl (Nat.le_of_ble_eq_true rfl) rfl rfl ?_
  refine ex_iload 38 dX6_settleTwo_36 rfl rfl ?_
  obtain ⟨o11, hyp⟩ := hyp
  obtain ⟨ht, hf⟩ := hyp
  refine ex_if_ne 63 41 dX6_settleTwo_38 (by decide) rfl o11 (fun c53 => ?_) (fun c53 => ?_)
  · have hyp := ht c53
    clear ht hf
    refine ex_iconst 64 dX6_settleTwo_63 rfl ?_
    refine q_istore [some (vr 65), some (vr 8), some (vi x2), some (vi x3), some (vi x4), some (vr (11 + 3 * (g0.2.1 (x2).toNat))), some (vr (11 + 3 * (g0.2.1 (x3).toNat))), some (vi y8), some (vi y10), some (vi (-1))] 66 dX6_settleTwo_64 rfl (Nat.le_of_ble_eq_true rfl) rfl rfl ?_
    refine ex_aload_n 67 dX6_settleTwo_66 rfl rfl ?_
    refine q_getR (a := 66) 6 0 70 dX6_settleTwo_67 rfl fiX6_11 rfl ⟨_, rfl⟩ rfl ?_
    refine ex_iload_n 71 dX6_settleTwo_70 rfl rfl ?_
    refine ex_aald (a := (67 + (x2).toNat)) 23 72 dX6_settleTwo_71 rfl (by decide) (ai_of (n := 18) rfl o1 o2 (by decide)) (rxW g9 (ltN (n := 18) o1 o2)) ?_
    refine ex_iload_n 73 dX6_settleTwo_72 rfl rfl ?_
    refine ex_iload 75 dX6_settleTwo_73 rfl rfl ?_
    refine ex_iast 76 dX6_settleTwo_75 rfl (ai_of (n := 18) (txW _ (ltN (n := 18) o1 o2)) o4 o5 (by decide)) (fun h1 e12 => ?_)
    obtain ⟨g13, eg14⟩ : ∃ z : GS, z = gI g9 (67 + (x2).toNat) (x3).toNat y8 := ⟨_, rfl⟩
    have hyp := hyp g13 eg14
    obtain rfl : h1 = hX g13 := by rw [e12, eg14]; exact rfl
    clear e12
    refine ex_aload_n 77 dX6_settleTwo_76 rfl rfl ?_
    refine q_getR (a := 66) 6 0 80 dX6_settleTwo_77 rfl fiX6_11 rfl ⟨_, rfl⟩ rfl ?_
    refine ex_iload_n 81 dX6_settleTwo_80 rfl rfl ?_
    refine ex_aald (a := (67 + (x3).toNat)) 23 82 dX6_settleTwo_81 rfl (by decide) (ai_of (n := 18) rfl o4 o5 (by decide)) (rxW g13 (ltN (n := 18) o4 o5)) ?_
    refine ex_iload_n 83 dX6_settleTwo_82 rfl rfl ?_
    refine ex_iload 85 dX6_settleTwo_83 rfl rfl ?_
    refine ex_iast 86 dX6_settleTwo_85 rfl (ai_of (n := 18) (txW _ (ltN (n := 18) o4 o5)) o1 o2 (by decide)) (fun h1 e15 => ?_)
    obtain ⟨g16, eg17⟩ : ∃ z : GS, z = gI g13 (67 + (x3).toNat) (x2).toNat y8 := ⟨_, rfl⟩
    have hyp := hyp g16 eg17
    obtain rfl : h1 = hX g16 := by rw [e15, eg17]; exact rfl
    clear e15
    refine ex_aload_n 87 dX6_settleTwo_86 rfl rfl ?_
    refine q_getR (a := 85) 6 1 90 dX6_settleTwo_87 rfl fiX6_16 rfl ⟨_, rfl⟩ rfl ?_
    refine ex_iload_n 91 dX6_settleTwo_90 rfl rfl ?_
    refine ex_aald (a := (86 + (x2).toNat)) 23 92 dX6_settleTwo_91 rfl (by decide) (ai_of (n := 18) rfl o1 o2 (by decide)) (rxV g16 (ltN (n := 18) o1 o2)) ?_
    refine ex_iload_n 93 dX6_settleTwo_92 rfl rfl ?_
    refine ex_iload 95 dX6_settleTwo_93 rfl rfl ?_
    refine ex_iast 96 dX6_settleTwo_95 rfl (ai_of (n := 18) (txV _ (ltN (n := 18) o1 o2)) o4 o5 (by decide)) (fun h1 e18 => ?_)
    obtain ⟨g19, eg20⟩ : ∃ z : GS, z = gI g16 (86 + (x2).toNat) (x3).toNat (-1) := ⟨_, rfl⟩
    have hyp := hyp g19 eg20
    obtain rfl : h1 = hX g19 := by rw [e18, eg20]; exact rfl
    clear e18
    refine ex_aload_n 97 dX6_settleTwo_96 rfl rfl ?_
    refine q_getR (a := 85) 6 1 100 dX6_settleTwo_97 rfl fiX6_16 rfl ⟨_, rfl⟩ rfl ?_
    refine ex_iload_n 101 dX6_settleTwo_100 rfl rfl ?_
    refine ex_aald (a := (86 + (x3).toNat)) 23 102 dX6_settleTwo_101 rfl (by decide) (ai_of (n := 18) rfl o4 o5 (by decide)) (rxV g19 (ltN (n := 18) o4 o5)) ?_
    refine ex_iload_n 103 dX6_settleTwo_102 rfl rfl ?_
    refine ex_iload 105 dX6_settleTwo_103 rfl rfl ?_
    refine ex_iast 106 dX6_settleTwo_105 rfl (ai_of (n := 18) (txV _ (ltN (n := 18) o4 o5)) o1 o2 (by decide)) (fun h1 e21 => ?_)
    obtain ⟨g22, eg23⟩ : ∃ z : GS, z = gI g19 (86 + (x3).toNat) (x2).toNat (-1) := ⟨_, rfl⟩
    have hyp := hyp g22 eg23
    obtain rfl : h1 = hX g22 := by rw [e21, eg23]; exact rfl
    clear e21
    exact ex_vret dX6_settleTwo_106 rfl ⟨rfl, _, rfl, hyp⟩
  · have hyp := hf c53
    clear ht hf
    refine ex_iload 43 dX6_settleTwo_41 rfl rfl ?_
    obtain ⟨o24, hyp⟩ := hyp
    obtain ⟨ht, hf⟩ := hyp
    refine ex_if_le 63 46 dX6_settleTwo_43 (by decide) rfl o24 (fun c52 => ?_) (fun c52 => ?_)
    · have hyp := ht c52
      clear ht hf
      refine ex_iconst 64 dX6_settleTwo_63 rfl ?_
      refine q_istore [some (vr 65), some (vr 8), some (vi x2), some (vi x3), some (vi x4), some (vr (11 + 3 * (g0.2.1 (x2).toNat))), some (vr (11 + 3 * (g0.2.1 (x3).toNat))), some (vi y8), some (vi y10), some (vi (-1))] 66 dX6_settleTwo_64 rfl (Nat.le_of_ble_eq_true rfl) rfl rfl ?_
      refine ex_aload_n 67 dX6_settleTwo_66 rfl rfl ?_
      refine q_getR (a := 66) 6 0 70 dX6_settleTwo_67 rfl fiX6_11 rfl ⟨_, rfl⟩ rfl ?_
      refine ex_iload_n 71 dX6_settleTwo_70 rfl rfl ?_
      refine ex_aald (a := (67 + (x2).toNat)) 23 72 dX6_settleTwo_71 rfl (by decide) (ai_of (n := 18) rfl o1 o2 (by decide)) (rxW g9 (ltN (n := 18) o1 o2)) ?_
      refine ex_iload_n 73 dX6_settleTwo_72 rfl rfl ?_
      refine ex_iload 75 dX6_settleTwo_73 rfl rfl ?_
      refine ex_iast 76 dX6_settleTwo_75 rfl (ai_of (n := 18) (txW _ (ltN (n := 18) o1 o2)) o4 o5 (by decide)) (fun h1 e25 => ?_)
      obtain ⟨g26, eg27⟩ : ∃ z : GS, z = gI g9 (67 + (x2).toNat) (x3).toNat y8 := ⟨_, rfl⟩
      have hyp := hyp g26 eg27
      obtain rfl : h1 = hX g26 := by rw [e25, eg27]; exact rfl
      clear e25
      refine ex_aload_n 77 dX6_settleTwo_76 rfl rfl ?_
      refine q_getR (a := 66) 6 0 80 dX6_settleTwo_77 rfl fiX6_11 rfl ⟨_, rfl⟩ rfl ?_
      refine ex_iload_n 81 dX6_settleTwo_80 rfl rfl ?_
      refine ex_aald (a := (67 + (x3).toNat)) 23 82 dX6_settleTwo_81 rfl (by decide) (ai_of (n := 18) rfl o4 o5 (by decide)) (rxW g26 (ltN (n := 18) o4 o5)) ?_
      refine ex_iload_n 83 dX6_settleTwo_82 rfl rfl ?_
      refine ex_iload 85 dX6_settleTwo_83 rfl rfl ?_
      refine ex_iast 86 dX6_settleTwo_85 rfl (ai_of (n := 18) (txW _ (ltN (n := 18) o4 o5)) o1 o2 (by decide)) (fun h1 e28 => ?_)
      obtain ⟨g29, eg30⟩ : ∃ z : GS, z = gI g26 (67 + (x3).toNat) (x2).toNat y8 := ⟨_, rfl⟩
      have hyp := hyp g29 eg30
      obtain rfl : h1 = hX g29 := by rw [e28, eg30]; exact rfl
      clear e28
      refine ex_aload_n 87 dX6_settleTwo_86 rfl rfl ?_
      refine q_getR (a := 85) 6 1 90 dX6_settleTwo_87 rfl fiX6_16 rfl ⟨_, rfl⟩ rfl ?_
      refine ex_iload_n 91 dX6_settleTwo_90 rfl rfl ?_
      refine ex_aald (a := (86 + (x2).toNat)) 23 92 dX6_settleTwo_91 rfl (by decide) (ai_of (n := 18) rfl o1 o2 (by decide)) (rxV g29 (ltN (n := 18) o1 o2)) ?_
      refine ex_iload_n 93 dX6_settleTwo_92 rfl rfl ?_
      refine ex_iload 95 dX6_settleTwo_93 rfl rfl ?_
      refine ex_iast 96 dX6_settleTwo_95 rfl (ai_of (n := 18) (txV _ (ltN (n := 18) o1 o2)) o4 o5 (by decide)) (fun h1 e31 => ?_)
      obtain ⟨g32, eg33⟩ : ∃ z : GS, z = gI g29 (86 + (x2).toNat) (x3).toNat (-1) := ⟨_, rfl⟩
      have hyp := hyp g32 eg33
      obtain rfl : h1 = hX g32 := by rw [e31, eg33]; exact rfl
      clear e31
      refine ex_aload_n 97 dX6_settleTwo_96 rfl rfl ?_
      refine q_getR (a := 85) 6 1 100 dX6_settleTwo_97 rfl fiX6_16 rfl ⟨_, rfl⟩ rfl ?_
      refine ex_iload_n 101 dX6_settleTwo_100 rfl rfl ?_
      refine ex_aald (a := (86 + (x3).toNat)) 23 102 dX6_settleTwo_101 rfl (by decide) (ai_of (n := 18) rfl o4 o5 (by decide)) (rxV g32 (ltN (n := 18) o4 o5)) ?_
      refine ex_iload_n 103 dX6_settleTwo_102 rfl rfl ?_
      refine ex_iload 105 dX6_settleTwo_103 rfl rfl ?_
      refine ex_iast 106 dX6_settleTwo_105 rfl (ai_of (n := 18) (txV _ (ltN (n := 18) o4 o5)) o1 o2 (by decide)) (fun h1 e34 => ?_)
      obtain ⟨g35, eg36⟩ : ∃ z : GS, z = gI g32 (86 + (x3).toNat) (x2).toNat (-1) := ⟨_, rfl⟩
      have hyp := hyp g35 eg36
      obtain rfl : h1 = hX g35 := by rw [e34, eg36]; exact rfl
      clear e34
      exact ex_vret dX6_settleTwo_106 rfl ⟨rfl, _, rfl, hyp⟩
    · have hyp := hf c52
      clear ht hf
      refine ex_aload 48 dX6_settleTwo_46 rfl rfl ?_
      refine ex_aload 50 dX6_settleTwo_48 rfl rfl ?_
      refine s_callVi [vr (11 + 3 * (g0.2.1 (x3).toNat))] 53 dX6_settleTwo_50 rfl cvX6_48 rfl rfl ⟨Nat.le_of_ble_eq_true rfl, Nat.le_of_ble_eq_true rfl⟩ (Nat.le_of_ble_eq_true rfl) (obE o3) hyp (fun y38 h1 hq => ?_)
      obtain ⟨g37, rfl, hyp⟩ := hq
      refine ex_sipush 56 dX6_settleTwo_53 rfl ⟨by decide, by decide⟩ ?_
      refine ex_iload 58 dX6_settleTwo_56 rfl rfl ?_
      obtain ⟨o39, hyp⟩ := hyp
      refine ex_idiv 59 dX6_settleTwo_58 rfl ⟨by decide, by decide⟩ o24 o39 ?_
      refine ex_iadd 60 dX6_settleTwo_59 rfl ?_
      refine ex_goto 64 dX6_settleTwo_60 (by decide) ?_
      refine q_istore [some (vr 65), some (vr 8), some (vi x2), some (vi x3), some (vi x4), some (vr (11 + 3 * (g0.2.1 (x2).toNat))), some (vr (11 + 3 * (g0.2.1 (x3).toNat))), some (vi y8), some (vi y10), some (vi (y38 + (Int.tdiv 200 y10)))] 66 dX6_settleTwo_64 rfl (Nat.le_of_ble_eq_true rfl) rfl rfl ?_
      refine ex_aload_n 67 dX6_settleTwo_66 rfl rfl ?_
      refine q_getR (a := 66) 6 0 70 dX6_settleTwo_67 rfl fiX6_11 rfl ⟨_, rfl⟩ rfl ?_
      refine ex_iload_n 71 dX6_settleTwo_70 rfl rfl ?_
      refine ex_aald (a := (67 + (x2).toNat)) 23 72 dX6_settleTwo_71 rfl (by decide) (ai_of (n := 18) rfl o1 o2 (by decide)) (rxW g37 (ltN (n := 18) o1 o2)) ?_
      refine ex_iload_n 73 dX6_settleTwo_72 rfl rfl ?_
      refine ex_iload 75 dX6_settleTwo_73 rfl rfl ?_
      refine ex_iast 76 dX6_settleTwo_75 rfl (ai_of (n := 18) (txW _ (ltN (n := 18) o1 o2)) o4 o5 (by decide)) (fun h1 e40 => ?_)
      obtain ⟨g41, eg42⟩ : ∃ z : GS, z = gI g37 (67 + (x2).toNat) (x3).toNat y8 := ⟨_, rfl⟩
      have hyp := hyp g41 eg42
      obtain rfl : h1 = hX g41 := by rw [e40, eg42]; exact rfl
      clear e40
      refine ex_aload_n 77 dX6_settleTwo_76 rfl rfl ?_
      refine q_getR (a := 66) 6 0 80 dX6_settleTwo_77 rfl fiX6_11 rfl ⟨_, rfl⟩ rfl ?_
      refine ex_iload_n 81 dX6_settleTwo_80 rfl rfl ?_
      refine ex_aald (a := (67 + (x3).toNat)) 23 82 dX6_settleTwo_81 rfl (by decide) (ai_of (n := 18) rfl o4 o5 (by decide)) (rxW g41 (ltN (n := 18) o4 o5)) ?_
      refine ex_iload_n 83 dX6_settleTwo_82 rfl rfl ?_
      refine ex_iload 85 dX6_settleTwo_83 rfl rfl ?_
      refine ex_iast 86 dX6_settleTwo_85 rfl (ai_of (n := 18) (txW _ (ltN (n := 18) o4 o5)) o1 o2 (by decide)) (fun h1 e43 => ?_)
      obtain ⟨g44, eg45⟩ : ∃ z : GS, z = gI g41 (67 + (x3).toNat) (x2).toNat y8 := ⟨_, rfl⟩
      have hyp := hyp g44 eg45
      obtain rfl : h1 = hX g44 := by rw [e43, eg45]; exact rfl
      clear e43
      refine ex_aload_n 87 dX6_settleTwo_86 rfl rfl ?_
      refine q_getR (a := 85) 6 1 90 dX6_settleTwo_87 rfl fiX6_16 rfl ⟨_, rfl⟩ rfl ?_
      refine ex_iload_n 91 dX6_settleTwo_90 rfl rfl ?_
      refine ex_aald (a := (86 + (x2).toNat)) 23 92 dX6_settleTwo_91 rfl (by decide) (ai_of (n := 18) rfl o1 o2 (by decide)) (rxV g44 (ltN (n := 18) o1 o2)) ?_
      refine ex_iload_n 93 dX6_settleTwo_92 rfl rfl ?_
      refine ex_iload 95 dX6_settleTwo_93 rfl rfl ?_
      refine ex_iast 96 dX6_settleTwo_95 rfl (ai_of (n := 18) (txV _ (ltN (n := 18) o1 o2)) o4 o5 (by decide)) (fun h1 e46 => ?_)
      obtain ⟨g47, eg48⟩ : ∃ z : GS, z = gI g44 (86 + (x2).toNat) (x3).toNat (y38 + (Int.tdiv 200 y10)) := ⟨_, rfl⟩
      have hyp := hyp g47 eg48
      obtain rfl : h1 = hX g47 := by rw [e46, eg48]; exact rfl
      clear e46
      refine ex_aload_n 97 dX6_settleTwo_96 rfl rfl ?_
      refine q_getR (a := 85) 6 1 100 dX6_settleTwo_97 rfl fiX6_16 rfl ⟨_, rfl⟩ rfl ?_
      refine ex_iload_n 101 dX6_settleTwo_100 rfl rfl ?_
      refine ex_aald (a := (86 + (x3).toNat)) 23 102 dX6_settleTwo_101 rfl (by decide) (ai_of (n := 18) rfl o4 o5 (by decide)) (rxV g47 (ltN (n := 18) o4 o5)) ?_
      refine ex_iload_n 103 dX6_settleTwo_102 rfl rfl ?_
      refine ex_iload 105 dX6_settleTwo_103 rfl rfl ?_
      refine ex_iast 106 dX6_settleTwo_105 rfl (ai_of (n := 18) (txV _ (ltN (n := 18) o4 o5)) o1 o2 (by decide)) (fun h1 e49 => ?_)
      obtain ⟨g50, eg51⟩ : ∃ z : GS, z = gI g47 (86 + (x3).toNat) (x2).toNat (y38 + (Int.tdiv 200 y10)) := ⟨_, rfl⟩
      have hyp := hyp g50 eg51
      obtain rfl : h1 = hX g50 := by rw [e49, eg51]; exact rfl
      clear e49
      exact ex_vret dX6_settleTwo_106 rfl ⟨rfl, _, rfl, hyp⟩
set_option maxRecDepth 4000 in
theorem uX6_whyNot {P : Int → GS → Prop} (g0 : GS) (s0 : Nat) (hs0 : s0 < 18) (s1 : Nat) (hs1 : s1 < 18) (x2 : Int) (hyp : rng (g0.1 (11 + 3 * s0) 4) ∧ (¬ g0.1 (11 + 3 * s0) 4 = 0 → (XXi mX6_whyNot 16 [some (vr (11 + 3 * s0)), some (vr (11 + 3 * s1)), some (vi x2)] [] g0 P)) ∧ (g0.1 (11 + 3 * s0) 4 = 0 → (rng (g0.1 (11 + 3 * s1) 4) ∧ (¬ g0.1 (11 + 3 * s1) 4 = 0 → (XXi mX6_whyNot 16 [some (vr (11 + 3 * s0)), some (vr (11 + 3 * s1)), some (vi x2)] [] g0 P)) ∧ (g0.1 (11 + 3 * s1) 4 = 0 → (P 1 g0))))) : MXi mX6_whyNot [vr (11 + 3 * s0), vr (11 + 3 * s1), vi x2] g0 P := by
  refine met_of_ex (by decide +kernel) (Nat.le_of_ble_eq_true rfl) ?_
  show EX mX6_whyNot 0 [some (vr (11 + 3 * s0)), some (vr (11 + 3 * s1)), some (vi x2)] [] (hX g0) (0, 0) _
  refine ex_aload_n 1 dX6_whyNot_0 rfl rfl ?_
  refine q_getI 0 4 4 dX6_whyNot_1 rfl fiX6_51 (Or.inl rfl) (obE hs0) ?_
  obtain ⟨o1, hyp⟩ := hyp
  obtain ⟨ht, hf⟩ := hyp
  refine ex_if_ne 16 7 dX6_whyNot_4 (by decide) rfl o1 (fun c4 => ?_) (fun c4 => ?_)
  · have hyp := ht c4
    clear ht hf
    exact hyp
  · have hyp := hf c4
    clear ht hf
    refine ex_aload_n 8 dX6_whyNot_7 rfl rfl ?_
    refine q_getI 0 4 11 dX6_whyNot_8 rfl fiX6_51 (Or.inl rfl) (obE hs1) ?_
    obtain ⟨o2, hyp⟩ := hyp
    obtain ⟨ht, hf⟩ := hyp
    refine ex_if_ne 16 14 dX6_whyNot_11 (by decide) rfl o2 (fun c3 => ?_) (fun c3 => ?_)
    · have hyp := ht c3
      clear ht hf
      exact hyp
    · have hyp := hf c3
      clear ht hf
      refine ex_iconst 15 dX6_whyNot_14 rfl ?_
      exact ex_iret dX6_whyNot_15 (Or.inl rfl) ⟨_, rfl, _, rfl, hyp⟩
set_option maxRecDepth 4000 in
theorem uX6_whyNot_16 {P : Int → GS → Prop} (g0 : GS) (s0 : Nat) (hs0 : s0 < 18) (s1 : Nat) (hs1 : s1 < 18) (x2 : Int) (hyp : rng (g0.1 (11 + 3 * s0) 4) ∧ (¬ g0.1 (11 + 3 * s0) 4 = 2 → (MXi mX0_isPartedFrom [vr (11 + 3 * s0), vr (11 + 3 * s1)] g0 (fun y3 g2 => rng y3 ∧ (y3 = 0 → (MXi mX0_isInWrongOrderWith [vr (11 + 3 * s0), vr (11 + 3 * s1)] g2 (fun y6 g5 => rng y6 ∧ (¬ y6 = 0 → (P 4 g5)) ∧ (y6 = 0 → (MXi mX0_isInWrongOrderWith [vr (11 + 3 * s1), vr (11 + 3 * s0)] g5 (fun y9 g8 => rng y9 ∧ (y9 = 0 → (MXi mX0_yearsWith [vr (11 + 3 * s0), vr (11 + 3 * s1)] g8 (fun y12 g11 => rng y12 ∧ (¬ y12 = 0 → (MXi mX0_likenessTo [vr (11 + 3 * s0), vr (11 + 3 * s1)] g11 (fun y15 g14 => rng y15 ∧ rng x2 ∧ (x2 ≤ y15 → (P 0 g14)) ∧ (y15 < x2 → (P 6 g14))))) ∧ (y12 = 0 → (P 5 g11))))) ∧ (¬ y9 = 0 → (P 4 g8)))))))) ∧ (¬ y3 = 0 → (P 3 g2))))) ∧ (g0.1 (11 + 3 * s0) 4 = 2 → (rng (g0.1 (11 + 3 * s1) 4) ∧ (¬ g0.1 (11 + 3 * s1) 4 = 2 → (MXi mX0_isPartedFrom [vr (11 + 3 * s0), vr (11 + 3 * s1)] g0 (fun y25 g24 => rng y25 ∧ (y25 = 0 → (MXi mX0_isInWrongOrderWith [vr (11 + 3 * s0), vr (11 + 3 * s1)] g24 (fun y28 g27 => rng y28 ∧ (¬ y28 = 0 → (P 4 g27)) ∧ (y28 = 0 → (MXi mX0_isInWrongOrderWith [vr (11 + 3 * s1), vr (11 + 3 * s0)] g27 (fun y31 g30 => rng y31 ∧ (y31 = 0 → (MXi mX0_yearsWith [vr (11 + 3 * s0), vr (11 + 3 * s1)] g30 (fun y34 g33 => rng y34 ∧ (¬ y34 = 0 → (MXi mX0_likenessTo [vr (11 + 3 * s0), vr (11 + 3 * s1)] g33 (fun y37 g36 => rng y37 ∧ rng x2 ∧ (x2 ≤ y37 → (P 0 g36)) ∧ (y37 < x2 → (P 6 g36))))) ∧ (y34 = 0 → (P 5 g33))))) ∧ (¬ y31 = 0 → (P 4 g30)))))))) ∧ (¬ y25 = 0 → (P 3 g24))))) ∧ (g0.1 (11 + 3 * s1) 4 = 2 → (P 2 g0))))) : XXi mX6_whyNot 16 [some (vr (11 + 3 * s0)), some (vr (11 + 3 * s1)), some (vi x2)] [] g0 P := by
  refine ex_aload_n 17 dX6_whyNot_16 rfl rfl ?_
  refine q_getI 0 4 20 dX6_whyNot_17 rfl fiX6_51 (Or.inl rfl) (obE hs0) ?_
  refine ex_iconst 21 dX6_whyNot_20 rfl ?_
  obtain ⟨o1, hyp⟩ := hyp
  obtain ⟨ht, hf⟩ := hyp
  refine ex_icmp_ne 34 24 dX6_whyNot_21 (by decide) rfl o1 ⟨by decide, by decide⟩ (fun c46 => ?_) (fun c46 => ?_)
  · have hyp := ht c46
    clear ht hf
    refine ex_aload_n 35 dX6_whyNot_34 rfl rfl ?_
    refine ex_aload_n 36 dX6_whyNot_35 rfl rfl ?_
    refine s_callVi [vr (11 + 3 * s1)] 39 dX6_whyNot_36 rfl cvX6_54 rfl rfl ⟨Nat.le_of_ble_eq_true rfl, Nat.le_of_ble_eq_true rfl⟩ (Nat.le_of_ble_eq_true rfl) (obE hs0) hyp (fun y3 h1 hq => ?_)
    obtain ⟨g2, rfl, hyp⟩ := hq
    obtain ⟨o4, hyp⟩ := hyp
    obtain ⟨ht, hf⟩ := hyp
    refine ex_if_eq 44 42 dX6_whyNot_39 (by decide) rfl o4 (fun c22 => ?_) (fun c22 => ?_)
    · have hyp := ht c22
      clear ht hf
      refine ex_aload_n 45 dX6_whyNot_44 rfl rfl ?_
      refine ex_aload_n 46 dX6_whyNot_45 rfl rfl ?_
      refine s_callVi [vr (11 + 3 * s1)] 49 dX6_whyNot_46 rfl cvX6_58 rfl rfl ⟨Nat.le_of_ble_eq_true rfl, Nat.le_of_ble_eq_true rfl⟩ (Nat.le_of_ble_eq_true rfl) (obE hs0) hyp (fun y6 h1 hq => ?_)
      obtain ⟨g5, rfl, hyp⟩ := hq
      obtain ⟨o7, hyp⟩ := hyp
      obtain ⟨ht, hf⟩ := hyp
      refine ex_if_ne 60 52 dX6_whyNot_49 (by decide) rfl o7 (fun c21 => ?_) (fun c21 => ?_)
      · have hyp := ht c21
        clear ht hf
        refine ex_iconst 61 dX6_whyNot_60 rfl ?_
        exact ex_iret dX6_whyNot_61 (Or.inl rfl) ⟨_, rfl, _, rfl, hyp⟩
      · have hyp := hf c21
        clear ht hf
        refine ex_aload_n 53 dX6_whyNot_52 rfl rfl ?_
        refine ex_aload_n 54 dX6_whyNot_53 rfl rfl ?_
        refine s_callVi [vr (11 + 3 * s0)] 57 dX6_whyNot_54 rfl cvX6_58 rfl rfl ⟨Nat.le_of_ble_eq_true rfl, Nat.le_of_ble_eq_true rfl⟩ (Nat.le_of_ble_eq_true rfl) (obE hs1) hyp (fun y9 h1 hq => ?_)
        obtain ⟨g8, rfl, hyp⟩ := hq
        obtain ⟨o10, hyp⟩ := hyp
        obtain ⟨ht, hf⟩ := hyp
        refine ex_if_eq 62 60 dX6_whyNot_57 (by decide) rfl o10 (fun c20 => ?_) (fun c20 => ?_)
        · have hyp := ht c20
          clear ht hf
          refine ex_aload_n 63 dX6_whyNot_62 rfl rfl ?_
          refine ex_aload_n 64 dX6_whyNot_63 rfl rfl ?_
          refine s_callVi [vr (11 + 3 * s1)] 67 dX6_whyNot_64 rfl cvX6_42 rfl rfl ⟨Nat.le_of_ble_eq_true rfl, Nat.le_of_ble_eq_true rfl⟩ (Nat.le_of_ble_eq_true rfl) (obE hs0) hyp (fun y12 h1 hq => ?_)
          obtain ⟨g11, rfl, hyp⟩ := hq
          obtain ⟨o13, hyp⟩ := hyp
          obtain ⟨ht, hf⟩ := hyp
          refine ex_if_ne 72 70 dX6_whyNot_67 (by decide) rfl o13 (fun c19 => ?_) (fun c19 => ?_)
          · have hyp := ht c19
            clear ht hf
            refine ex_aload_n 73 dX6_whyNot_72 rfl rfl ?_
            refine ex_aload_n 74 dX6_whyNot_73 rfl rfl ?_
            refine s_callVi [vr (11 + 3 * s1)] 77 dX6_whyNot_74 rfl cvX6_48 rfl rfl ⟨Nat.le_of_ble_eq_true rfl, Nat.le_of_ble_eq_true rfl⟩ (Nat.le_of_ble_eq_true rfl) (obE hs0) hyp (fun y15 h1 hq => ?_)
            obtain ⟨g14, rfl, hyp⟩ := hq
            refine ex_iload_n 78 dX6_whyNot_77 rfl rfl ?_
            obtain ⟨o16, hyp⟩ := hyp
            obtain ⟨o17, hyp⟩ := hyp
            obtain ⟨ht, hf⟩ := hyp
            refine ex_icmp_ge 86 81 dX6_whyNot_78 (by decide) rfl o16 o17 (fun c18 => ?_) (fun c18 => ?_)
            · have hyp := ht c18
              clear ht hf
              refine ex_iconst 87 dX6_whyNot_86 rfl ?_
              exact ex_iret dX6_whyNot_87 (Or.inl rfl) ⟨_, rfl, _, rfl, hyp⟩
            · have hyp := hf c18
              clear ht hf
              refine ex_bipush 83 dX6_whyNot_81 rfl ⟨by decide, by decide⟩ ?_
              refine ex_goto 87 dX6_whyNot_83 (by decide) ?_
              exact ex_iret dX6_whyNot_87 (Or.inl rfl) ⟨_, rfl, _, rfl, hyp⟩
          · have hyp := hf c19
            clear ht hf
            refine ex_iconst 71 dX6_whyNot_70 rfl ?_
            exact ex_iret dX6_whyNot_71 (Or.inl rfl) ⟨_, rfl, _, rfl, hyp⟩
        · have hyp := hf c20
          clear ht hf
          refine ex_iconst 61 dX6_whyNot_60 rfl ?_
          exact ex_iret dX6_whyNot_61 (Or.inl rfl) ⟨_, rfl, _, rfl, hyp⟩
    · have hyp := hf c22
      clear ht hf
      refine ex_iconst 43 dX6_whyNot_42 rfl ?_
      exact ex_iret dX6_whyNot_43 (Or.inl rfl) ⟨_, rfl, _, rfl, hyp⟩
  · have hyp := hf c46
    clear ht hf
    refine ex_aload_n 25 dX6_whyNot_24 rfl rfl ?_
    refine q_getI 0 4 28 dX6_whyNot_25 rfl fiX6_51 (Or.inl rfl) (obE hs1) ?_
    refine ex_iconst 29 dX6_whyNot_28 rfl ?_
    obtain ⟨o23, hyp⟩ := hyp
    obtain ⟨ht, hf⟩ := hyp
    refine ex_icmp_ne 34 32 dX6_whyNot_29 (by decide) rfl o23 ⟨by decide, by decide⟩ (fun c45 => ?_) (fun c45 => ?_)
    · have hyp := ht c45
      clear ht hf
      refine ex_aload_n 35 dX6_whyNot_34 rfl rfl ?_
      refine ex_aload_n 36 dX6_whyNot_35 rfl rfl ?_
      refine s_callVi [vr (11 + 3 * s1)] 39 dX6_whyNot_36 rfl cvX6_54 rfl rfl ⟨Nat.le_of_ble_eq_true rfl, Nat.le_of_ble_eq_true rfl⟩ (Nat.le_of_ble_eq_true rfl) (obE hs0) hyp (fun y25 h1 hq => ?_)
      obtain ⟨g24, rfl, hyp⟩ := hq
      obtain ⟨o26, hyp⟩ := hyp
      obtain ⟨ht, hf⟩ := hyp
      refine ex_if_eq 44 42 dX6_whyNot_39 (by decide) rfl o26 (fun c44 => ?_) (fun c44 => ?_)
      · have hyp := ht c44
        clear ht hf
        refine ex_aload_n 45 dX6_whyNot_44 rfl rfl ?_
        refine ex_aload_n 46 dX6_whyNot_45 rfl rfl ?_
        refine s_callVi [vr (11 + 3 * s1)] 49 dX6_whyNot_46 rfl cvX6_58 rfl rfl ⟨Nat.le_of_ble_eq_true rfl, Nat.le_of_ble_eq_true rfl⟩ (Nat.le_of_ble_eq_true rfl) (obE hs0) hyp (fun y28 h1 hq => ?_)
        obtain ⟨g27, rfl, hyp⟩ := hq
        obtain ⟨o29, hyp⟩ := hyp
        obtain ⟨ht, hf⟩ := hyp
        refine ex_if_ne 60 52 dX6_whyNot_49 (by decide) rfl o29 (fun c43 => ?_) (fun c43 => ?_)
        · have hyp := ht c43
          clear ht hf
          refine ex_iconst 61 dX6_whyNot_60 rfl ?_
          exact ex_iret dX6_whyNot_61 (Or.inl rfl) ⟨_, rfl, _, rfl, hyp⟩
        · have hyp := hf c43
          clear ht hf
          refine ex_aload_n 53 dX6_whyNot_52 rfl rfl ?_
          refine ex_aload_n 54 dX6_whyNot_53 rfl rfl ?_
          refine s_callVi [vr (11 + 3 * s0)] 57 dX6_whyNot_54 rfl cvX6_58 rfl rfl ⟨Nat.le_of_ble_eq_true rfl, Nat.le_of_ble_eq_true rfl⟩ (Nat.le_of_ble_eq_true rfl) (obE hs1) hyp (fun y31 h1 hq => ?_)
          obtain ⟨g30, rfl, hyp⟩ := hq
          obtain ⟨o32, hyp⟩ := hyp
          obtain ⟨ht, hf⟩ := hyp
          refine ex_if_eq 62 60 dX6_whyNot_57 (by decide) rfl o32 (fun c42 => ?_) (fun c42 => ?_)
          · have hyp := ht c42
            clear ht hf
            refine ex_aload_n 63 dX6_whyNot_62 rfl rfl ?_
            refine ex_aload_n 64 dX6_whyNot_63 rfl rfl ?_
            refine s_callVi [vr (11 + 3 * s1)] 67 dX6_whyNot_64 rfl cvX6_42 rfl rfl ⟨Nat.le_of_ble_eq_true rfl, Nat.le_of_ble_eq_true rfl⟩ (Nat.le_of_ble_eq_true rfl) (obE hs0) hyp (fun y34 h1 hq => ?_)
            obtain ⟨g33, rfl, hyp⟩ := hq
            obtain ⟨o35, hyp⟩ := hyp
            obtain ⟨ht, hf⟩ := hyp
            refine ex_if_ne 72 70 dX6_whyNot_67 (by decide) rfl o35 (fun c41 => ?_) (fun c41 => ?_)
            · have hyp := ht c41
              clear ht hf
              refine ex_aload_n 73 dX6_whyNot_72 rfl rfl ?_
              refine ex_aload_n 74 dX6_whyNot_73 rfl rfl ?_
              refine s_callVi [vr (11 + 3 * s1)] 77 dX6_whyNot_74 rfl cvX6_48 rfl rfl ⟨Nat.le_of_ble_eq_true rfl, Nat.le_of_ble_eq_true rfl⟩ (Nat.le_of_ble_eq_true rfl) (obE hs0) hyp (fun y37 h1 hq => ?_)
              obtain ⟨g36, rfl, hyp⟩ := hq
              refine ex_iload_n 78 dX6_whyNot_77 rfl rfl ?_
              obtain ⟨o38, hyp⟩ := hyp
              obtain ⟨o39, hyp⟩ := hyp
              obtain ⟨ht, hf⟩ := hyp
              refine ex_icmp_ge 86 81 dX6_whyNot_78 (by decide) rfl o38 o39 (fun c40 => ?_) (fun c40 => ?_)
              · have hyp := ht c40
                clear ht hf
                refine ex_iconst 87 dX6_whyNot_86 rfl ?_
                exact ex_iret dX6_whyNot_87 (Or.inl rfl) ⟨_, rfl, _, rfl, hyp⟩
              · have hyp := hf c40
                clear ht hf
                refine ex_bipush 83 dX6_whyNot_81 rfl ⟨by decide, by decide⟩ ?_
                refine ex_goto 87 dX6_whyNot_83 (by decide) ?_
                exact ex_iret dX6_whyNot_87 (Or.inl rfl) ⟨_, rfl, _, rfl, hyp⟩
            · have hyp := hf c41
              clear ht hf
              refine ex_iconst 71 dX6_whyNot_70 rfl ?_
              exact ex_iret dX6_whyNot_71 (Or.inl rfl) ⟨_, rfl, _, rfl, hyp⟩
          · have hyp := hf c42
            clear ht hf
            refine ex_iconst 61 dX6_whyNot_60 rfl ?_
            exact ex_iret dX6_whyNot_61 (Or.inl rfl) ⟨_, rfl, _, rfl, hyp⟩
      · have hyp := hf c44
        clear ht hf
        refine ex_iconst 43 dX6_whyNot_42 rfl ?_
        exact ex_iret dX6_whyNot_43 (Or.inl rfl) ⟨_, rfl, _, rfl, hyp⟩
    · have hyp := hf c45
      clear ht hf
      refine ex_iconst 33 dX6_whyNot_32 rfl ?_
      exact ex_iret dX6_whyNot_33 (Or.inl rfl) ⟨_, rfl, _, rfl, hyp⟩
set_option maxRecDepth 4000 in
theorem uX7_start {P : GS → Prop} (g0 : GS)  (hyp : XXv mX7_start 2 [some (vr 3), some (vi 0)] [] g0 P) : MXv mX7_start [vr 3] g0 P := by
  refine met_of_ex (by decide +kernel) (Nat.le_of_ble_eq_true rfl) ?_
  show EX mX7_start 0 [some (vr 3), none] [] (hX g0) (0, 0) _
  refine ex_iconst 1 dX7_start_0 rfl ?_
  refine q_istore_n [some (vr 3), some (vi 0)] 2 dX7_start_1 rfl (Nat.le_of_ble_eq_true rfl) rfl rfl ?_
  exact hyp
set_option maxRecDepth 4000 in
theorem uX7_start_2 {P : GS → Prop} (g0 : GS) (x1 : Int) (hyp : rng x1 ∧ (3 ≤ x1 → (∀ g3 : GS, g3 = gI g0 3 1 0 → (∀ g6 : GS, g6 = gI g3 3 8 0 → (MXv mX7_startEntry [vr 3] g6 (fun g8 => P g8))))) ∧ (x1 < 3 → (0 ≤ x1 ∧ x1 < 3 ∧ ∀ g12 : GS, g12 = gI g0 4 (x1).toNat 0 → (XXv mX7_start 2 [some (vr 3), some (vi (x1 + 1))] [] g12 P)))) : XXv mX7_start 2 [some (vr 3), some (vi x1)] [] g0 P := by
  refine ex_iload_n 3 dX7_start_2 rfl rfl ?_
  refine ex_iconst 4 dX7_start_3 rfl ?_
  obtain ⟨o1, hyp⟩ := hyp
  obtain ⟨ht, hf⟩ := hyp
  refine ex_icmp_ge 20 7 dX7_start_4 (by decide) rfl o1 ⟨by decide, by decide⟩ (fun c14 => ?_) (fun c14 => ?_)
  · have hyp := ht c14
    clear ht hf
    refine ex_aload_n 21 dX7_start_20 rfl rfl ?_
    refine ex_iconst 22 dX7_start_21 rfl ?_
    refine q_putI 7 1 25 dX7_start_22 rfl fiX7_15 ff7_1 rfl ⟨_, rfl⟩ (fun h1 e2 => ?_)
    obtain ⟨g3, eg4⟩ : ∃ z : GS, z = gI g0 3 1 0 := ⟨_, rfl⟩
    have hyp := hyp g3 eg4
    obtain rfl : h1 = hX g3 := by rw [e2, eg4]; exact rfl
    clear e2
    refine ex_aload_n 26 dX7_start_25 rfl rfl ?_
    refine ex_iconst 27 dX7_start_26 rfl ?_
    refine q_putI 7 8 30 dX7_start_27 rfl fiX7_19 ff7_8 rfl ⟨_, rfl⟩ (fun h1 e5 => ?_)
    obtain ⟨g6, eg7⟩ : ∃ z : GS, z = gI g3 3 8 0 := ⟨_, rfl⟩
    have hyp := hyp g6 eg7
    obtain rfl : h1 = hX g6 := by rw [e5, eg7]; exact rfl
    clear e5
    refine ex_aload_n 31 dX7_start_30 rfl rfl ?_
    refine s_callVv [] 34 dX7_start_31 rfl cvX7_22 rfl rfl ⟨Nat.le_of_ble_eq_true rfl, Nat.le_of_ble_eq_true rfl⟩ (Nat.le_of_ble_eq_true rfl) ⟨_, rfl⟩ hyp (fun h1 hq => ?_)
    obtain ⟨g8, rfl, hyp⟩ := hq
    exact ex_vret dX7_start_34 rfl ⟨rfl, _, rfl, hyp⟩
  · have hyp := hf c14
    clear ht hf
    refine ex_aload_n 8 dX7_start_7 rfl rfl ?_
    refine q_getR (a := 4) 7 0 11 dX7_start_8 rfl fiX7_9 rfl ⟨_, rfl⟩ rfl ?_
    refine ex_iload_n 12 dX7_start_11 rfl rfl ?_
    refine ex_iconst 13 dX7_start_12 rfl ?_
    obtain ⟨o9, hyp⟩ := hyp
    obtain ⟨o10, hyp⟩ := hyp
    refine ex_iast 14 dX7_start_13 rfl (ai_of (n := 3) rfl o9 o10 (by decide)) (fun h1 e11 => ?_)
    obtain ⟨g12, eg13⟩ : ∃ z : GS, z = gI g0 4 (x1).toNat 0 := ⟨_, rfl⟩
    have hyp := hyp g12 eg13
    obtain rfl : h1 = hX g12 := by rw [e11, eg13]; exact rfl
    clear e11
    refine q_iinc [some (vr 3), some (vi (x1 + 1))] 17 dX7_start_14 rfl rfl (Nat.le_of_ble_eq_true rfl) rfl rfl ?_
    refine ex_goto 2 dX7_start_17 (by decide) ?_
    exact hyp
set_option maxRecDepth 4000 in
theorem uX7_takes {P : Int → GS → Prop} (g0 : GS) (x1 : Int) (hyp : rng (g0.1 3 7) ∧ (g0.1 3 7 < 0 ∨ 3 < g0.1 3 7 → (MXi mX7_takesInAge [vr 3, vi x1] g0 (fun y3 g2 => rng y3 ∧ (y3 = 0 → ((y3 = 0 ∨ y3 = 1) ∧ P y3 g2)) ∧ (¬ y3 = 0 → (∀ g6 : GS, g6 = gI g2 3 8 ((g2.1 3 8) + 1) → ((y3 = 0 ∨ y3 = 1) ∧ P y3 g6)))))) ∧ (g0.1 3 7 = 0 → (MXi mX7_takesKind [vr 3, vi x1] g0 (fun y10 g9 => rng y10 ∧ (y10 = 0 → ((y10 = 0 ∨ y10 = 1) ∧ P y10 g9)) ∧ (¬ y10 = 0 → (∀ g13 : GS, g13 = gI g9 3 8 ((g9.1 3 8) + 1) → ((y10 = 0 ∨ y10 = 1) ∧ P y10 g13)))))) ∧ (g0.1 3 7 = 1 → (MXi mX7_takesInName [vr 3, vi x1] g0 (fun y17 g16 => rng y17 ∧ (y17 = 0 → ((y17 = 0 ∨ y17 = 1) ∧ P y17 g16)) ∧ (¬ y17 = 0 → (∀ g20 : GS, g20 = gI g16 3 8 ((g16.1 3 8) + 1) → ((y17 = 0 ∨ y17 = 1) ∧ P y17 g20)))))) ∧ (g0.1 3 7 = 2 → (MXi mX7_takesFigureOfYear [vr 3, vi x1] g0 (fun y24 g23 => rng y24 ∧ (y24 = 0 → ((y24 = 0 ∨ y24 = 1) ∧ P y24 g23)) ∧ (¬ y24 = 0 → (∀ g27 : GS, g27 = gI g23 3 8 ((g23.1 3 8) + 1) → ((y24 = 0 ∨ y24 = 1) ∧ P y24 g27)))))) ∧ (g0.1 3 7 = 3 → (MXi mX7_takesBehindYear [vr 3, vi x1] g0 (fun y31 g30 => rng y31 ∧ (y31 = 0 → ((y31 = 0 ∨ y31 = 1) ∧ P y31 g30)) ∧ (¬ y31 = 0 → (∀ g34 : GS, g34 = gI g30 3 8 ((g30.1 3 8) + 1) → ((y31 = 0 ∨ y31 = 1) ∧ P y31 g34))))))) : MXi mX7_takes [vr 3, vi x1] g0 P := by
  refine met_of_ex (by decide +kernel) (Nat.le_of_ble_eq_true rfl) ?_
  show EX mX7_takes 0 [some (vr 3), some (vi x1), none] [] (hX g0) (0, 0) _
  refine ex_aload_n 1 dX7_takes_0 rfl rfl ?_
  refine q_getI 7 7 4 dX7_takes_1 rfl fiX7_25 (Or.inl rfl) ⟨_, rfl⟩ ?_
  obtain ⟨o1, hyp⟩ := hyp
  obtain ⟨hd, hv0, hv1, hv2, hv3⟩ := hyp
  rcases (show (g0.1 3 7 < 0 ∨ 3 < g0.1 3 7) ∨ g0.1 3 7 = 0 ∨ g0.1 3 7 = 1 ∨ g0.1 3 7 = 2 ∨ g0.1 3 7 = 3 by omega) with c | c | c | c | c
  · refine ex_tswOut 72 dX7_takes_4 o1 c (by decide) ?_
    have hyp := hd c
    refine ex_aload_n 73 dX7_takes_72 rfl rfl ?_
    refine ex_iload_n 74 dX7_takes_73 rfl rfl ?_
    refine s_callVi [vi x1] 77 dX7_takes_74 rfl cvX7_41 rfl rfl ⟨Nat.le_of_ble_eq_true rfl, Nat.le_of_ble_eq_true rfl⟩ (Nat.le_of_ble_eq_true rfl) ⟨_, rfl⟩ hyp (fun y3 h1 hq => ?_)
    obtain ⟨g2, rfl, hyp⟩ := hq
    refine q_istore_n [some (vr 3), some (vi x1), some (vi y3)] 78 dX7_takes_77 rfl (Nat.le_of_ble_eq_true rfl) rfl rfl ?_
    refine ex_iload_n 79 dX7_takes_78 rfl rfl ?_
    obtain ⟨o4, hyp⟩ := hyp
    obtain ⟨ht, hf⟩ := hyp
    refine ex_if_eq 92 82 dX7_takes_79 (by decide) rfl o4 (fun c8 => ?_) (fun c8 => ?_)
    · have hyp := ht c8
      clear ht hf
      refine ex_iload_n 93 dX7_takes_92 rfl rfl ?_
      exact ex_iret dX7_takes_93 (Or.inr ⟨rfl, hyp.1⟩) ⟨_, rfl, _, rfl, hyp.2⟩
    · have hyp := hf c8
      clear ht hf
      refine ex_aload_n 83 dX7_takes_82 rfl rfl ?_
      refine ex_dup 84 dX7_takes_83 rfl rfl ?_
      refine q_getI 7 8 87 dX7_takes_84 rfl fiX7_19 (Or.inl rfl) ⟨_, rfl⟩ ?_
      refine ex_iconst 88 dX7_takes_87 rfl ?_
      refine ex_iadd 89 dX7_takes_88 rfl ?_
      refine q_putI 7 8 92 dX7_takes_89 rfl fiX7_19 ff7_8 rfl ⟨_, rfl⟩ (fun h1 e5 => ?_)
      obtain ⟨g6, eg7⟩ : ∃ z : GS, z = gI g2 3 8 ((g2.1 3 8) + 1) := ⟨_, rfl⟩
      have hyp := hyp g6 eg7
      obtain rfl : h1 = hX g6 := by rw [e5, eg7]; exact rfl
      clear e5
      refine ex_iload_n 93 dX7_takes_92 rfl rfl ?_
      exact ex_iret dX7_takes_93 (Or.inr ⟨rfl, hyp.1⟩) ⟨_, rfl, _, rfl, hyp.2⟩
  · refine ex_tswIn 0 36 dX7_takes_4 c ⟨by decide, by decide⟩ (by decide) (by decide) rfl (by decide) ?_
    have hyp := hv0 c
    refine ex_aload_n 37 dX7_takes_36 rfl rfl ?_
    refine ex_iload_n 38 dX7_takes_37 rfl rfl ?_
    refine s_callVi [vi x1] 41 dX7_takes_38 rfl cvX7_28 rfl rfl ⟨Nat.le_of_ble_eq_true rfl, Nat.le_of_ble_eq_true rfl⟩ (Nat.le_of_ble_eq_true rfl) ⟨_, rfl⟩ hyp (fun y10 h1 hq => ?_)
    obtain ⟨g9, rfl, hyp⟩ := hq
    refine q_istore_n [some (vr 3), some (vi x1), some (vi y10)] 42 dX7_takes_41 rfl (Nat.le_of_ble_eq_true rfl) rfl rfl ?_
    refine ex_goto 78 dX7_takes_42 (by decide) ?_
    refine ex_iload_n 79 dX7_takes_78 rfl rfl ?_
    obtain ⟨o11, hyp⟩ := hyp
    obtain ⟨ht, hf⟩ := hyp
    refine ex_if_eq 92 82 dX7_takes_79 (by decide) rfl o11 (fun c15 => ?_) (fun c15 => ?_)
    · have hyp := ht c15
      clear ht hf
      refine ex_iload_n 93 dX7_takes_92 rfl rfl ?_
      exact ex_iret dX7_takes_93 (Or.inr ⟨rfl, hyp.1⟩) ⟨_, rfl, _, rfl, hyp.2⟩
    · have hyp := hf c15
      clear ht hf
      refine ex_aload_n 83 dX7_takes_82 rfl rfl ?_
      refine ex_dup 84 dX7_takes_83 rfl rfl ?_
      refine q_getI 7 8 87 dX7_takes_84 rfl fiX7_19 (Or.inl rfl) ⟨_, rfl⟩ ?_
      refine ex_iconst 88 dX7_takes_87 rfl ?_
      refine ex_iadd 89 dX7_takes_88 rfl ?_
      refine q_putI 7 8 92 dX7_takes_89 rfl fiX7_19 ff7_8 rfl ⟨_, rfl⟩ (fun h1 e12 => ?_)
      obtain ⟨g13, eg14⟩ : ∃ z : GS, z = gI g9 3 8 ((g9.1 3 8) + 1) := ⟨_, rfl⟩
      have hyp := hyp g13 eg14
      obtain rfl : h1 = hX g13 := by rw [e12, eg14]; exact rfl
      clear e12
      refine ex_iload_n 93 dX7_takes_92 rfl rfl ?_
      exact ex_iret dX7_takes_93 (Or.inr ⟨rfl, hyp.1⟩) ⟨_, rfl, _, rfl, hyp.2⟩
  · refine ex_tswIn 1 45 dX7_takes_4 c ⟨by decide, by decide⟩ (by decide) (by decide) rfl (by decide) ?_
    have hyp := hv1 c
    refine ex_aload_n 46 dX7_takes_45 rfl rfl ?_
    refine ex_iload_n 47 dX7_takes_46 rfl rfl ?_
    refine s_callVi [vi x1] 50 dX7_takes_47 rfl cvX7_32 rfl rfl ⟨Nat.le_of_ble_eq_true rfl, Nat.le_of_ble_eq_true rfl⟩ (Nat.le_of_ble_eq_true rfl) ⟨_, rfl⟩ hyp (fun y17 h1 hq => ?_)
    obtain ⟨g16, rfl, hyp⟩ := hq
    refine q_istore_n [some (vr 3), some (vi x1), some (vi y17)] 51 dX7_takes_50 rfl (Nat.le_of_ble_eq_true rfl) rfl rfl ?_
    refine ex_goto 78 dX7_takes_51 (by decide) ?_
    refine ex_iload_n 79 dX7_takes_78 rfl rfl ?_
    obtain ⟨o18, hyp⟩ := hyp
    obtain ⟨ht, hf⟩ := hyp
    refine ex_if_eq 92 82 dX7_takes_79 (by decide) rfl o18 (fun c22 => ?_) (fun c22 => ?_)
    · have hyp := ht c22
      clear ht hf
      refine ex_iload_n 93 dX7_takes_92 rfl rfl ?_
      exact ex_iret dX7_takes_93 (Or.inr ⟨rfl, hyp.1⟩) ⟨_, rfl, _, rfl, hyp.2⟩
    · have hyp := hf c22
      clear ht hf
      refine ex_aload_n 83 dX7_takes_82 rfl rfl ?_
      refine ex_dup 84 dX7_takes_83 rfl rfl ?_
      refine q_getI 7 8 87 dX7_takes_84 rfl fiX7_19 (Or.inl rfl) ⟨_, rfl⟩ ?_
      refine ex_iconst 88 dX7_takes_87 rfl ?_
      refine ex_iadd 89 dX7_takes_88 rfl ?_
      refine q_putI 7 8 92 dX7_takes_89 rfl fiX7_19 ff7_8 rfl ⟨_, rfl⟩ (fun h1 e19 => ?_)
      obtain ⟨g20, eg21⟩ : ∃ z : GS, z = gI g16 3 8 ((g16.1 3 8) + 1) := ⟨_, rfl⟩
      have hyp := hyp g20 eg21
      obtain rfl : h1 = hX g20 := by rw [e19, eg21]; exact rfl
      clear e19
      refine ex_iload_n 93 dX7_takes_92 rfl rfl ?_
      exact ex_iret dX7_takes_93 (Or.inr ⟨rfl, hyp.1⟩) ⟨_, rfl, _, rfl, hyp.2⟩
  · refine ex_tswIn 2 54 dX7_takes_4 c ⟨by decide, by decide⟩ (by decide) (by decide) rfl (by decide) ?_
    have hyp := hv2 c
    refine ex_aload_n 55 dX7_takes_54 rfl rfl ?_
    refine ex_iload_n 56 dX7_takes_55 rfl rfl ?_
    refine s_callVi [vi x1] 59 dX7_takes_56 rfl cvX7_35 rfl rfl ⟨Nat.le_of_ble_eq_true rfl, Nat.le_of_ble_eq_true rfl⟩ (Nat.le_of_ble_eq_true rfl) ⟨_, rfl⟩ hyp (fun y24 h1 hq => ?_)
    obtain ⟨g23, rfl, hyp⟩ := hq
    refine q_istore_n [some (vr 3), some (vi x1), some (vi y24)] 60 dX7_takes_59 rfl (Nat.le_of_ble_eq_true rfl) rfl rfl ?_
    refine ex_goto 78 dX7_takes_60 (by decide) ?_
    refine ex_iload_n 79 dX7_takes_78 rfl rfl ?_
    obtain ⟨o25, hyp⟩ := hyp
    obtain ⟨ht, hf⟩ := hyp
    refine ex_if_eq 92 82 dX7_takes_79 (by decide) rfl o25 (fun c29 => ?_) (fun c29 => ?_)
    · have hyp := ht c29
      clear ht hf
      refine ex_iload_n 93 dX7_takes_92 rfl rfl ?_
      exact ex_iret dX7_takes_93 (Or.inr ⟨rfl, hyp.1⟩) ⟨_, rfl, _, rfl, hyp.2⟩
    · have hyp := hf c29
      clear ht hf
      refine ex_aload_n 83 dX7_takes_82 rfl rfl ?_
      refine ex_dup 84 dX7_takes_83 rfl rfl ?_
      refine q_getI 7 8 87 dX7_takes_84 rfl fiX7_19 (Or.inl rfl) ⟨_, rfl⟩ ?_
      refine ex_iconst 88 dX7_takes_87 rfl ?_
      refine ex_iadd 89 dX7_takes_88 rfl ?_
      refine q_putI 7 8 92 dX7_takes_89 rfl fiX7_19 ff7_8 rfl ⟨_, rfl⟩ (fun h1 e26 => ?_)
      obtain ⟨g27, eg28⟩ : ∃ z : GS, z = gI g23 3 8 ((g23.1 3 8) + 1) := ⟨_, rfl⟩
      have hyp := hyp g27 eg28
      obtain rfl : h1 = hX g27 := by rw [e26, eg28]; exact rfl
      clear e26
      refine ex_iload_n 93 dX7_takes_92 rfl rfl ?_
      exact ex_iret dX7_takes_93 (Or.inr ⟨rfl, hyp.1⟩) ⟨_, rfl, _, rfl, hyp.2⟩
  · refine ex_tswIn 3 63 dX7_takes_4 c ⟨by decide, by decide⟩ (by decide) (by decide) rfl (by decide) ?_
    have hyp := hv3 c
    refine ex_aload_n 64 dX7_takes_63 rfl rfl ?_
    refine ex_iload_n 65 dX7_takes_64 rfl rfl ?_
    refine s_callVi [vi x1] 68 dX7_takes_65 rfl cvX7_38 rfl rfl ⟨Nat.le_of_ble_eq_true rfl, Nat.le_of_ble_eq_true rfl⟩ (Nat.le_of_ble_eq_true rfl) ⟨_, rfl⟩ hyp (fun y31 h1 hq => ?_)
    obtain ⟨g30, rfl, hyp⟩ := hq
    refine q_istore_n [some (vr 3), some (vi x1), some (vi y31)] 69 dX7_takes_68 rfl (Nat.le_of_ble_eq_true rfl) rfl rfl ?_
    refine ex_goto 78 dX7_takes_69 (by decide) ?_
    refine ex_iload_n 79 dX7_takes_78 rfl rfl ?_
    obtain ⟨o32, hyp⟩ := hyp
    obtain ⟨ht, hf⟩ := hyp
    refine ex_if_eq 92 82 dX7_takes_79 (by decide) rfl o32 (fun c36 => ?_) (fun c36 => ?_)
    · have hyp := ht c36
      clear ht hf
      refine ex_iload_n 93 dX7_takes_92 rfl rfl ?_
      exact ex_iret dX7_takes_93 (Or.inr ⟨rfl, hyp.1⟩) ⟨_, rfl, _, rfl, hyp.2⟩
    · have hyp := hf c36
      clear ht hf
      refine ex_aload_n 83 dX7_takes_82 rfl rfl ?_
      refine ex_dup 84 dX7_takes_83 rfl rfl ?_
      refine q_getI 7 8 87 dX7_takes_84 rfl fiX7_19 (Or.inl rfl) ⟨_, rfl⟩ ?_
      refine ex_iconst 88 dX7_takes_87 rfl ?_
      refine ex_iadd 89 dX7_takes_88 rfl ?_
      refine q_putI 7 8 92 dX7_takes_89 rfl fiX7_19 ff7_8 rfl ⟨_, rfl⟩ (fun h1 e33 => ?_)
      obtain ⟨g34, eg35⟩ : ∃ z : GS, z = gI g30 3 8 ((g30.1 3 8) + 1) := ⟨_, rfl⟩
      have hyp := hyp g34 eg35
      obtain rfl : h1 = hX g34 := by rw [e33, eg35]; exact rfl
      clear e33
      refine ex_iload_n 93 dX7_takes_92 rfl rfl ?_
      exact ex_iret dX7_takes_93 (Or.inr ⟨rfl, hyp.1⟩) ⟨_, rfl, _, rfl, hyp.2⟩
set_option maxRecDepth 4000 in
theorem uX7_isWhole {P : Int → GS → Prop} (g0 : GS)  (hyp : rng (g0.1 3 7) ∧ (g0.1 3 7 = 3 → (P 1 g0)) ∧ (¬ g0.1 3 7 = 3 → ((¬ g0.1 3 7 = 4 → (P 0 g0)) ∧ (g0.1 3 7 = 4 → (MXi mX7_ageIsWhole [vr 3] g0 (fun y3 g2 => rng y3 ∧ (y3 = 0 → (P 0 g2)) ∧ (¬ y3 = 0 → (P 1 g2)))))))) : MXi mX7_isWhole [vr 3] g0 P := by
  refine met_of_ex (by decide +kernel) (Nat.le_of_ble_eq_true rfl) ?_
  show EX mX7_isWhole 0 [some (vr 3)] [] (hX g0) (0, 0) _
  refine ex_aload_n 1 dX7_isWhole_0 rfl rfl ?_
  refine q_getI 7 7 4 dX7_isWhole_1 rfl fiX7_25 (Or.inl rfl) ⟨_, rfl⟩ ?_
  refine ex_iconst 5 dX7_isWhole_4 rfl ?_
  obtain ⟨o1, hyp⟩ := hyp
  obtain ⟨ht, hf⟩ := hyp
  refine ex_icmp_eq 23 8 dX7_isWhole_5 (by decide) rfl o1 ⟨by decide, by decide⟩ (fun c7 => ?_) (fun c7 => ?_)
  · have hyp := ht c7
    clear ht hf
    refine ex_iconst 24 dX7_isWhole_23 rfl ?_
    refine ex_goto 28 dX7_isWhole_24 (by decide) ?_
    exact ex_iret dX7_isWhole_28 (Or.inr ⟨rfl, Or.inr rfl⟩) ⟨_, rfl, _, rfl, hyp⟩
  · have hyp := hf c7
    clear ht hf
    refine ex_aload_n 9 dX7_isWhole_8 rfl rfl ?_
    refine q_getI 7 7 12 dX7_isWhole_9 rfl fiX7_25 (Or.inl rfl) ⟨_, rfl⟩ ?_
    refine ex_iconst 13 dX7_isWhole_12 rfl ?_
    obtain ⟨ht, hf⟩ := hyp
    refine ex_icmp_ne 27 16 dX7_isWhole_13 (by decide) rfl o1 ⟨by decide, by decide⟩ (fun c6 => ?_) (fun c6 => ?_)
    · have hyp := ht c6
      clear ht hf
      refine ex_iconst 28 dX7_isWhole_27 rfl ?_
      exact ex_iret dX7_isWhole_28 (Or.inr ⟨rfl, Or.inl rfl⟩) ⟨_, rfl, _, rfl, hyp⟩
    · have hyp := hf c6
      clear ht hf
      refine ex_aload_n 17 dX7_isWhole_16 rfl rfl ?_
      refine s_callVi [] 20 dX7_isWhole_17 rfl cvX7_44 rfl rfl ⟨Nat.le_of_ble_eq_true rfl, Nat.le_of_ble_eq_true rfl⟩ (Nat.le_of_ble_eq_true rfl) ⟨_, rfl⟩ hyp (fun y3 h1 hq => ?_)
      obtain ⟨g2, rfl, hyp⟩ := hq
      obtain ⟨o4, hyp⟩ := hyp
      obtain ⟨ht, hf⟩ := hyp
      refine ex_if_eq 27 23 dX7_isWhole_20 (by decide) rfl o4 (fun c5 => ?_) (fun c5 => ?_)
      · have hyp := ht c5
        clear ht hf
        refine ex_iconst 28 dX7_isWhole_27 rfl ?_
        exact ex_iret dX7_isWhole_28 (Or.inr ⟨rfl, Or.inl rfl⟩) ⟨_, rfl, _, rfl, hyp⟩
      · have hyp := hf c5
        clear ht hf
        refine ex_iconst 24 dX7_isWhole_23 rfl ?_
        refine ex_goto 28 dX7_isWhole_24 (by decide) ?_
        exact ex_iret dX7_isWhole_28 (Or.inr ⟨rfl, Or.inr rfl⟩) ⟨_, rfl, _, rfl, hyp⟩
set_option maxRecDepth 4000 in
theorem uX7_startEntry {P : GS → Prop} (g0 : GS)  (hyp : ∀ g2 : GS, g2 = gI g0 3 7 0 → (∀ g5 : GS, g5 = gI g2 3 4 0 → (∀ g8 : GS, g8 = gI g5 3 5 0 → (∀ g11 : GS, g11 = gI g8 3 6 (-1) → (∀ g14 : GS, g14 = gI g11 3 9 0 → (P g14)))))) : MXv mX7_startEntry [vr 3] g0 P := by
  refine met_of_ex (by decide +kernel) (Nat.le_of_ble_eq_true rfl) ?_
  show EX mX7_startEntry 0 [some (vr 3)] [] (hX g0) (0, 0) _
  refine ex_aload_n 1 dX7_startEntry_0 rfl rfl ?_
  refine ex_iconst 2 dX7_startEntry_1 rfl ?_
  refine q_putI 7 7 5 dX7_startEntry_2 rfl fiX7_25 ff7_7 rfl ⟨_, rfl⟩ (fun h1 e1 => ?_)
  obtain ⟨g2, eg3⟩ : ∃ z : GS, z = gI g0 3 7 0 := ⟨_, rfl⟩
  have hyp := hyp g2 eg3
  obtain rfl : h1 = hX g2 := by rw [e1, eg3]; exact rfl
  clear e1
  refine ex_aload_n 6 dX7_startEntry_5 rfl rfl ?_
  refine ex_iconst 7 dX7_startEntry_6 rfl ?_
  refine q_putI 7 4 10 dX7_startEntry_7 rfl fiX7_48 ff7_4 rfl ⟨_, rfl⟩ (fun h1 e4 => ?_)
  obtain ⟨g5, eg6⟩ : ∃ z : GS, z = gI g2 3 4 0 := ⟨_, rfl⟩
  have hyp := hyp g5 eg6
  obtain rfl : h1 = hX g5 := by rw [e4, eg6]; exact rfl
  clear e4
  refine ex_aload_n 11 dX7_startEntry_10 rfl rfl ?_
  refine ex_iconst 12 dX7_startEntry_11 rfl ?_
  refine q_putI 7 5 15 dX7_startEntry_12 rfl fiX7_51 ff7_5 rfl ⟨_, rfl⟩ (fun h1 e7 => ?_)
  obtain ⟨g8, eg9⟩ : ∃ z : GS, z = gI g5 3 5 0 := ⟨_, rfl⟩
  have hyp := hyp g8 eg9
  obtain rfl : h1 = hX g8 := by rw [e7, eg9]; exact rfl
  clear e7
  refine ex_aload_n 16 dX7_startEntry_15 rfl rfl ?_
  refine ex_iconst 17 dX7_startEntry_16 rfl ?_
  refine q_putI 7 6 20 dX7_startEntry_17 rfl fiX7_54 ff7_6 rfl ⟨_, rfl⟩ (fun h1 e10 => ?_)
  obtain ⟨g11, eg12⟩ : ∃ z : GS, z = gI g8 3 6 (-1) := ⟨_, rfl⟩
  have hyp := hyp g11 eg12
  obtain rfl : h1 = hX g11 := by rw [e10, eg12]; exact rfl
  clear e10
  refine ex_aload_n 21 dX7_startEntry_20 rfl rfl ?_
  refine ex_iconst 22 dX7_startEntry_21 rfl ?_
  refine q_putI 7 9 25 dX7_startEntry_22 rfl fiX7_57 ff7_9 rfl ⟨_, rfl⟩ (fun h1 e13 => ?_)
  obtain ⟨g14, eg15⟩ : ∃ z : GS, z = gI g11 3 9 0 := ⟨_, rfl⟩
  have hyp := hyp g14 eg15
  obtain rfl : h1 = hX g14 := by rw [e13, eg15]; exact rfl
  clear e13
  exact ex_vret dX7_startEntry_25 rfl ⟨rfl, _, rfl, hyp⟩
set_option maxRecDepth 4000 in
theorem uX7_takesKind {P : Int → GS → Prop} (g0 : GS) (x1 : Int) (hyp : rng x1 ∧ (x1 = 98 → (XXi mX7_takesKind 20 [some (vr 3), some (vi x1)] [] g0 P)) ∧ (¬ x1 = 98 → ((x1 = 119 → (XXi mX7_takesKind 20 [some (vr 3), some (vi x1)] [] g0 P)) ∧ (¬ x1 = 119 → ((x1 = 100 → (XXi mX7_takesKind 20 [some (vr 3), some (vi x1)] [] g0 P)) ∧ (¬ x1 = 100 → (P 0 g0))))))) : MXi mX7_takesKind [vr 3, vi x1] g0 P := by
  refine met_of_ex (by decide +kernel) (Nat.le_of_ble_eq_true rfl) ?_
  show EX mX7_takesKind 0 [some (vr 3), some (vi x1)] [] (hX g0) (0, 0) _
  refine ex_iload_n 1 dX7_takesKind_0 rfl rfl ?_
  refine ex_bipush 3 dX7_takesKind_1 rfl ⟨by decide, by decide⟩ ?_
  obtain ⟨o1, hyp⟩ := hyp
  obtain ⟨ht, hf⟩ := hyp
  refine ex_icmp_eq 20 6 dX7_takesKind_3 (by decide) rfl o1 ⟨by decide, by decide⟩ (fun c4 => ?_) (fun c4 => ?_)
  · have hyp := ht c4
    clear ht hf
    exact hyp
  · have hyp := hf c4
    clear ht hf
    refine ex_iload_n 7 dX7_takesKind_6 rfl rfl ?_
    refine ex_bipush 9 dX7_takesKind_7 rfl ⟨by decide, by decide⟩ ?_
    obtain ⟨ht, hf⟩ := hyp
    refine ex_icmp_eq 20 12 dX7_takesKind_9 (by decide) rfl o1 ⟨by decide, by decide⟩ (fun c3 => ?_) (fun c3 => ?_)
    · have hyp := ht c3
      clear ht hf
      exact hyp
    · have hyp := hf c3
      clear ht hf
      refine ex_iload_n 13 dX7_takesKind_12 rfl rfl ?_
      refine ex_bipush 15 dX7_takesKind_13 rfl ⟨by decide, by decide⟩ ?_
      obtain ⟨ht, hf⟩ := hyp
      refine ex_icmp_eq 20 18 dX7_takesKind_15 (by decide) rfl o1 ⟨by decide, by decide⟩ (fun c2 => ?_) (fun c2 => ?_)
      · have hyp := ht c2
        clear ht hf
        exact hyp
      · have hyp := hf c2
        clear ht hf
        refine ex_iconst 19 dX7_takesKind_18 rfl ?_
        exact ex_iret dX7_takesKind_19 (Or.inr ⟨rfl, Or.inl rfl⟩) ⟨_, rfl, _, rfl, hyp⟩
set_option maxRecDepth 4000 in
theorem uX7_takesKind_20 {P : Int → GS → Prop} (g0 : GS) (x1 : Int) (hyp : rng x1 ∧ (¬ x1 = 98 → ((¬ x1 = 119 → (∀ g3 : GS, g3 = gI g0 3 2 2 → (0 ≤ g3.1 3 2 ∧ g3.1 3 2 < 3 ∧ ∀ g8 : GS, g8 = gI g3 4 (g3.1 3 2).toNat ((g3.1 4 (g3.1 3 2).toNat) + 1) → (∀ g11 : GS, g11 = gI g8 3 1 ((g8.1 3 1) + 1) → (∀ g14 : GS, g14 = gI g11 3 3 ((g11.1 3 8) + 1) → (∀ g17 : GS, g17 = gI g14 3 7 1 → (P 1 g17))))))) ∧ (x1 = 119 → (∀ g20 : GS, g20 = gI g0 3 2 1 → (0 ≤ g20.1 3 2 ∧ g20.1 3 2 < 3 ∧ ∀ g25 : GS, g25 = gI g20 4 (g20.1 3 2).toNat ((g20.1 4 (g20.1 3 2).toNat) + 1) → (∀ g28 : GS, g28 = gI g25 3 1 ((g25.1 3 1) + 1) → (∀ g31 : GS, g31 = gI g28 3 3 ((g28.1 3 8) + 1) → (∀ g34 : GS, g34 = gI g31 3 7 1 → (P 1 g34))))))))) ∧ (x1 = 98 → (∀ g38 : GS, g38 = gI g0 3 2 0 → (0 ≤ g38.1 3 2 ∧ g38.1 3 2 < 3 ∧ ∀ g43 : GS, g43 = gI g38 4 (g38.1 3 2).toNat ((g38.1 4 (g38.1 3 2).toNat) + 1) → (∀ g46 : GS, g46 = gI g43 3 1 ((g43.1 3 1) + 1) → (∀ g49 : GS, g49 = gI g46 3 3 ((g46.1 3 8) + 1) → (∀ g52 : GS, g52 = gI g49 3 7 1 → (P 1 g52)))))))) : XXi mX7_takesKind 20 [some (vr 3), some (vi x1)] [] g0 P := by
  refine ex_aload_n 21 dX7_takesKind_20 rfl rfl ?_
  refine ex_iload_n 22 dX7_takesKind_21 rfl rfl ?_
  refine ex_bipush 24 dX7_takesKind_22 rfl ⟨by decide, by decide⟩ ?_
  obtain ⟨o1, hyp⟩ := hyp
  obtain ⟨ht, hf⟩ := hyp
  refine ex_icmp_ne 31 27 dX7_takesKind_24 (by decide) rfl o1 ⟨by decide, by decide⟩ (fun c54 => ?_) (fun c54 => ?_)
  · have hyp := ht c54
    clear ht hf
    refine ex_iload_n 32 dX7_takesKind_31 rfl rfl ?_
    refine ex_bipush 34 dX7_takesKind_32 rfl ⟨by decide, by decide⟩ ?_
    obtain ⟨ht, hf⟩ := hyp
    refine ex_icmp_ne 41 37 dX7_takesKind_34 (by decide) rfl o1 ⟨by decide, by decide⟩ (fun c36 => ?_) (fun c36 => ?_)
    · have hyp := ht c36
      clear ht hf
      refine ex_iconst 42 dX7_takesKind_41 rfl ?_
      refine q_putI 7 2 45 dX7_takesKind_42 rfl fiX7_60 ff7_2 rfl ⟨_, rfl⟩ (fun h1 e2 => ?_)
      obtain ⟨g3, eg4⟩ : ∃ z : GS, z = gI g0 3 2 2 := ⟨_, rfl⟩
      have hyp := hyp g3 eg4
      obtain rfl : h1 = hX g3 := by rw [e2, eg4]; exact rfl
      clear e2
      refine ex_aload_n 46 dX7_takesKind_45 rfl rfl ?_
      refine q_getR (a := 4) 7 0 49 dX7_takesKind_46 rfl fiX7_9 rfl ⟨_, rfl⟩ rfl ?_
      refine ex_aload_n 50 dX7_takesKind_49 rfl rfl ?_
      refine q_getI 7 2 53 dX7_takesKind_50 rfl fiX7_60 (Or.inl rfl) ⟨_, rfl⟩ ?_
      refine ex_dup2 54 dX7_takesKind_53 rfl rfl rfl ?_
      obtain ⟨o5, hyp⟩ := hyp
      obtain ⟨o6, hyp⟩ := hyp
      refine ex_iald 55 dX7_takesKind_54 rfl (ai_of (n := 3) rfl o5 o6 (by decide)) ?_
      refine ex_iconst 56 dX7_takesKind_55 rfl ?_
      refine ex_iadd 57 dX7_takesKind_56 rfl ?_
      refine ex_iast 58 dX7_takesKind_57 rfl (ai_of (n := 3) rfl o5 o6 (by decide)) (fun h1 e7 => ?_)
      obtain ⟨g8, eg9⟩ : ∃ z : GS, z = gI g3 4 (g3.1 3 2).toNat ((g3.1 4 (g3.1 3 2).toNat) + 1) := ⟨_, rfl⟩
      have hyp := hyp g8 eg9
      obtain rfl : h1 = hX g8 := by rw [e7, eg9]; exact rfl
      clear e7
      refine ex_aload_n 59 dX7_takesKind_58 rfl rfl ?_
      refine ex_dup 60 dX7_takesKind_59 rfl rfl ?_
      refine q_getI 7 1 63 dX7_takesKind_60 rfl fiX7_15 (Or.inl rfl) ⟨_, rfl⟩ ?_
      refine ex_iconst 64 dX7_takesKind_63 rfl ?_
      refine ex_iadd 65 dX7_takesKind_64 rfl ?_
      refine q_putI 7 1 68 dX7_takesKind_65 rfl fiX7_15 ff7_1 rfl ⟨_, rfl⟩ (fun h1 e10 => ?_)
      obtain ⟨g11, eg12⟩ : ∃ z : GS, z = gI g8 3 1 ((g8.1 3 1) + 1) := ⟨_, rfl⟩
      have hyp := hyp g11 eg12
      obtain rfl : h1 = hX g11 := by rw [e10, eg12]; exact rfl
      clear e10
      refine ex_aload_n 69 dX7_takesKind_68 rfl rfl ?_
      refine ex_aload_n 70 dX7_takesKind_69 rfl rfl ?_
      refine q_getI 7 8 73 dX7_takesKind_70 rfl fiX7_19 (Or.inl rfl) ⟨_, rfl⟩ ?_
      refine ex_iconst 74 dX7_takesKind_73 rfl ?_
      refine ex_iadd 75 dX7_takesKind_74 rfl ?_
      refine q_putI 7 3 78 dX7_takesKind_75 rfl fiX7_63 ff7_3 rfl ⟨_, rfl⟩ (fun h1 e13 => ?_)
      obtain ⟨g14, eg15⟩ : ∃ z : GS, z = gI g11 3 3 ((g11.1 3 8) + 1) := ⟨_, rfl⟩
      have hyp := hyp g14 eg15
      obtain rfl : h1 = hX g14 := by rw [e13, eg15]; exact rfl
      clear e13
      refine ex_aload_n 79 dX7_takesKind_78 rfl rfl ?_
      refine ex_iconst 80 dX7_takesKind_79 rfl ?_
      refine q_putI 7 7 83 dX7_takesKind_80 rfl fiX7_25 ff7_7 rfl ⟨_, rfl⟩ (fun h1 e16 => ?_)
      obtain ⟨g17, eg18⟩ : ∃ z : GS, z = gI g14 3 7 1 := ⟨_, rfl⟩
      have hyp := hyp g17 eg18
      obtain rfl : h1 = hX g17 := by rw [e16, eg18]; exact rfl
      clear e16
      refine ex_iconst 84 dX7_takesKind_83 rfl ?_
      exact ex_iret dX7_takesKind_84 (Or.inr ⟨rfl, Or.inr rfl⟩) ⟨_, rfl, _, rfl, hyp⟩
    · have hyp := hf c36
      clear ht hf
      refine ex_iconst 38 dX7_takesKind_37 rfl ?_
      refine ex_goto 42 dX7_takesKind_38 (by decide) ?_
      refine q_putI 7 2 45 dX7_takesKind_42 rfl fiX7_60 ff7_2 rfl ⟨_, rfl⟩ (fun h1 e19 => ?_)
      obtain ⟨g20, eg21⟩ : ∃ z : GS, z = gI g0 3 2 1 := ⟨_, rfl⟩
      have hyp := hyp g20 eg21
      obtain rfl : h1 = hX g20 := by rw [e19, eg21]; exact rfl
      clear e19
      refine ex_aload_n 46 dX7_takesKind_45 rfl rfl ?_
      refine q_getR (a := 4) 7 0 49 dX7_takesKind_46 rfl fiX7_9 rfl ⟨_, rfl⟩ rfl ?_
      refine ex_aload_n 50 dX7_takesKind_49 rfl rfl ?_
      refine q_getI 7 2 53 dX7_takesKind_50 rfl fiX7_60 (Or.inl rfl) ⟨_, rfl⟩ ?_
      refine ex_dup2 54 dX7_takesKind_53 rfl rfl rfl ?_
      obtain ⟨o22, hyp⟩ := hyp
      obtain ⟨o23, hyp⟩ := hyp
      refine ex_iald 55 dX7_takesKind_54 rfl (ai_of (n := 3) rfl o22 o23 (by decide)) ?_
      refine ex_iconst 56 dX7_takesKind_55 rfl ?_
      refine ex_iadd 57 dX7_takesKind_56 rfl ?_
      refine ex_iast 58 dX7_takesKind_57 rfl (ai_of (n := 3) rfl o22 o23 (by decide)) (fun h1 e24 => ?_)
      obtain ⟨g25, eg26⟩ : ∃ z : GS, z = gI g20 4 (g20.1 3 2).toNat ((g20.1 4 (g20.1 3 2).toNat) + 1) := ⟨_, rfl⟩
      have hyp := hyp g25 eg26
      obtain rfl : h1 = hX g25 := by rw [e24, eg26]; exact rfl
      clear e24
      refine ex_aload_n 59 dX7_takesKind_58 rfl rfl ?_
      refine ex_dup 60 dX7_takesKind_59 rfl rfl ?_
      refine q_getI 7 1 63 dX7_takesKind_60 rfl fiX7_15 (Or.inl rfl) ⟨_, rfl⟩ ?_
      refine ex_iconst 64 dX7_takesKind_63 rfl ?_
      refine ex_iadd 65 dX7_takesKind_64 rfl ?_
      refine q_putI 7 1 68 dX7_takesKind_65 rfl fiX7_15 ff7_1 rfl ⟨_, rfl⟩ (fun h1 e27 => ?_)
      obtain ⟨g28, eg29⟩ : ∃ z : GS, z = gI g25 3 1 ((g25.1 3 1) + 1) := ⟨_, rfl⟩
      have hyp := hyp g28 eg29
      obtain rfl : h1 = hX g28 := by rw [e27, eg29]; exact rfl
      clear e27
      refine ex_aload_n 69 dX7_takesKind_68 rfl rfl ?_
      refine ex_aload_n 70 dX7_takesKind_69 rfl rfl ?_
      refine q_getI 7 8 73 dX7_takesKind_70 rfl fiX7_19 (Or.inl rfl) ⟨_, rfl⟩ ?_
      refine ex_iconst 74 dX7_takesKind_73 rfl ?_
      refine ex_iadd 75 dX7_takesKind_74 rfl ?_
      refine q_putI 7 3 78 dX7_takesKind_75 rfl fiX7_63 ff7_3 rfl ⟨_, rfl⟩ (fun h1 e30 => ?_)
      obtain ⟨g31, eg32⟩ : ∃ z : GS, z = gI g28 3 3 ((g28.1 3 8) + 1) := ⟨_, rfl⟩
      have hyp := hyp g31 eg32
      obtain rfl : h1 = hX g31 := by rw [e30, eg32]; exact rfl
      clear e30
      refine ex_aload_n 79 dX7_takesKind_78 rfl rfl ?_
      refine ex_iconst 80 dX7_takesKind_79 rfl ?_
      refine q_putI 7 7 83 dX7_takesKind_80 rfl fiX7_25 ff7_7 rfl ⟨_, rfl⟩ (fun h1 e33 => ?_)
      obtain ⟨g34, eg35⟩ : ∃ z : GS, z = gI g31 3 7 1 := ⟨_, rfl⟩
      have hyp := hyp g34 eg35
      obtain rfl : h1 = hX g34 := by rw [e33, eg35]; exact rfl
      clear e33
      refine ex_iconst 84 dX7_takesKind_83 rfl ?_
      exact ex_iret dX7_takesKind_84 (Or.inr ⟨rfl, Or.inr rfl⟩) ⟨_, rfl, _, rfl, hyp⟩
  · have hyp := hf c54
    clear ht hf
    refine ex_iconst 28 dX7_takesKind_27 rfl ?_
    refine ex_goto 42 dX7_takesKind_28 (by decide) ?_
    refine q_putI 7 2 45 dX7_takesKind_42 rfl fiX7_60 ff7_2 rfl ⟨_, rfl⟩ (fun h1 e37 => ?_)
    obtain ⟨g38, eg39⟩ : ∃ z : GS, z = gI g0 3 2 0 := ⟨_, rfl⟩
    have hyp := hyp g38 eg39
    obtain rfl : h1 = hX g38 := by rw [e37, eg39]; exact rfl
    clear e37
    refine ex_aload_n 46 dX7_takesKind_45 rfl rfl ?_
    refine q_getR (a := 4) 7 0 49 dX7_takesKind_46 rfl fiX7_9 rfl ⟨_, rfl⟩ rfl ?_
    refine ex_aload_n 50 dX7_takesKind_49 rfl rfl ?_
    refine q_getI 7 2 53 dX7_takesKind_50 rfl fiX7_60 (Or.inl rfl) ⟨_, rfl⟩ ?_
    refine ex_dup2 54 dX7_takesKind_53 rfl rfl rfl ?_
    obtain ⟨o40, hyp⟩ := hyp
    obtain ⟨o41, hyp⟩ := hyp
    refine ex_iald 55 dX7_takesKind_54 rfl (ai_of (n := 3) rfl o40 o41 (by decide)) ?_
    refine ex_iconst 56 dX7_takesKind_55 rfl ?_
    refine ex_iadd 57 dX7_takesKind_56 rfl ?_
    refine ex_iast 58 dX7_takesKind_57 rfl (ai_of (n := 3) rfl o40 o41 (by decide)) (fun h1 e42 => ?_)
    obtain ⟨g43, eg44⟩ : ∃ z : GS, z = gI g38 4 (g38.1 3 2).toNat ((g38.1 4 (g38.1 3 2).toNat) + 1) := ⟨_, rfl⟩
    have hyp := hyp g43 eg44
    obtain rfl : h1 = hX g43 := by rw [e42, eg44]; exact rfl
    clear e42
    refine ex_aload_n 59 dX7_takesKind_58 rfl rfl ?_
    refine ex_dup 60 dX7_takesKind_59 rfl rfl ?_
    refine q_getI 7 1 63 dX7_takesKind_60 rfl fiX7_15 (Or.inl rfl) ⟨_, rfl⟩ ?_
    refine ex_iconst 64 dX7_takesKind_63 rfl ?_
    refine ex_iadd 65 dX7_takesKind_64 rfl ?_
    refine q_putI 7 1 68 dX7_takesKind_65 rfl fiX7_15 ff7_1 rfl ⟨_, rfl⟩ (fun h1 e45 => ?_)
    obtain ⟨g46, eg47⟩ : ∃ z : GS, z = gI g43 3 1 ((g43.1 3 1) + 1) := ⟨_, rfl⟩
    have hyp := hyp g46 eg47
    obtain rfl : h1 = hX g46 := by rw [e45, eg47]; exact rfl
    clear e45
    refine ex_aload_n 69 dX7_takesKind_68 rfl rfl ?_
    refine ex_aload_n 70 dX7_takesKind_69 rfl rfl ?_
    refine q_getI 7 8 73 dX7_takesKind_70 rfl fiX7_19 (Or.inl rfl) ⟨_, rfl⟩ ?_
    refine ex_iconst 74 dX7_takesKind_73 rfl ?_
    refine ex_iadd 75 dX7_takesKind_74 rfl ?_
    refine q_putI 7 3 78 dX7_takesKind_75 rfl fiX7_63 ff7_3 rfl ⟨_, rfl⟩ (fun h1 e48 => ?_)
    obtain ⟨g49, eg50⟩ : ∃ z : GS, z = gI g46 3 3 ((g46.1 3 8) + 1) := ⟨_, rfl⟩
    have hyp := hyp g49 eg50
    obtain rfl : h1 = hX g49 := by rw [e48, eg50]; exact rfl
    clear e48
    refine ex_aload_n 79 dX7_takesKind_78 rfl rfl ?_
    refine ex_iconst 80 dX7_takesKind_79 rfl ?_
    refine q_putI 7 7 83 dX7_takesKind_80 rfl fiX7_25 ff7_7 rfl ⟨_, rfl⟩ (fun h1 e51 => ?_)
    obtain ⟨g52, eg53⟩ : ∃ z : GS, z = gI g49 3 7 1 := ⟨_, rfl⟩
    have hyp := hyp g52 eg53
    obtain rfl : h1 = hX g52 := by rw [e51, eg53]; exact rfl
    clear e51
    refine ex_iconst 84 dX7_takesKind_83 rfl ?_
    exact ex_iret dX7_takesKind_84 (Or.inr ⟨rfl, Or.inr rfl⟩) ⟨_, rfl, _, rfl, hyp⟩
set_option maxRecDepth 4000 in
theorem uX7_takesInName {P : Int → GS → Prop} (g0 : GS) (x1 : Int) (hyp : rng x1 ∧ (¬ x1 = 58 → ((x1 < 97 → (P 0 g0)) ∧ (97 ≤ x1 → ((122 < x1 → (P 0 g0)) ∧ (x1 ≤ 122 → (rng (g0.1 3 4) ∧ (¬ g0.1 3 4 = 8 → (∀ g4 : GS, g4 = gI g0 3 4 ((g0.1 3 4) + 1) → (P 1 g4))) ∧ (g0.1 3 4 = 8 → (P 0 g0)))))))) ∧ (x1 = 58 → (rng (g0.1 3 4) ∧ (g0.1 3 4 ≤ 0 → ((x1 < 97 → (P 0 g0)) ∧ (97 ≤ x1 → ((122 < x1 → (P 0 g0)) ∧ (x1 ≤ 122 → ((¬ g0.1 3 4 = 8 → (∀ g11 : GS, g11 = gI g0 3 4 ((g0.1 3 4) + 1) → (P 1 g11))) ∧ (g0.1 3 4 = 8 → (P 0 g0)))))))) ∧ (0 < g0.1 3 4 → (∀ g17 : GS, g17 = gI g0 3 7 2 → (P 1 g17)))))) : MXi mX7_takesInName [vr 3, vi x1] g0 P := by
  refine met_of_ex (by decide +kernel) (Nat.le_of_ble_eq_true rfl) ?_
  show EX mX7_takesInName 0 [some (vr 3), some (vi x1)] [] (hX g0) (0, 0) _
  refine ex_iload_n 1 dX7_takesInName_0 rfl rfl ?_
  refine ex_bipush 3 dX7_takesInName_1 rfl ⟨by decide, by decide⟩ ?_
  obtain ⟨o1, hyp⟩ := hyp
  obtain ⟨ht, hf⟩ := hyp
  refine ex_icmp_ne 20 6 dX7_takesInName_3 (by decide) rfl o1 ⟨by decide, by decide⟩ (fun c20 => ?_) (fun c20 => ?_)
  · have hyp := ht c20
    clear ht hf
    refine ex_iload_n 21 dX7_takesInName_20 rfl rfl ?_
    refine ex_bipush 23 dX7_takesInName_21 rfl ⟨by decide, by decide⟩ ?_
    obtain ⟨ht, hf⟩ := hyp
    refine ex_icmp_lt 41 26 dX7_takesInName_23 (by decide) rfl o1 ⟨by decide, by decide⟩ (fun c8 => ?_) (fun c8 => ?_)
    · have hyp := ht c8
      clear ht hf
      refine ex_iconst 42 dX7_takesInName_41 rfl ?_
      exact ex_iret dX7_takesInName_42 (Or.inr ⟨rfl, Or.inl rfl⟩) ⟨_, rfl, _, rfl, hyp⟩
    · have hyp := hf c8
      clear ht hf
      refine ex_iload_n 27 dX7_takesInName_26 rfl rfl ?_
      refine ex_bipush 29 dX7_takesInName_27 rfl ⟨by decide, by decide⟩ ?_
      obtain ⟨ht, hf⟩ := hyp
      refine ex_icmp_gt 41 32 dX7_takesInName_29 (by decide) rfl o1 ⟨by decide, by decide⟩ (fun c7 => ?_) (fun c7 => ?_)
      · have hyp := ht c7
        clear ht hf
        refine ex_iconst 42 dX7_takesInName_41 rfl ?_
        exact ex_iret dX7_takesInName_42 (Or.inr ⟨rfl, Or.inl rfl⟩) ⟨_, rfl, _, rfl, hyp⟩
      · have hyp := hf c7
        clear ht hf
        refine ex_aload_n 33 dX7_takesInName_32 rfl rfl ?_
        refine q_getI 7 4 36 dX7_takesInName_33 rfl fiX7_48 (Or.inl rfl) ⟨_, rfl⟩ ?_
        refine ex_bipush 38 dX7_takesInName_36 rfl ⟨by decide, by decide⟩ ?_
        obtain ⟨o2, hyp⟩ := hyp
        obtain ⟨ht, hf⟩ := hyp
        refine ex_icmp_ne 43 41 dX7_takesInName_38 (by decide) rfl o2 ⟨by decide, by decide⟩ (fun c6 => ?_) (fun c6 => ?_)
        · have hyp := ht c6
          clear ht hf
          refine ex_aload_n 44 dX7_takesInName_43 rfl rfl ?_
          refine ex_dup 45 dX7_takesInName_44 rfl rfl ?_
          refine q_getI 7 4 48 dX7_takesInName_45 rfl fiX7_48 (Or.inl rfl) ⟨_, rfl⟩ ?_
          refine ex_iconst 49 dX7_takesInName_48 rfl ?_
          refine ex_iadd 50 dX7_takesInName_49 rfl ?_
          refine q_putI 7 4 53 dX7_takesInName_50 rfl fiX7_48 ff7_4 rfl ⟨_, rfl⟩ (fun h1 e3 => ?_)
          obtain ⟨g4, eg5⟩ : ∃ z : GS, z = gI g0 3 4 ((g0.1 3 4) + 1) := ⟨_, rfl⟩
          have hyp := hyp g4 eg5
          obtain rfl : h1 = hX g4 := by rw [e3, eg5]; exact rfl
          clear e3
          refine ex_iconst 54 dX7_takesInName_53 rfl ?_
          exact ex_iret dX7_takesInName_54 (Or.inr ⟨rfl, Or.inr rfl⟩) ⟨_, rfl, _, rfl, hyp⟩
        · have hyp := hf c6
          clear ht hf
          refine ex_iconst 42 dX7_takesInName_41 rfl ?_
          exact ex_iret dX7_takesInName_42 (Or.inr ⟨rfl, Or.inl rfl⟩) ⟨_, rfl, _, rfl, hyp⟩
  · have hyp := hf c20
    clear ht hf
    refine ex_aload_n 7 dX7_takesInName_6 rfl rfl ?_
    refine q_getI 7 4 10 dX7_takesInName_7 rfl fiX7_48 (Or.inl rfl) ⟨_, rfl⟩ ?_
    obtain ⟨o9, hyp⟩ := hyp
    obtain ⟨ht, hf⟩ := hyp
    refine ex_if_le 20 13 dX7_takesInName_10 (by decide) rfl o9 (fun c19 => ?_) (fun c19 => ?_)
    · have hyp := ht c19
      clear ht hf
      refine ex_iload_n 21 dX7_takesInName_20 rfl rfl ?_
      refine ex_bipush 23 dX7_takesInName_21 rfl ⟨by decide, by decide⟩ ?_
      obtain ⟨ht, hf⟩ := hyp
      refine ex_icmp_lt 41 26 dX7_takesInName_23 (by decide) rfl o1 ⟨by decide, by decide⟩ (fun c15 => ?_) (fun c15 => ?_)
      · have hyp := ht c15
        clear ht hf
        refine ex_iconst 42 dX7_takesInName_41 rfl ?_
        exact ex_iret dX7_takesInName_42 (Or.inr ⟨rfl, Or.inl rfl⟩) ⟨_, rfl, _, rfl, hyp⟩
      · have hyp := hf c15
        clear ht hf
        refine ex_iload_n 27 dX7_takesInName_26 rfl rfl ?_
        refine ex_bipush 29 dX7_takesInName_27 rfl ⟨by decide, by decide⟩ ?_
        obtain ⟨ht, hf⟩ := hyp
        refine ex_icmp_gt 41 32 dX7_takesInName_29 (by decide) rfl o1 ⟨by decide, by decide⟩ (fun c14 => ?_) (fun c14 => ?_)
        · have hyp := ht c14
          clear ht hf
          refine ex_iconst 42 dX7_takesInName_41 rfl ?_
          exact ex_iret dX7_takesInName_42 (Or.inr ⟨rfl, Or.inl rfl⟩) ⟨_, rfl, _, rfl, hyp⟩
        · have hyp := hf c14
          clear ht hf
          refine ex_aload_n 33 dX7_takesInName_32 rfl rfl ?_
          refine q_getI 7 4 36 dX7_takesInName_33 rfl fiX7_48 (Or.inl rfl) ⟨_, rfl⟩ ?_
          refine ex_bipush 38 dX7_takesInName_36 rfl ⟨by decide, by decide⟩ ?_
          obtain ⟨ht, hf⟩ := hyp
          refine ex_icmp_ne 43 41 dX7_takesInName_38 (by decide) rfl o9 ⟨by decide, by decide⟩ (fun c13 => ?_) (fun c13 => ?_)
          · have hyp := ht c13
            clear ht hf
            refine ex_aload_n 44 dX7_takesInName_43 rfl rfl ?_
            refine ex_dup 45 dX7_takesInName_44 rfl rfl ?_
            refine q_getI 7 4 48 dX7_takesInName_45 rfl fiX7_48 (Or.inl rfl) ⟨_, rfl⟩ ?_
            refine ex_iconst 49 dX7_takesInName_48 rfl ?_
            refine ex_iadd 50 dX7_takesInName_49 rfl ?_
            refine q_putI 7 4 53 dX7_takesInName_50 rfl fiX7_48 ff7_4 rfl ⟨_, rfl⟩ (fun h1 e10 => ?_)
            obtain ⟨g11, eg12⟩ : ∃ z : GS, z = gI g0 3 4 ((g0.1 3 4) + 1) := ⟨_, rfl⟩
            have hyp := hyp g11 eg12
            obtain rfl : h1 = hX g11 := by rw [e10, eg12]; exact rfl
            clear e10
            refine ex_iconst 54 dX7_takesInName_53 rfl ?_
            exact ex_iret dX7_takesInName_54 (Or.inr ⟨rfl, Or.inr rfl⟩) ⟨_, rfl, _, rfl, hyp⟩
          · have hyp := hf c13
            clear ht hf
            refine ex_iconst 42 dX7_takesInName_41 rfl ?_
            exact ex_iret dX7_takesInName_42 (Or.inr ⟨rfl, Or.inl rfl⟩) ⟨_, rfl, _, rfl, hyp⟩
    · have hyp := hf c19
      clear ht hf
      refine ex_aload_n 14 dX7_takesInName_13 rfl rfl ?_
      refine ex_iconst 15 dX7_takesInName_14 rfl ?_
      refine q_putI 7 7 18 dX7_takesInName_15 rfl fiX7_25 ff7_7 rfl ⟨_, rfl⟩ (fun h1 e16 => ?_)
      obtain ⟨g17, eg18⟩ : ∃ z : GS, z = gI g0 3 7 2 := ⟨_, rfl⟩
      have hyp := hyp g17 eg18
      obtain rfl : h1 = hX g17 := by rw [e16, eg18]; exact rfl
      clear e16
      refine ex_iconst 19 dX7_takesInName_18 rfl ?_
      exact ex_iret dX7_takesInName_19 (Or.inr ⟨rfl, Or.inr rfl⟩) ⟨_, rfl, _, rfl, hyp⟩
set_option maxRecDepth 4000 in
theorem uX7_takesFigureOfYear {P : Int → GS → Prop} (g0 : GS) (x1 : Int) (hyp : rng (g0.1 3 9) ∧ (¬ g0.1 3 9 = 0 → ((¬ g0.1 3 9 = 1 → (XXi mX7_takesFigureOfYear 27 [some (vr 3), some (vi x1), none, none] [vi 48] g0 P)) ∧ (g0.1 3 9 = 1 → (XXi mX7_takesFigureOfYear 27 [some (vr 3), some (vi x1), none, none] [vi 54] g0 P)))) ∧ (g0.1 3 9 = 0 → (XXi mX7_takesFigureOfYear 27 [some (vr 3), some (vi x1), none, none] [vi 49] g0 P))) : MXi mX7_takesFigureOfYear [vr 3, vi x1] g0 P := by
  refine met_of_ex (by decide +kernel) (Nat.le_of_ble_eq_true rfl) ?_
  show EX mX7_takesFigureOfYear 0 [some (vr 3), some (vi x1), none, none] [] (hX g0) (0, 0) _
  refine ex_aload_n 1 dX7_takesFigureOfYear_0 rfl rfl ?_
  refine q_getI 7 9 4 dX7_takesFigureOfYear_1 rfl fiX7_57 (Or.inl rfl) ⟨_, rfl⟩ ?_
  obtain ⟨o1, hyp⟩ := hyp
  obtain ⟨ht, hf⟩ := hyp
  refine ex_if_ne 12 7 dX7_takesFigureOfYear_4 (by decide) rfl o1 (fun c3 => ?_) (fun c3 => ?_)
  · have hyp := ht c3
    clear ht hf
    refine ex_aload_n 13 dX7_takesFigureOfYear_12 rfl rfl ?_
    refine q_getI 7 9 16 dX7_takesFigureOfYear_13 rfl fiX7_57 (Or.inl rfl) ⟨_, rfl⟩ ?_
    refine ex_iconst 17 dX7_takesFigureOfYear_16 rfl ?_
    obtain ⟨ht, hf⟩ := hyp
    refine ex_icmp_ne 25 20 dX7_takesFigureOfYear_17 (by decide) rfl o1 ⟨by decide, by decide⟩ (fun c2 => ?_) (fun c2 => ?_)
    · have hyp := ht c2
      clear ht hf
      refine ex_bipush 27 dX7_takesFigureOfYear_25 rfl ⟨by decide, by decide⟩ ?_
      exact hyp
    · have hyp := hf c2
      clear ht hf
      refine ex_bipush 22 dX7_takesFigureOfYear_20 rfl ⟨by decide, by decide⟩ ?_
      refine ex_goto 27 dX7_takesFigureOfYear_22 (by decide) ?_
      exact hyp
  · have hyp := hf c3
    clear ht hf
    refine ex_bipush 9 dX7_takesFigureOfYear_7 rfl ⟨by decide, by decide⟩ ?_
    refine ex_goto 27 dX7_takesFigureOfYear_9 (by decide) ?_
    exact hyp
set_option maxRecDepth 4000 in
theorem uX7_takesFigureOfYear_27 {P : Int → GS → Prop} (g0 : GS) (x1 : Int) (xs0 : Int) (hyp : rng (g0.1 3 9) ∧ (¬ g0.1 3 9 = 0 → ((¬ g0.1 3 9 = 1 → (rng x1 ∧ rng xs0 ∧ (x1 < xs0 → (P 0 g0)) ∧ (xs0 ≤ x1 → ((x1 ≤ 57 → (∀ g5 : GS, g5 = gI g0 3 5 (((g0.1 3 5) * 10) + (x1 - 48)) → (∀ g8 : GS, g8 = gI g5 3 9 ((g5.1 3 9) + 1) → (rng (g8.1 3 9) ∧ (¬ g8.1 3 9 = 4 → (P 1 g8)) ∧ (g8.1 3 9 = 4 → (∀ g12 : GS, g12 = gI g8 3 7 3 → (P 1 g12))))))) ∧ (57 < x1 → (P 0 g0)))))) ∧ (g0.1 3 9 = 1 → (rng x1 ∧ rng xs0 ∧ (x1 < xs0 → (P 0 g0)) ∧ (xs0 ≤ x1 → ((x1 ≤ 56 → (∀ g20 : GS, g20 = gI g0 3 5 (((g0.1 3 5) * 10) + (x1 - 48)) → (∀ g23 : GS, g23 = gI g20 3 9 ((g20.1 3 9) + 1) → (rng (g23.1 3 9) ∧ (¬ g23.1 3 9 = 4 → (P 1 g23)) ∧ (g23.1 3 9 = 4 → (∀ g27 : GS, g27 = gI g23 3 7 3 → (P 1 g27))))))) ∧ (56 < x1 → (P 0 g0)))))))) ∧ (g0.1 3 9 = 0 → (rng x1 ∧ rng xs0 ∧ (x1 < xs0 → (P 0 g0)) ∧ (xs0 ≤ x1 → ((x1 ≤ 49 → (∀ g36 : GS, g36 = gI g0 3 5 (((g0.1 3 5) * 10) + (x1 - 48)) → (∀ g39 : GS, g39 = gI g36 3 9 ((g36.1 3 9) + 1) → (rng (g39.1 3 9) ∧ (¬ g39.1 3 9 = 4 → (P 1 g39)) ∧ (g39.1 3 9 = 4 → (∀ g43 : GS, g43 = gI g39 3 7 3 → (P 1 g43))))))) ∧ (49 < x1 → (P 0 g0))))))) : XXi mX7_takesFigureOfYear 27 [some (vr 3), some (vi x1), none, none] [vi xs0] g0 P := by
  refine q_istore_n [some (vr 3), some (vi x1), some (vi xs0), none] 28 dX7_takesFigureOfYear_27 rfl (Nat.le_of_ble_eq_true rfl) rfl rfl ?_
  refine ex_aload_n 29 dX7_takesFigureOfYear_28 rfl rfl ?_
  refine q_getI 7 9 32 dX7_takesFigureOfYear_29 rfl fiX7_57 (Or.inl rfl) ⟨_, rfl⟩ ?_
  obtain ⟨o1, hyp⟩ := hyp
  obtain ⟨ht, hf⟩ := hyp
  refine ex_if_ne 40 35 dX7_takesFigureOfYear_32 (by decide) rfl o1 (fun c48 => ?_) (fun c48 => ?_)
  · have hyp := ht c48
    clear ht hf
    refine ex_aload_n 41 dX7_takesFigureOfYear_40 rfl rfl ?_
    refine q_getI 7 9 44 dX7_takesFigureOfYear_41 rfl fiX7_57 (Or.inl rfl) ⟨_, rfl⟩ ?_
    refine ex_iconst 45 dX7_takesFigureOfYear_44 rfl ?_
    obtain ⟨ht, hf⟩ := hyp
    refine ex_icmp_ne 53 48 dX7_takesFigureOfYear_45 (by decide) rfl o1 ⟨by decide, by decide⟩ (fun c32 => ?_) (fun c32 => ?_)
    · have hyp := ht c32
      clear ht hf
      refine ex_bipush 55 dX7_takesFigureOfYear_53 rfl ⟨by decide, by decide⟩ ?_
      refine q_istore_n [some (vr 3), some (vi x1), some (vi xs0), some (vi 57)] 56 dX7_takesFigureOfYear_55 rfl (Nat.le_of_ble_eq_true rfl) rfl rfl ?_
      refine ex_iload_n 57 dX7_takesFigureOfYear_56 rfl rfl ?_
      refine ex_iload_n 58 dX7_takesFigureOfYear_57 rfl rfl ?_
      obtain ⟨o2, hyp⟩ := hyp
      obtain ⟨o3, hyp⟩ := hyp
      obtain ⟨ht, hf⟩ := hyp
      refine ex_icmp_lt 66 61 dX7_takesFigureOfYear_58 (by decide) rfl o2 o3 (fun c16 => ?_) (fun c16 => ?_)
      · have hyp := ht c16
        clear ht hf
        refine ex_iconst 67 dX7_takesFigureOfYear_66 rfl ?_
        exact ex_iret dX7_takesFigureOfYear_67 (Or.inr ⟨rfl, Or.inl rfl⟩) ⟨_, rfl, _, rfl, hyp⟩
      · have hyp := hf c16
        clear ht hf
        refine ex_iload_n 62 dX7_takesFigureOfYear_61 rfl rfl ?_
        refine ex_iload_n 63 dX7_takesFigureOfYear_62 rfl rfl ?_
        obtain ⟨ht, hf⟩ := hyp
        refine ex_icmp_le 68 66 dX7_takesFigureOfYear_63 (by decide) rfl o2 ⟨by decide, by decide⟩ (fun c15 => ?_) (fun c15 => ?_)
        · have hyp := ht c15
          clear ht hf
          refine ex_aload_n 69 dX7_takesFigureOfYear_68 rfl rfl ?_
          refine ex_aload_n 70 dX7_takesFigureOfYear_69 rfl rfl ?_
          refine q_getI 7 5 73 dX7_takesFigureOfYear_70 rfl fiX7_51 (Or.inl rfl) ⟨_, rfl⟩ ?_
          refine ex_bipush 75 dX7_takesFigureOfYear_73 rfl ⟨by decide, by decide⟩ ?_
          refine ex_imul 76 dX7_takesFigureOfYear_75 rfl ?_
          refine ex_iload_n 77 dX7_takesFigureOfYear_76 rfl rfl ?_
          refine ex_bipush 79 dX7_takesFigureOfYear_77 rfl ⟨by decide, by decide⟩ ?_
          refine ex_isub 80 dX7_takesFigureOfYear_79 rfl ?_
          refine ex_iadd 81 dX7_takesFigureOfYear_80 rfl ?_
          refine q_putI 7 5 84 dX7_takesFigureOfYear_81 rfl fiX7_51 ff7_5 rfl ⟨_, rfl⟩ (fun h1 e4 => ?_)
          obtain ⟨g5, eg6⟩ : ∃ z : GS, z = gI g0 3 5 (((g0.1 3 5) * 10) + (x1 - 48)) := ⟨_, rfl⟩
          have hyp := hyp g5 eg6
          obtain rfl : h1 = hX g5 := by rw [e4, eg6]; exact rfl
          clear e4
          refine ex_aload_n 85 dX7_takesFigureOfYear_84 rfl rfl ?_
          refine ex_dup 86 dX7_takesFigureOfYear_85 rfl rfl ?_
          refine q_getI 7 9 89 dX7_takesFigureOfYear_86 rfl fiX7_57 (Or.inl rfl) ⟨_, rfl⟩ ?_
          refine ex_iconst 90 dX7_takesFigureOfYear_89 rfl ?_
          refine ex_iadd 91 dX7_takesFigureOfYear_90 rfl ?_
          refine q_putI 7 9 94 dX7_takesFigureOfYear_91 rfl fiX7_57 ff7_9 rfl ⟨_, rfl⟩ (fun h1 e7 => ?_)
          obtain ⟨g8, eg9⟩ : ∃ z : GS, z = gI g5 3 9 ((g5.1 3 9) + 1) := ⟨_, rfl⟩
          have hyp := hyp g8 eg9
          obtain rfl : h1 = hX g8 := by rw [e7, eg9]; exact rfl
          clear e7
          refine ex_aload_n 95 dX7_takesFigureOfYear_94 rfl rfl ?_
          refine q_getI 7 9 98 dX7_takesFigureOfYear_95 rfl fiX7_57 (Or.inl rfl) ⟨_, rfl⟩ ?_
          refine ex_iconst 99 dX7_takesFigureOfYear_98 rfl ?_
          obtain ⟨o10, hyp⟩ := hyp
          obtain ⟨ht, hf⟩ := hyp
          refine ex_icmp_ne 107 102 dX7_takesFigureOfYear_99 (by decide) rfl o10 ⟨by decide, by decide⟩ (fun c14 => ?_) (fun c14 => ?_)
          · have hyp := ht c14
            clear ht hf
            refine ex_iconst 108 dX7_takesFigureOfYear_107 rfl ?_
            exact ex_iret dX7_takesFigureOfYear_108 (Or.inr ⟨rfl, Or.inr rfl⟩) ⟨_, rfl, _, rfl, hyp⟩
          · have hyp := hf c14
            clear ht hf
            refine ex_aload_n 103 dX7_takesFigureOfYear_102 rfl rfl ?_
            refine ex_iconst 104 dX7_takesFigureOfYear_103 rfl ?_
            refine q_putI 7 7 107 dX7_takesFigureOfYear_104 rfl fiX7_25 ff7_7 rfl ⟨_, rfl⟩ (fun h1 e11 => ?_)
            obtain ⟨g12, eg13⟩ : ∃ z : GS, z = gI g8 3 7 3 := ⟨_, rfl⟩
            have hyp := hyp g12 eg13
            obtain rfl : h1 = hX g12 := by rw [e11, eg13]; exact rfl
            clear e11
            refine ex_iconst 108 dX7_takesFigureOfYear_107 rfl ?_
            exact ex_iret dX7_takesFigureOfYear_108 (Or.inr ⟨rfl, Or.inr rfl⟩) ⟨_, rfl, _, rfl, hyp⟩
        · have hyp := hf c15
          clear ht hf
          refine ex_iconst 67 dX7_takesFigureOfYear_66 rfl ?_
          exact ex_iret dX7_takesFigureOfYear_67 (Or.inr ⟨rfl, Or.inl rfl⟩) ⟨_, rfl, _, rfl, hyp⟩
    · have hyp := hf c32
      clear ht hf
      refine ex_bipush 50 dX7_takesFigureOfYear_48 rfl ⟨by decide, by decide⟩ ?_
      refine ex_goto 55 dX7_takesFigureOfYear_50 (by decide) ?_
      refine q_istore_n [some (vr 3), some (vi x1), some (vi xs0), some (vi 56)] 56 dX7_takesFigureOfYear_55 rfl (Nat.le_of_ble_eq_true rfl) rfl rfl ?_
      refine ex_iload_n 57 dX7_takesFigureOfYear_56 rfl rfl ?_
      refine ex_iload_n 58 dX7_takesFigureOfYear_57 rfl rfl ?_
      obtain ⟨o17, hyp⟩ := hyp
      obtain ⟨o18, hyp⟩ := hyp
      obtain ⟨ht, hf⟩ := hyp
      refine ex_icmp_lt 66 61 dX7_takesFigureOfYear_58 (by decide) rfl o17 o18 (fun c31 => ?_) (fun c31 => ?_)
      · have hyp := ht c31
        clear ht hf
        refine ex_iconst 67 dX7_takesFigureOfYear_66 rfl ?_
        exact ex_iret dX7_takesFigureOfYear_67 (Or.inr ⟨rfl, Or.inl rfl⟩) ⟨_, rfl, _, rfl, hyp⟩
      · have hyp := hf c31
        clear ht hf
        refine ex_iload_n 62 dX7_takesFigureOfYear_61 rfl rfl ?_
        refine ex_iload_n 63 dX7_takesFigureOfYear_62 rfl rfl ?_
        obtain ⟨ht, hf⟩ := hyp
        refine ex_icmp_le 68 66 dX7_takesFigureOfYear_63 (by decide) rfl o17 ⟨by decide, by decide⟩ (fun c30 => ?_) (fun c30 => ?_)
        · have hyp := ht c30
          clear ht hf
          refine ex_aload_n 69 dX7_takesFigureOfYear_68 rfl rfl ?_
          refine ex_aload_n 70 dX7_takesFigureOfYear_69 rfl rfl ?_
          refine q_getI 7 5 73 dX7_takesFigureOfYear_70 rfl fiX7_51 (Or.inl rfl) ⟨_, rfl⟩ ?_
          refine ex_bipush 75 dX7_takesFigureOfYear_73 rfl ⟨by decide, by decide⟩ ?_
          refine ex_imul 76 dX7_takesFigureOfYear_75 rfl ?_
          refine ex_iload_n 77 dX7_takesFigureOfYear_76 rfl rfl ?_
          refine ex_bipush 79 dX7_takesFigureOfYear_77 rfl ⟨by decide, by decide⟩ ?_
          refine ex_isub 80 dX7_takesFigureOfYear_79 rfl ?_
          refine ex_iadd 81 dX7_takesFigureOfYear_80 rfl ?_
          refine q_putI 7 5 84 dX7_takesFigureOfYear_81 rfl fiX7_51 ff7_5 rfl ⟨_, rfl⟩ (fun h1 e19 => ?_)
          obtain ⟨g20, eg21⟩ : ∃ z : GS, z = gI g0 3 5 (((g0.1 3 5) * 10) + (x1 - 48)) := ⟨_, rfl⟩
          have hyp := hyp g20 eg21
          obtain rfl : h1 = hX g20 := by rw [e19, eg21]; exact rfl
          clear e19
          refine ex_aload_n 85 dX7_takesFigureOfYear_84 rfl rfl ?_
          refine ex_dup 86 dX7_takesFigureOfYear_85 rfl rfl ?_
          refine q_getI 7 9 89 dX7_takesFigureOfYear_86 rfl fiX7_57 (Or.inl rfl) ⟨_, rfl⟩ ?_
          refine ex_iconst 90 dX7_takesFigureOfYear_89 rfl ?_
          refine ex_iadd 91 dX7_takesFigureOfYear_90 rfl ?_
          refine q_putI 7 9 94 dX7_takesFigureOfYear_91 rfl fiX7_57 ff7_9 rfl ⟨_, rfl⟩ (fun h1 e22 => ?_)
          obtain ⟨g23, eg24⟩ : ∃ z : GS, z = gI g20 3 9 ((g20.1 3 9) + 1) := ⟨_, rfl⟩
          have hyp := hyp g23 eg24
          obtain rfl : h1 = hX g23 := by rw [e22, eg24]; exact rfl
          clear e22
          refine ex_aload_n 95 dX7_takesFigureOfYear_94 rfl rfl ?_
          refine q_getI 7 9 98 dX7_takesFigureOfYear_95 rfl fiX7_57 (Or.inl rfl) ⟨_, rfl⟩ ?_
          refine ex_iconst 99 dX7_takesFigureOfYear_98 rfl ?_
          obtain ⟨o25, hyp⟩ := hyp
          obtain ⟨ht, hf⟩ := hyp
          refine ex_icmp_ne 107 102 dX7_takesFigureOfYear_99 (by decide) rfl o25 ⟨by decide, by decide⟩ (fun c29 => ?_) (fun c29 => ?_)
          · have hyp := ht c29
            clear ht hf
            refine ex_iconst 108 dX7_takesFigureOfYear_107 rfl ?_
            exact ex_iret dX7_takesFigureOfYear_108 (Or.inr ⟨rfl, Or.inr rfl⟩) ⟨_, rfl, _, rfl, hyp⟩
          · have hyp := hf c29
            clear ht hf
            refine ex_aload_n 103 dX7_takesFigureOfYear_102 rfl rfl ?_
            refine ex_iconst 104 dX7_takesFigureOfYear_103 rfl ?_
            refine q_putI 7 7 107 dX7_takesFigureOfYear_104 rfl fiX7_25 ff7_7 rfl ⟨_, rfl⟩ (fun h1 e26 => ?_)
            obtain ⟨g27, eg28⟩ : ∃ z : GS, z = gI g23 3 7 3 := ⟨_, rfl⟩
            have hyp := hyp g27 eg28
            obtain rfl : h1 = hX g27 := by rw [e26, eg28]; exact rfl
            clear e26
            refine ex_iconst 108 dX7_takesFigureOfYear_107 rfl ?_
            exact ex_iret dX7_takesFigureOfYear_108 (Or.inr ⟨rfl, Or.inr rfl⟩) ⟨_, rfl, _, rfl, hyp⟩
        · have hyp := hf c30
          clear ht hf
          refine ex_iconst 67 dX7_takesFigureOfYear_66 rfl ?_
          exact ex_iret dX7_takesFigureOfYear_67 (Or.inr ⟨rfl, Or.inl rfl⟩) ⟨_, rfl, _, rfl, hyp⟩
  · have hyp := hf c48
    clear ht hf
    refine ex_bipush 37 dX7_takesFigureOfYear_35 rfl ⟨by decide, by decide⟩ ?_
    refine ex_goto 55 dX7_takesFigureOfYear_37 (by decide) ?_
    refine q_istore_n [some (vr 3), some (vi x1), some (vi xs0), some (vi 49)] 56 dX7_takesFigureOfYear_55 rfl (Nat.le_of_ble_eq_true rfl) rfl rfl ?_
    refine ex_iload_n 57 dX7_takesFigureOfYear_56 rfl rfl ?_
    refine ex_iload_n 58 dX7_takesFigureOfYear_57 rfl rfl ?_
    obtain ⟨o33, hyp⟩ := hyp
    obtain ⟨o34, hyp⟩ := hyp
    obtain ⟨ht, hf⟩ := hyp
    refine ex_icmp_lt 66 61 dX7_takesFigureOfYear_58 (by decide) rfl o33 o34 (fun c47 => ?_) (fun c47 => ?_)
    · have hyp := ht c47
      clear ht hf
      refine ex_iconst 67 dX7_takesFigureOfYear_66 rfl ?_
      exact ex_iret dX7_takesFigureOfYear_67 (Or.inr ⟨rfl, Or.inl rfl⟩) ⟨_, rfl, _, rfl, hyp⟩
    · have hyp := hf c47
      clear ht hf
      refine ex_iload_n 62 dX7_takesFigureOfYear_61 rfl rfl ?_
      refine ex_iload_n 63 dX7_takesFigureOfYear_62 rfl rfl ?_
      obtain ⟨ht, hf⟩ := hyp
      refine ex_icmp_le 68 66 dX7_takesFigureOfYear_63 (by decide) rfl o33 ⟨by decide, by decide⟩ (fun c46 => ?_) (fun c46 => ?_)
      · have hyp := ht c46
        clear ht hf
        refine ex_aload_n 69 dX7_takesFigureOfYear_68 rfl rfl ?_
        refine ex_aload_n 70 dX7_takesFigureOfYear_69 rfl rfl ?_
        refine q_getI 7 5 73 dX7_takesFigureOfYear_70 rfl fiX7_51 (Or.inl rfl) ⟨_, rfl⟩ ?_
        refine ex_bipush 75 dX7_takesFigureOfYear_73 rfl ⟨by decide, by decide⟩ ?_
        refine ex_imul 76 dX7_takesFigureOfYear_75 rfl ?_
        refine ex_iload_n 77 dX7_takesFigureOfYear_76 rfl rfl ?_
        refine ex_bipush 79 dX7_takesFigureOfYear_77 rfl ⟨by decide, by decide⟩ ?_
        refine ex_isub 80 dX7_takesFigureOfYear_79 rfl ?_
        refine ex_iadd 81 dX7_takesFigureOfYear_80 rfl ?_
        refine q_putI 7 5 84 dX7_takesFigureOfYear_81 rfl fiX7_51 ff7_5 rfl ⟨_, rfl⟩ (fun h1 e35 => ?_)
        obtain ⟨g36, eg37⟩ : ∃ z : GS, z = gI g0 3 5 (((g0.1 3 5) * 10) + (x1 - 48)) := ⟨_, rfl⟩
        have hyp := hyp g36 eg37
        obtain rfl : h1 = hX g36 := by rw [e35, eg37]; exact rfl
        clear e35
        refine ex_aload_n 85 dX7_takesFigureOfYear_84 rfl rfl ?_
        refine ex_dup 86 dX7_takesFigureOfYear_85 rfl rfl ?_
        refine q_getI 7 9 89 dX7_takesFigureOfYear_86 rfl fiX7_57 (Or.inl rfl) ⟨_, rfl⟩ ?_
        refine ex_iconst 90 dX7_takesFigureOfYear_89 rfl ?_
        refine ex_iadd 91 dX7_takesFigureOfYear_90 rfl ?_
        refine q_putI 7 9 94 dX7_takesFigureOfYear_91 rfl fiX7_57 ff7_9 rfl ⟨_, rfl⟩ (fun h1 e38 => ?_)
        obtain ⟨g39, eg40⟩ : ∃ z : GS, z = gI g36 3 9 ((g36.1 3 9) + 1) := ⟨_, rfl⟩
        have hyp := hyp g39 eg40
        obtain rfl : h1 = hX g39 := by rw [e38, eg40]; exact rfl
        clear e38
        refine ex_aload_n 95 dX7_takesFigureOfYear_94 rfl rfl ?_
        refine q_getI 7 9 98 dX7_takesFigureOfYear_95 rfl fiX7_57 (Or.inl rfl) ⟨_, rfl⟩ ?_
        refine ex_iconst 99 dX7_takesFigureOfYear_98 rfl ?_
        obtain ⟨o41, hyp⟩ := hyp
        obtain ⟨ht, hf⟩ := hyp
        refine ex_icmp_ne 107 102 dX7_takesFigureOfYear_99 (by decide) rfl o41 ⟨by decide, by decide⟩ (fun c45 => ?_) (fun c45 => ?_)
        · have hyp := ht c45
          clear ht hf
          refine ex_iconst 108 dX7_takesFigureOfYear_107 rfl ?_
          exact ex_iret dX7_takesFigureOfYear_108 (Or.inr ⟨rfl, Or.inr rfl⟩) ⟨_, rfl, _, rfl, hyp⟩
        · have hyp := hf c45
          clear ht hf
          refine ex_aload_n 103 dX7_takesFigureOfYear_102 rfl rfl ?_
          refine ex_iconst 104 dX7_takesFigureOfYear_103 rfl ?_
          refine q_putI 7 7 107 dX7_takesFigureOfYear_104 rfl fiX7_25 ff7_7 rfl ⟨_, rfl⟩ (fun h1 e42 => ?_)
          obtain ⟨g43, eg44⟩ : ∃ z : GS, z = gI g39 3 7 3 := ⟨_, rfl⟩
          have hyp := hyp g43 eg44
          obtain rfl : h1 = hX g43 := by rw [e42, eg44]; exact rfl
          clear e42
          refine ex_iconst 108 dX7_takesFigureOfYear_107 rfl ?_
          exact ex_iret dX7_takesFigureOfYear_108 (Or.inr ⟨rfl, Or.inr rfl⟩) ⟨_, rfl, _, rfl, hyp⟩
      · have hyp := hf c46
        clear ht hf
        refine ex_iconst 67 dX7_takesFigureOfYear_66 rfl ?_
        exact ex_iret dX7_takesFigureOfYear_67 (Or.inr ⟨rfl, Or.inl rfl⟩) ⟨_, rfl, _, rfl, hyp⟩
set_option maxRecDepth 4000 in
theorem uX7_takesBehindYear {P : Int → GS → Prop} (g0 : GS) (x1 : Int) (hyp : rng x1 ∧ (¬ x1 = 59 → ((¬ x1 = 46 → (P 0 g0)) ∧ (x1 = 46 → (rng (g0.1 3 2) ∧ (¬ g0.1 3 2 = 0 → (∀ g4 : GS, g4 = gI g0 3 6 0 → (∀ g7 : GS, g7 = gI g4 3 9 0 → (∀ g10 : GS, g10 = gI g7 3 7 4 → (P 1 g10))))) ∧ (g0.1 3 2 = 0 → (P 0 g0)))))) ∧ (x1 = 59 → (MXv mX7_startEntry [vr 3] g0 (fun g14 => P 1 g14)))) : MXi mX7_takesBehindYear [vr 3, vi x1] g0 P := by
  refine met_of_ex (by decide +kernel) (Nat.le_of_ble_eq_true rfl) ?_
  show EX mX7_takesBehindYear 0 [some (vr 3), some (vi x1)] [] (hX g0) (0, 0) _
  refine ex_iload_n 1 dX7_takesBehindYear_0 rfl rfl ?_
  refine ex_bipush 3 dX7_takesBehindYear_1 rfl ⟨by decide, by decide⟩ ?_
  obtain ⟨o1, hyp⟩ := hyp
  obtain ⟨ht, hf⟩ := hyp
  refine ex_icmp_ne 12 6 dX7_takesBehindYear_3 (by decide) rfl o1 ⟨by decide, by decide⟩ (fun c15 => ?_) (fun c15 => ?_)
  · have hyp := ht c15
    clear ht hf
    refine ex_iload_n 13 dX7_takesBehindYear_12 rfl rfl ?_
    refine ex_bipush 15 dX7_takesBehindYear_13 rfl ⟨by decide, by decide⟩ ?_
    obtain ⟨ht, hf⟩ := hyp
    refine ex_icmp_ne 25 18 dX7_takesBehindYear_15 (by decide) rfl o1 ⟨by decide, by decide⟩ (fun c13 => ?_) (fun c13 => ?_)
    · have hyp := ht c13
      clear ht hf
      refine ex_iconst 26 dX7_takesBehindYear_25 rfl ?_
      exact ex_iret dX7_takesBehindYear_26 (Or.inr ⟨rfl, Or.inl rfl⟩) ⟨_, rfl, _, rfl, hyp⟩
    · have hyp := hf c13
      clear ht hf
      refine ex_aload_n 19 dX7_takesBehindYear_18 rfl rfl ?_
      refine q_getI 7 2 22 dX7_takesBehindYear_19 rfl fiX7_60 (Or.inl rfl) ⟨_, rfl⟩ ?_
      obtain ⟨o2, hyp⟩ := hyp
      obtain ⟨ht, hf⟩ := hyp
      refine ex_if_ne 27 25 dX7_takesBehindYear_22 (by decide) rfl o2 (fun c12 => ?_) (fun c12 => ?_)
      · have hyp := ht c12
        clear ht hf
        refine ex_aload_n 28 dX7_takesBehindYear_27 rfl rfl ?_
        refine ex_iconst 29 dX7_takesBehindYear_28 rfl ?_
        refine q_putI 7 6 32 dX7_takesBehindYear_29 rfl fiX7_54 ff7_6 rfl ⟨_, rfl⟩ (fun h1 e3 => ?_)
        obtain ⟨g4, eg5⟩ : ∃ z : GS, z = gI g0 3 6 0 := ⟨_, rfl⟩
        have hyp := hyp g4 eg5
        obtain rfl : h1 = hX g4 := by rw [e3, eg5]; exact rfl
        clear e3
        refine ex_aload_n 33 dX7_takesBehindYear_32 rfl rfl ?_
        refine ex_iconst 34 dX7_takesBehindYear_33 rfl ?_
        refine q_putI 7 9 37 dX7_takesBehindYear_34 rfl fiX7_57 ff7_9 rfl ⟨_, rfl⟩ (fun h1 e6 => ?_)
        obtain ⟨g7, eg8⟩ : ∃ z : GS, z = gI g4 3 9 0 := ⟨_, rfl⟩
        have hyp := hyp g7 eg8
        obtain rfl : h1 = hX g7 := by rw [e6, eg8]; exact rfl
        clear e6
        refine ex_aload_n 38 dX7_takesBehindYear_37 rfl rfl ?_
        refine ex_iconst 39 dX7_takesBehindYear_38 rfl ?_
        refine q_putI 7 7 42 dX7_takesBehindYear_39 rfl fiX7_25 ff7_7 rfl ⟨_, rfl⟩ (fun h1 e9 => ?_)
        obtain ⟨g10, eg11⟩ : ∃ z : GS, z = gI g7 3 7 4 := ⟨_, rfl⟩
        have hyp := hyp g10 eg11
        obtain rfl : h1 = hX g10 := by rw [e9, eg11]; exact rfl
        clear e9
        refine ex_iconst 43 dX7_takesBehindYear_42 rfl ?_
        exact ex_iret dX7_takesBehindYear_43 (Or.inr ⟨rfl, Or.inr rfl⟩) ⟨_, rfl, _, rfl, hyp⟩
      · have hyp := hf c12
        clear ht hf
        refine ex_iconst 26 dX7_takesBehindYear_25 rfl ?_
        exact ex_iret dX7_takesBehindYear_26 (Or.inr ⟨rfl, Or.inl rfl⟩) ⟨_, rfl, _, rfl, hyp⟩
  · have hyp := hf c15
    clear ht hf
    refine ex_aload_n 7 dX7_takesBehindYear_6 rfl rfl ?_
    refine s_callVv [] 10 dX7_takesBehindYear_7 rfl cvX7_22 rfl rfl ⟨Nat.le_of_ble_eq_true rfl, Nat.le_of_ble_eq_true rfl⟩ (Nat.le_of_ble_eq_true rfl) ⟨_, rfl⟩ hyp (fun h1 hq => ?_)
    obtain ⟨g14, rfl, hyp⟩ := hq
    refine ex_iconst 11 dX7_takesBehindYear_10 rfl ?_
    exact ex_iret dX7_takesBehindYear_11 (Or.inr ⟨rfl, Or.inr rfl⟩) ⟨_, rfl, _, rfl, hyp⟩
set_option maxRecDepth 4000 in
theorem uX7_takesInAge {P : Int → GS → Prop} (g0 : GS) (x1 : Int) (hyp : rng x1 ∧ (¬ x1 = 59 → ((x1 < 48 → (P 0 g0)) ∧ (48 ≤ x1 → ((57 < x1 → (P 0 g0)) ∧ (x1 ≤ 57 → (MXi mX7_ageGoesOnWith [vr 3, vi (x1 - 48)] g0 (fun y3 g2 => rng y3 ∧ (¬ y3 = 0 → (∀ g6 : GS, g6 = gI g2 3 6 (((g2.1 3 6) * 10) + (x1 - 48)) → (∀ g9 : GS, g9 = gI g6 3 9 ((g6.1 3 9) + 1) → (P 1 g9)))) ∧ (y3 = 0 → (P 0 g2))))))))) ∧ (x1 = 59 → (MXi mX7_ageIsWhole [vr 3] g0 (fun y15 g14 => rng y15 ∧ (¬ y15 = 0 → (MXv mX7_startEntry [vr 3] g14 (fun g17 => P 1 g17))) ∧ (y15 = 0 → (P 0 g14)))))) : MXi mX7_takesInAge [vr 3, vi x1] g0 P := by
  refine met_of_ex (by decide +kernel) (Nat.le_of_ble_eq_true rfl) ?_
  show EX mX7_takesInAge 0 [some (vr 3), some (vi x1)] [] (hX g0) (0, 0) _
  refine ex_iload_n 1 dX7_takesInAge_0 rfl rfl ?_
  refine ex_bipush 3 dX7_takesInAge_1 rfl ⟨by decide, by decide⟩ ?_
  obtain ⟨o1, hyp⟩ := hyp
  obtain ⟨ht, hf⟩ := hyp
  refine ex_icmp_ne 21 6 dX7_takesInAge_3 (by decide) rfl o1 ⟨by decide, by decide⟩ (fun c19 => ?_) (fun c19 => ?_)
  · have hyp := ht c19
    clear ht hf
    refine ex_iload_n 22 dX7_takesInAge_21 rfl rfl ?_
    refine ex_bipush 24 dX7_takesInAge_22 rfl ⟨by decide, by decide⟩ ?_
    obtain ⟨ht, hf⟩ := hyp
    refine ex_icmp_lt 44 27 dX7_takesInAge_24 (by decide) rfl o1 ⟨by decide, by decide⟩ (fun c13 => ?_) (fun c13 => ?_)
    · have hyp := ht c13
      clear ht hf
      refine ex_iconst 45 dX7_takesInAge_44 rfl ?_
      exact ex_iret dX7_takesInAge_45 (Or.inr ⟨rfl, Or.inl rfl⟩) ⟨_, rfl, _, rfl, hyp⟩
    · have hyp := hf c13
      clear ht hf
      refine ex_iload_n 28 dX7_takesInAge_27 rfl rfl ?_
      refine ex_bipush 30 dX7_takesInAge_28 rfl ⟨by decide, by decide⟩ ?_
      obtain ⟨ht, hf⟩ := hyp
      refine ex_icmp_gt 44 33 dX7_takesInAge_30 (by decide) rfl o1 ⟨by decide, by decide⟩ (fun c12 => ?_) (fun c12 => ?_)
      · have hyp := ht c12
        clear ht hf
        refine ex_iconst 45 dX7_takesInAge_44 rfl ?_
        exact ex_iret dX7_takesInAge_45 (Or.inr ⟨rfl, Or.inl rfl⟩) ⟨_, rfl, _, rfl, hyp⟩
      · have hyp := hf c12
        clear ht hf
        refine ex_aload_n 34 dX7_takesInAge_33 rfl rfl ?_
        refine ex_iload_n 35 dX7_takesInAge_34 rfl rfl ?_
        refine ex_bipush 37 dX7_takesInAge_35 rfl ⟨by decide, by decide⟩ ?_
        refine ex_isub 38 dX7_takesInAge_37 rfl ?_
        refine s_callVi [vi (x1 - 48)] 41 dX7_takesInAge_38 rfl cvX7_66 rfl rfl ⟨Nat.le_of_ble_eq_true rfl, Nat.le_of_ble_eq_true rfl⟩ (Nat.le_of_ble_eq_true rfl) ⟨_, rfl⟩ hyp (fun y3 h1 hq => ?_)
        obtain ⟨g2, rfl, hyp⟩ := hq
        obtain ⟨o4, hyp⟩ := hyp
        obtain ⟨ht, hf⟩ := hyp
        refine ex_if_ne 46 44 dX7_takesInAge_41 (by decide) rfl o4 (fun c11 => ?_) (fun c11 => ?_)
        · have hyp := ht c11
          clear ht hf
          refine ex_aload_n 47 dX7_takesInAge_46 rfl rfl ?_
          refine ex_aload_n 48 dX7_takesInAge_47 rfl rfl ?_
          refine q_getI 7 6 51 dX7_takesInAge_48 rfl fiX7_54 (Or.inl rfl) ⟨_, rfl⟩ ?_
          refine ex_bipush 53 dX7_takesInAge_51 rfl ⟨by decide, by decide⟩ ?_
          refine ex_imul 54 dX7_takesInAge_53 rfl ?_
          refine ex_iload_n 55 dX7_takesInAge_54 rfl rfl ?_
          refine ex_bipush 57 dX7_takesInAge_55 rfl ⟨by decide, by decide⟩ ?_
          refine ex_isub 58 dX7_takesInAge_57 rfl ?_
          refine ex_iadd 59 dX7_takesInAge_58 rfl ?_
          refine q_putI 7 6 62 dX7_takesInAge_59 rfl fiX7_54 ff7_6 rfl ⟨_, rfl⟩ (fun h1 e5 => ?_)
          obtain ⟨g6, eg7⟩ : ∃ z : GS, z = gI g2 3 6 (((g2.1 3 6) * 10) + (x1 - 48)) := ⟨_, rfl⟩
          have hyp := hyp g6 eg7
          obtain rfl : h1 = hX g6 := by rw [e5, eg7]; exact rfl
          clear e5
          refine ex_aload_n 63 dX7_takesInAge_62 rfl rfl ?_
          refine ex_dup 64 dX7_takesInAge_63 rfl rfl ?_
          refine q_getI 7 9 67 dX7_takesInAge_64 rfl fiX7_57 (Or.inl rfl) ⟨_, rfl⟩ ?_
          refine ex_iconst 68 dX7_takesInAge_67 rfl ?_
          refine ex_iadd 69 dX7_takesInAge_68 rfl ?_
          refine q_putI 7 9 72 dX7_takesInAge_69 rfl fiX7_57 ff7_9 rfl ⟨_, rfl⟩ (fun h1 e8 => ?_)
          obtain ⟨g9, eg10⟩ : ∃ z : GS, z = gI g6 3 9 ((g6.1 3 9) + 1) := ⟨_, rfl⟩
          have hyp := hyp g9 eg10
          obtain rfl : h1 = hX g9 := by rw [e8, eg10]; exact rfl
          clear e8
          refine ex_iconst 73 dX7_takesInAge_72 rfl ?_
          exact ex_iret dX7_takesInAge_73 (Or.inr ⟨rfl, Or.inr rfl⟩) ⟨_, rfl, _, rfl, hyp⟩
        · have hyp := hf c11
          clear ht hf
          refine ex_iconst 45 dX7_takesInAge_44 rfl ?_
          exact ex_iret dX7_takesInAge_45 (Or.inr ⟨rfl, Or.inl rfl⟩) ⟨_, rfl, _, rfl, hyp⟩
  · have hyp := hf c19
    clear ht hf
    refine ex_aload_n 7 dX7_takesInAge_6 rfl rfl ?_
    refine s_callVi [] 10 dX7_takesInAge_7 rfl cvX7_44 rfl rfl ⟨Nat.le_of_ble_eq_true rfl, Nat.le_of_ble_eq_true rfl⟩ (Nat.le_of_ble_eq_true rfl) ⟨_, rfl⟩ hyp (fun y15 h1 hq => ?_)
    obtain ⟨g14, rfl, hyp⟩ := hq
    obtain ⟨o16, hyp⟩ := hyp
    obtain ⟨ht, hf⟩ := hyp
    refine ex_if_ne 15 13 dX7_takesInAge_10 (by decide) rfl o16 (fun c18 => ?_) (fun c18 => ?_)
    · have hyp := ht c18
      clear ht hf
      refine ex_aload_n 16 dX7_takesInAge_15 rfl rfl ?_
      refine s_callVv [] 19 dX7_takesInAge_16 rfl cvX7_22 rfl rfl ⟨Nat.le_of_ble_eq_true rfl, Nat.le_of_ble_eq_true rfl⟩ (Nat.le_of_ble_eq_true rfl) ⟨_, rfl⟩ hyp (fun h1 hq => ?_)
      obtain ⟨g17, rfl, hyp⟩ := hq
      refine ex_iconst 20 dX7_takesInAge_19 rfl ?_
      exact ex_iret dX7_takesInAge_20 (Or.inr ⟨rfl, Or.inr rfl⟩) ⟨_, rfl, _, rfl, hyp⟩
    · have hyp := hf c18
      clear ht hf
      refine ex_iconst 14 dX7_takesInAge_13 rfl ?_
      exact ex_iret dX7_takesInAge_14 (Or.inr ⟨rfl, Or.inl rfl⟩) ⟨_, rfl, _, rfl, hyp⟩
set_option maxRecDepth 4000 in
theorem uX7_ageGoesOnWith {P : Int → GS → Prop} (g0 : GS) (x1 : Int) (hyp : rng (g0.1 3 9) ∧ (¬ g0.1 3 9 = 0 → ((¬ g0.1 3 9 = 1 → (P 0 g0)) ∧ (g0.1 3 9 = 1 → (rng (g0.1 3 6) ∧ (g0.1 3 6 ≤ 0 → (P 0 g0)) ∧ (0 < g0.1 3 6 → (MXi mX9_mayHaveAge [vi (g0.1 3 2), vi (((g0.1 3 6) * 10) + x1)] g0 (fun y4 g3 => rng y4 ∧ (y4 = 0 → (P 0 g3)) ∧ (¬ y4 = 0 → (P 1 g3))))))))) ∧ (g0.1 3 9 = 0 → (rng x1 ∧ (0 < x1 → (P 1 g0)) ∧ (x1 ≤ 0 → (MXi mX9_leastAge [vi (g0.1 3 2)] g0 (fun y11 g10 => rng y11 ∧ (¬ y11 = 0 → (P 0 g10)) ∧ (y11 = 0 → (P 1 g10)))))))) : MXi mX7_ageGoesOnWith [vr 3, vi x1] g0 P := by
  refine met_of_ex (by decide +kernel) (Nat.le_of_ble_eq_true rfl) ?_
  show EX mX7_ageGoesOnWith 0 [some (vr 3), some (vi x1)] [] (hX g0) (0, 0) _
  refine ex_aload_n 1 dX7_ageGoesOnWith_0 rfl rfl ?_
  refine q_getI 7 9 4 dX7_ageGoesOnWith_1 rfl fiX7_57 (Or.inl rfl) ⟨_, rfl⟩ ?_
  obtain ⟨o1, hyp⟩ := hyp
  obtain ⟨ht, hf⟩ := hyp
  refine ex_if_ne 27 7 dX7_ageGoesOnWith_4 (by decide) rfl o1 (fun c15 => ?_) (fun c15 => ?_)
  · have hyp := ht c15
    clear ht hf
    refine ex_aload_n 28 dX7_ageGoesOnWith_27 rfl rfl ?_
    refine q_getI 7 9 31 dX7_ageGoesOnWith_28 rfl fiX7_57 (Or.inl rfl) ⟨_, rfl⟩ ?_
    refine ex_iconst 32 dX7_ageGoesOnWith_31 rfl ?_
    obtain ⟨ht, hf⟩ := hyp
    refine ex_icmp_ne 65 35 dX7_ageGoesOnWith_32 (by decide) rfl o1 ⟨by decide, by decide⟩ (fun c8 => ?_) (fun c8 => ?_)
    · have hyp := ht c8
      clear ht hf
      refine ex_iconst 66 dX7_ageGoesOnWith_65 rfl ?_
      exact ex_iret dX7_ageGoesOnWith_66 (Or.inr ⟨rfl, Or.inl rfl⟩) ⟨_, rfl, _, rfl, hyp⟩
    · have hyp := hf c8
      clear ht hf
      refine ex_aload_n 36 dX7_ageGoesOnWith_35 rfl rfl ?_
      refine q_getI 7 6 39 dX7_ageGoesOnWith_36 rfl fiX7_54 (Or.inl rfl) ⟨_, rfl⟩ ?_
      obtain ⟨o2, hyp⟩ := hyp
      obtain ⟨ht, hf⟩ := hyp
      refine ex_if_le 65 42 dX7_ageGoesOnWith_39 (by decide) rfl o2 (fun c7 => ?_) (fun c7 => ?_)
      · have hyp := ht c7
        clear ht hf
        refine ex_iconst 66 dX7_ageGoesOnWith_65 rfl ?_
        exact ex_iret dX7_ageGoesOnWith_66 (Or.inr ⟨rfl, Or.inl rfl⟩) ⟨_, rfl, _, rfl, hyp⟩
      · have hyp := hf c7
        clear ht hf
        refine ex_aload_n 43 dX7_ageGoesOnWith_42 rfl rfl ?_
        refine q_getI 7 2 46 dX7_ageGoesOnWith_43 rfl fiX7_60 (Or.inl rfl) ⟨_, rfl⟩ ?_
        refine ex_aload_n 47 dX7_ageGoesOnWith_46 rfl rfl ?_
        refine q_getI 7 6 50 dX7_ageGoesOnWith_47 rfl fiX7_54 (Or.inl rfl) ⟨_, rfl⟩ ?_
        refine ex_bipush 52 dX7_ageGoesOnWith_50 rfl ⟨by decide, by decide⟩ ?_
        refine ex_imul 53 dX7_ageGoesOnWith_52 rfl ?_
        refine ex_iload_n 54 dX7_ageGoesOnWith_53 rfl rfl ?_
        refine ex_iadd 55 dX7_ageGoesOnWith_54 rfl ?_
        refine s_callNi [vi (g0.1 3 2), vi (((g0.1 3 6) * 10) + x1)] 58 dX7_ageGoesOnWith_55 rfl cvX7_73 rfl rfl ⟨Nat.le_of_ble_eq_true rfl, Nat.le_of_ble_eq_true rfl⟩ (Nat.le_of_ble_eq_true rfl) hyp (fun y4 h1 hq => ?_)
        obtain ⟨g3, rfl, hyp⟩ := hq
        obtain ⟨o5, hyp⟩ := hyp
        obtain ⟨ht, hf⟩ := hyp
        refine ex_if_eq 65 61 dX7_ageGoesOnWith_58 (by decide) rfl o5 (fun c6 => ?_) (fun c6 => ?_)
        · have hyp := ht c6
          clear ht hf
          refine ex_iconst 66 dX7_ageGoesOnWith_65 rfl ?_
          exact ex_iret dX7_ageGoesOnWith_66 (Or.inr ⟨rfl, Or.inl rfl⟩) ⟨_, rfl, _, rfl, hyp⟩
        · have hyp := hf c6
          clear ht hf
          refine ex_iconst 62 dX7_ageGoesOnWith_61 rfl ?_
          refine ex_goto 66 dX7_ageGoesOnWith_62 (by decide) ?_
          exact ex_iret dX7_ageGoesOnWith_66 (Or.inr ⟨rfl, Or.inr rfl⟩) ⟨_, rfl, _, rfl, hyp⟩
  · have hyp := hf c15
    clear ht hf
    refine ex_iload_n 8 dX7_ageGoesOnWith_7 rfl rfl ?_
    obtain ⟨o9, hyp⟩ := hyp
    obtain ⟨ht, hf⟩ := hyp
    refine ex_if_gt 21 11 dX7_ageGoesOnWith_8 (by decide) rfl o9 (fun c14 => ?_) (fun c14 => ?_)
    · have hyp := ht c14
      clear ht hf
      refine ex_iconst 22 dX7_ageGoesOnWith_21 rfl ?_
      refine ex_goto 26 dX7_ageGoesOnWith_22 (by decide) ?_
      exact ex_iret dX7_ageGoesOnWith_26 (Or.inr ⟨rfl, Or.inr rfl⟩) ⟨_, rfl, _, rfl, hyp⟩
    · have hyp := hf c14
      clear ht hf
      refine ex_aload_n 12 dX7_ageGoesOnWith_11 rfl rfl ?_
      refine q_getI 7 2 15 dX7_ageGoesOnWith_12 rfl fiX7_60 (Or.inl rfl) ⟨_, rfl⟩ ?_
      refine s_callNi [vi (g0.1 3 2)] 18 dX7_ageGoesOnWith_15 rfl cvX7_69 rfl rfl ⟨Nat.le_of_ble_eq_true rfl, Nat.le_of_ble_eq_true rfl⟩ (Nat.le_of_ble_eq_true rfl) hyp (fun y11 h1 hq => ?_)
      obtain ⟨g10, rfl, hyp⟩ := hq
      obtain ⟨o12, hyp⟩ := hyp
      obtain ⟨ht, hf⟩ := hyp
      refine ex_if_ne 25 21 dX7_ageGoesOnWith_18 (by decide) rfl o12 (fun c13 => ?_) (fun c13 => ?_)
      · have hyp := ht c13
        clear ht hf
        refine ex_iconst 26 dX7_ageGoesOnWith_25 rfl ?_
        exact ex_iret dX7_ageGoesOnWith_26 (Or.inr ⟨rfl, Or.inl rfl⟩) ⟨_, rfl, _, rfl, hyp⟩
      · have hyp := hf c13
        clear ht hf
        refine ex_iconst 22 dX7_ageGoesOnWith_21 rfl ?_
        refine ex_goto 26 dX7_ageGoesOnWith_22 (by decide) ?_
        exact ex_iret dX7_ageGoesOnWith_26 (Or.inr ⟨rfl, Or.inr rfl⟩) ⟨_, rfl, _, rfl, hyp⟩
set_option maxRecDepth 4000 in
theorem uX7_ageIsWhole {P : Int → GS → Prop} (g0 : GS)  (hyp : rng (g0.1 3 9) ∧ (g0.1 3 9 ≤ 0 → (P 0 g0)) ∧ (0 < g0.1 3 9 → (MXi mX9_mayHaveAge [vi (g0.1 3 2), vi (g0.1 3 6)] g0 (fun y3 g2 => rng y3 ∧ (y3 = 0 → (P 0 g2)) ∧ (¬ y3 = 0 → (P 1 g2)))))) : MXi mX7_ageIsWhole [vr 3] g0 P := by
  refine met_of_ex (by decide +kernel) (Nat.le_of_ble_eq_true rfl) ?_
  show EX mX7_ageIsWhole 0 [some (vr 3)] [] (hX g0) (0, 0) _
  refine ex_aload_n 1 dX7_ageIsWhole_0 rfl rfl ?_
  refine q_getI 7 9 4 dX7_ageIsWhole_1 rfl fiX7_57 (Or.inl rfl) ⟨_, rfl⟩ ?_
  obtain ⟨o1, hyp⟩ := hyp
  obtain ⟨ht, hf⟩ := hyp
  refine ex_if_le 25 7 dX7_ageIsWhole_4 (by decide) rfl o1 (fun c6 => ?_) (fun c6 => ?_)
  · have hyp := ht c6
    clear ht hf
    refine ex_iconst 26 dX7_ageIsWhole_25 rfl ?_
    exact ex_iret dX7_ageIsWhole_26 (Or.inr ⟨rfl, Or.inl rfl⟩) ⟨_, rfl, _, rfl, hyp⟩
  · have hyp := hf c6
    clear ht hf
    refine ex_aload_n 8 dX7_ageIsWhole_7 rfl rfl ?_
    refine q_getI 7 2 11 dX7_ageIsWhole_8 rfl fiX7_60 (Or.inl rfl) ⟨_, rfl⟩ ?_
    refine ex_aload_n 12 dX7_ageIsWhole_11 rfl rfl ?_
    refine q_getI 7 6 15 dX7_ageIsWhole_12 rfl fiX7_54 (Or.inl rfl) ⟨_, rfl⟩ ?_
    refine s_callNi [vi (g0.1 3 2), vi (g0.1 3 6)] 18 dX7_ageIsWhole_15 rfl cvX7_73 rfl rfl ⟨Nat.le_of_ble_eq_true rfl, Nat.le_of_ble_eq_true rfl⟩ (Nat.le_of_ble_eq_true rfl) hyp (fun y3 h1 hq => ?_)
    obtain ⟨g2, rfl, hyp⟩ := hq
    obtain ⟨o4, hyp⟩ := hyp
    obtain ⟨ht, hf⟩ := hyp
    refine ex_if_eq 25 21 dX7_ageIsWhole_18 (by decide) rfl o4 (fun c5 => ?_) (fun c5 => ?_)
    · have hyp := ht c5
      clear ht hf
      refine ex_iconst 26 dX7_ageIsWhole_25 rfl ?_
      exact ex_iret dX7_ageIsWhole_26 (Or.inr ⟨rfl, Or.inl rfl⟩) ⟨_, rfl, _, rfl, hyp⟩
    · have hyp := hf c5
      clear ht hf
      refine ex_iconst 22 dX7_ageIsWhole_21 rfl ?_
      refine ex_goto 26 dX7_ageIsWhole_22 (by decide) ?_
      exact ex_iret dX7_ageIsWhole_26 (Or.inr ⟨rfl, Or.inr rfl⟩) ⟨_, rfl, _, rfl, hyp⟩
set_option maxRecDepth 4000 in
theorem uX8_has {P : Int → GS → Prop} (g0 : GS) (x1 : Int) (hyp : rng x1 ∧ (x1 < 0 → (P 0 g0)) ∧ (0 ≤ x1 → (rng (g0.1 8 2) ∧ (g0.1 8 2 ≤ x1 → (P 0 g0)) ∧ (x1 < g0.1 8 2 → (P 1 g0))))) : MXi mX8_has [vr 8, vi x1] g0 P := by
  refine met_of_ex (by decide +kernel) (Nat.le_of_ble_eq_true rfl) ?_
  show EX mX8_has 0 [some (vr 8), some (vi x1)] [] (hX g0) (0, 0) _
  refine ex_iload_n 1 dX8_has_0 rfl rfl ?_
  obtain ⟨o1, hyp⟩ := hyp
  obtain ⟨ht, hf⟩ := hyp
  refine ex_if_lt 16 4 dX8_has_1 (by decide) rfl o1 (fun c4 => ?_) (fun c4 => ?_)
  · have hyp := ht c4
    clear ht hf
    refine ex_iconst 17 dX8_has_16 rfl ?_
    exact ex_iret dX8_has_17 (Or.inr ⟨rfl, Or.inl rfl⟩) ⟨_, rfl, _, rfl, hyp⟩
  · have hyp := hf c4
    clear ht hf
    refine ex_iload_n 5 dX8_has_4 rfl rfl ?_
    refine ex_aload_n 6 dX8_has_5 rfl rfl ?_
    refine q_getI 8 2 9 dX8_has_6 rfl fiX8_24 (Or.inl rfl) ⟨_, rfl⟩ ?_
    obtain ⟨o2, hyp⟩ := hyp
    obtain ⟨ht, hf⟩ := hyp
    refine ex_icmp_ge 16 12 dX8_has_9 (by decide) rfl o1 o2 (fun c3 => ?_) (fun c3 => ?_)
    · have hyp := ht c3
      clear ht hf
      refine ex_iconst 17 dX8_has_16 rfl ?_
      exact ex_iret dX8_has_17 (Or.inr ⟨rfl, Or.inl rfl⟩) ⟨_, rfl, _, rfl, hyp⟩
    · have hyp := hf c3
      clear ht hf
      refine ex_iconst 13 dX8_has_12 rfl ?_
      refine ex_goto 17 dX8_has_13 (by decide) ?_
      exact ex_iret dX8_has_17 (Or.inr ⟨rfl, Or.inr rfl⟩) ⟨_, rfl, _, rfl, hyp⟩
set_option maxRecDepth 4000 in
theorem uX8_hasRoomFor {P : Int → GS → Prop} (g0 : GS)  (hyp : rng ((g0.1 8 2) + (g0.1 3 1)) ∧ (18 < (g0.1 8 2) + (g0.1 3 1) → (XXi mX8_hasRoomFor 22 [some (vr 8), some (vr 3), some (vi 0), some (vi 0)] [] g0 P)) ∧ ((g0.1 8 2) + (g0.1 3 1) ≤ 18 → (XXi mX8_hasRoomFor 22 [some (vr 8), some (vr 3), some (vi 1), some (vi 0)] [] g0 P))) : MXi mX8_hasRoomFor [vr 8, vr 3] g0 P := by
  refine met_of_ex (by decide +kernel) (Nat.le_of_ble_eq_true rfl) ?_
  show EX mX8_hasRoomFor 0 [some (vr 8), some (vr 3), none, none] [] (hX g0) (0, 0) _
  refine ex_aload_n 1 dX8_hasRoomFor_0 rfl rfl ?_
  refine q_getI 8 2 4 dX8_hasRoomFor_1 rfl fiX8_24 (Or.inl rfl) ⟨_, rfl⟩ ?_
  refine ex_aload_n 5 dX8_hasRoomFor_4 rfl rfl ?_
  refine q_getI 7 1 8 dX8_hasRoomFor_5 rfl fiX8_28 (Or.inl rfl) ⟨_, rfl⟩ ?_
  refine ex_iadd 9 dX8_hasRoomFor_8 rfl ?_
  refine ex_bipush 11 dX8_hasRoomFor_9 rfl ⟨by decide, by decide⟩ ?_
  obtain ⟨o1, hyp⟩ := hyp
  obtain ⟨ht, hf⟩ := hyp
  refine ex_icmp_gt 18 14 dX8_hasRoomFor_11 (by decide) rfl o1 ⟨by decide, by decide⟩ (fun c2 => ?_) (fun c2 => ?_)
  · have hyp := ht c2
    clear ht hf
    refine ex_iconst 19 dX8_hasRoomFor_18 rfl ?_
    refine q_istore_n [some (vr 8), some (vr 3), some (vi 0), none] 20 dX8_hasRoomFor_19 rfl (Nat.le_of_ble_eq_true rfl) rfl rfl ?_
    refine ex_iconst 21 dX8_hasRoomFor_20 rfl ?_
    refine q_istore_n [some (vr 8), some (vr 3), some (vi 0), some (vi 0)] 22 dX8_hasRoomFor_21 rfl (Nat.le_of_ble_eq_true rfl) rfl rfl ?_
    exact hyp
  · have hyp := hf c2
    clear ht hf
    refine ex_iconst 15 dX8_hasRoomFor_14 rfl ?_
    refine ex_goto 19 dX8_hasRoomFor_15 (by decide) ?_
    refine q_istore_n [some (vr 8), some (vr 3), some (vi 1), none] 20 dX8_hasRoomFor_19 rfl (Nat.le_of_ble_eq_true rfl) rfl rfl ?_
    refine ex_iconst 21 dX8_hasRoomFor_20 rfl ?_
    refine q_istore_n [some (vr 8), some (vr 3), some (vi 1), some (vi 0)] 22 dX8_hasRoomFor_21 rfl (Nat.le_of_ble_eq_true rfl) rfl rfl ?_
    exact hyp
set_option maxRecDepth 4000 in
theorem uX8_hasRoomFor_22 {P : Int → GS → Prop} (g0 : GS) (x2 : Int) (x3 : Int) (hyp : rng x3 ∧ (3 ≤ x3 → ((x2 = 0 ∨ x2 = 1) ∧ P x2 g0)) ∧ (x3 < 3 → (rng x2 ∧ (x2 = 0 → (XXi mX8_hasRoomFor 22 [some (vr 8), some (vr 3), some (vi 0), some (vi (x3 + 1))] [] g0 P)) ∧ (¬ x2 = 0 → (0 ≤ x3 ∧ x3 < 3 ∧ rng ((g0.1 10 (x3).toNat) + (g0.1 4 (x3).toNat)) ∧ (7 < (g0.1 10 (x3).toNat) + (g0.1 4 (x3).toNat) → (XXi mX8_hasRoomFor 22 [some (vr 8), some (vr 3), some (vi 0), some (vi (x3 + 1))] [] g0 P)) ∧ ((g0.1 10 (x3).toNat) + (g0.1 4 (x3).toNat) ≤ 7 → (XXi mX8_hasRoomFor 22 [some (vr 8), some (vr 3), some (vi 1), some (vi (x3 + 1))] [] g0 P))))))) : XXi mX8_hasRoomFor 22 [some (vr 8), some (vr 3), some (vi x2), some (vi x3)] [] g0 P := by
  refine ex_iload_n 23 dX8_hasRoomFor_22 rfl rfl ?_
  refine ex_iconst 24 dX8_hasRoomFor_23 rfl ?_
  obtain ⟨o1, hyp⟩ := hyp
  obtain ⟨ht, hf⟩ := hyp
  refine ex_icmp_ge 61 27 dX8_hasRoomFor_24 (by decide) rfl o1 ⟨by decide, by decide⟩ (fun c8 => ?_) (fun c8 => ?_)
  · have hyp := ht c8
    clear ht hf
    refine ex_iload_n 62 dX8_hasRoomFor_61 rfl rfl ?_
    exact ex_iret dX8_hasRoomFor_62 (Or.inr ⟨rfl, hyp.1⟩) ⟨_, rfl, _, rfl, hyp.2⟩
  · have hyp := hf c8
    clear ht hf
    refine ex_iload_n 28 dX8_hasRoomFor_27 rfl rfl ?_
    obtain ⟨o2, hyp⟩ := hyp
    obtain ⟨ht, hf⟩ := hyp
    refine ex_if_eq 53 31 dX8_hasRoomFor_28 (by decide) rfl o2 (fun c7 => ?_) (fun c7 => ?_)
    · have hyp := ht c7
      clear ht hf
      refine ex_iconst 54 dX8_hasRoomFor_53 rfl ?_
      refine q_istore_n [some (vr 8), some (vr 3), some (vi 0), some (vi x3)] 55 dX8_hasRoomFor_54 rfl (Nat.le_of_ble_eq_true rfl) rfl rfl ?_
      refine q_iinc [some (vr 8), some (vr 3), some (vi 0), some (vi (x3 + 1))] 58 dX8_hasRoomFor_55 rfl rfl (Nat.le_of_ble_eq_true rfl) rfl rfl ?_
      refine ex_goto 22 dX8_hasRoomFor_58 (by decide) ?_
      exact hyp
    · have hyp := hf c7
      clear ht hf
      refine ex_aload_n 32 dX8_hasRoomFor_31 rfl rfl ?_
      refine q_getR (a := 10) 8 1 35 dX8_hasRoomFor_32 rfl fiX8_17 rfl ⟨_, rfl⟩ rfl ?_
      refine ex_iload_n 36 dX8_hasRoomFor_35 rfl rfl ?_
      obtain ⟨o3, hyp⟩ := hyp
      obtain ⟨o4, hyp⟩ := hyp
      refine ex_iald 37 dX8_hasRoomFor_36 rfl (ai_of (n := 3) rfl o3 o4 (by decide)) ?_
      refine ex_aload_n 38 dX8_hasRoomFor_37 rfl rfl ?_
      refine q_getR (a := 4) 7 0 41 dX8_hasRoomFor_38 rfl fiX8_33 rfl ⟨_, rfl⟩ rfl ?_
      refine ex_iload_n 42 dX8_hasRoomFor_41 rfl rfl ?_
      refine ex_iald 43 dX8_hasRoomFor_42 rfl (ai_of (n := 3) rfl o3 o4 (by decide)) ?_
      refine ex_iadd 44 dX8_hasRoomFor_43 rfl ?_
      refine ex_bipush 46 dX8_hasRoomFor_44 rfl ⟨by decide, by decide⟩ ?_
      obtain ⟨o5, hyp⟩ := hyp
      obtain ⟨ht, hf⟩ := hyp
      refine ex_icmp_gt 53 49 dX8_hasRoomFor_46 (by decide) rfl o5 ⟨by decide, by decide⟩ (fun c6 => ?_) (fun c6 => ?_)
      · have hyp := ht c6
        clear ht hf
        refine ex_iconst 54 dX8_hasRoomFor_53 rfl ?_
        refine q_istore_n [some (vr 8), some (vr 3), some (vi 0), some (vi x3)] 55 dX8_hasRoomFor_54 rfl (Nat.le_of_ble_eq_true rfl) rfl rfl ?_
        refine q_iinc [some (vr 8), some (vr 3), some (vi 0), some (vi (x3 + 1))] 58 dX8_hasRoomFor_55 rfl rfl (Nat.le_of_ble_eq_true rfl) rfl rfl ?_
        refine ex_goto 22 dX8_hasRoomFor_58 (by decide) ?_
        exact hyp
      · have hyp := hf c6
        clear ht hf
        refine ex_iconst 50 dX8_hasRoomFor_49 rfl ?_
        refine ex_goto 54 dX8_hasRoomFor_50 (by decide) ?_
        refine q_istore_n [some (vr 8), some (vr 3), some (vi 1), some (vi x3)] 55 dX8_hasRoomFor_54 rfl (Nat.le_of_ble_eq_true rfl) rfl rfl ?_
        refine q_iinc [some (vr 8), some (vr 3), some (vi 1), some (vi (x3 + 1))] 58 dX8_hasRoomFor_55 rfl rfl (Nat.le_of_ble_eq_true rfl) rfl rfl ?_
        refine ex_goto 22 dX8_hasRoomFor_58 (by decide) ?_
        exact hyp
set_option maxRecDepth 4000 in
theorem uX8_add {P : GS → Prop} (g0 : GS)  (hyp : rng (g0.1 8 2) ∧ (g0.1 8 2 < 18 → (0 ≤ g0.1 8 2 ∧ g0.1 8 2 < 18 ∧ g0.2.1 (g0.1 8 2).toNat < 18 ∧ MXv mX0_read [vr (11 + 3 * (g0.2.1 (g0.1 8 2).toNat)), vr 1, vr 3] g0 (fun g5 => XXv mX8_add 31 [some (vr 8), none, none, some (vr 5), some (vr (11 + 3 * (g0.2.1 (g0.1 8 2).toNat))), some (vi 0), none, none] [] g5 P))) ∧ (18 ≤ g0.1 8 2 → (P g0))) : MXv mX8_add [vr 8, vr 1, vr 3, vr 5] g0 P := by
  refine met_of_ex (by decide +kernel) (Nat.le_of_ble_eq_true rfl) ?_
  show EX mX8_add 0 [some (vr 8), some (vr 1), some (vr 3), some (vr 5), none, none, none, none] [] (hX g0) (0, 0) _
  refine ex_aload_n 1 dX8_add_0 rfl rfl ?_
  refine q_getI 8 2 4 dX8_add_1 rfl fiX8_24 (Or.inl rfl) ⟨_, rfl⟩ ?_
  refine ex_bipush 6 dX8_add_4 rfl ⟨by decide, by decide⟩ ?_
  obtain ⟨o1, hyp⟩ := hyp
  obtain ⟨ht, hf⟩ := hyp
  refine ex_icmp_lt 10 9 dX8_add_6 (by decide) rfl o1 ⟨by decide, by decide⟩ (fun c6 => ?_) (fun c6 => ?_)
  · have hyp := ht c6
    clear ht hf
    refine ex_aload_n 11 dX8_add_10 rfl rfl ?_
    refine q_getR (a := 9) 8 0 14 dX8_add_11 rfl fiX8_11 rfl ⟨_, rfl⟩ rfl ?_
    refine ex_aload_n 15 dX8_add_14 rfl rfl ?_
    refine q_getI 8 2 18 dX8_add_15 rfl fiX8_24 (Or.inl rfl) ⟨_, rfl⟩ ?_
    obtain ⟨o2, hyp⟩ := hyp
    obtain ⟨o3, hyp⟩ := hyp
    obtain ⟨o4, hyp⟩ := hyp
    refine ex_aald (a := (11 + 3 * (g0.2.1 (g0.1 8 2).toNat))) 21 19 dX8_add_18 rfl (by decide) (ai_of (n := 18) rfl o2 o3 (by decide)) (rxR g0 (ltN (n := 18) o2 o3)) ?_
    refine q_astore [some (vr 8), some (vr 1), some (vr 3), some (vr 5), some (vr (11 + 3 * (g0.2.1 (g0.1 8 2).toNat))), none, none, none] 21 dX8_add_19 rfl (Nat.le_of_ble_eq_true rfl) rfl rfl ?_
    refine ex_aload 23 dX8_add_21 rfl rfl ?_
    refine ex_aload_n 24 dX8_add_23 rfl rfl ?_
    refine ex_aload_n 25 dX8_add_24 rfl rfl ?_
    refine s_callVv [vr 1, vr 3] 28 dX8_add_25 rfl cvX8_34 rfl rfl ⟨Nat.le_of_ble_eq_true rfl, Nat.le_of_ble_eq_true rfl⟩ (Nat.le_of_ble_eq_true rfl) (obE o4) hyp (fun h1 hq => ?_)
    obtain ⟨g5, rfl, hyp⟩ := hq
    refine ex_iconst 29 dX8_add_28 rfl ?_
    refine q_istore [some (vr 8), some (vr 1), some (vr 3), some (vr 5), some (vr (11 + 3 * (g0.2.1 (g0.1 8 2).toNat))), some (vi 0), none, none] 31 dX8_add_29 rfl (Nat.le_of_ble_eq_true rfl) rfl rfl ?_
    refine ex_dropL (ls' := [some (vr 8), none, some (vr 3), some (vr 5), some (vr (11 + 3 * (g0.2.1 (g0.1 8 2).toNat))), some (vi 0), none, none]) 1 rfl ?_
    refine ex_dropL (ls' := [some (vr 8), none, none, some (vr 5), some (vr (11 + 3 * (g0.2.1 (g0.1 8 2).toNat))), some (vi 0), none, none]) 2 rfl ?_
    exact hyp
  · have hyp := hf c6
    clear ht hf
    exact ex_vret dX8_add_9 rfl ⟨rfl, _, rfl, hyp⟩
set_option maxRecDepth 4000 in
theorem uX8_add_31 {P : GS → Prop} (g0 : GS) (s4 : Nat) (hs4 : s4 < 18) (x5 : Int) (hyp : rng x5 ∧ rng (g0.1 8 2) ∧ (g0.1 8 2 ≤ x5 → (0 ≤ g0.1 (11 + 3 * s4) 4 ∧ g0.1 (11 + 3 * s4) 4 < 3 ∧ ∀ g6 : GS, g6 = gI g0 10 (g0.1 (11 + 3 * s4) 4).toNat ((g0.1 10 (g0.1 (11 + 3 * s4) 4).toNat) + 1) → (∀ g9 : GS, g9 = gI g6 8 2 ((g6.1 8 2) + 1) → (P g9)))) ∧ (x5 < g0.1 8 2 → (0 ≤ x5 ∧ x5 < 18 ∧ g0.2.1 (x5).toNat < 18 ∧ MXi mX4_distance [vr 5, vr (11 + 3 * s4), vr (11 + 3 * (g0.2.1 (x5).toNat))] g0 (fun y15 g14 => 0 ≤ g14.1 (11 + 3 * (g0.2.1 (x5).toNat)) 0 ∧ g14.1 (11 + 3 * (g0.2.1 (x5).toNat)) 0 < 18 ∧ ∀ g19 : GS, g19 = gI g14 (13 + 3 * s4) (g14.1 (11 + 3 * (g0.2.1 (x5).toNat)) 0).toNat y15 → (0 ≤ g19.1 (11 + 3 * s4) 0 ∧ g19.1 (11 + 3 * s4) 0 < 18 ∧ ∀ g24 : GS, g24 = gI g19 (13 + 3 * (g0.2.1 (x5).toNat)) (g19.1 (11 + 3 * s4) 0).toNat y15 → (XXv mX8_add 31 [some (vr 8), none, none, some (vr 5), some (vr (11 + 3 * s4)), some (vi (x5 + 1)), none, none] [] g24 P)))))) : XXv mX8_add 31 [some (vr 8), none, none, some (vr 5), some (vr (11 + 3 * s4)), some (vi x5), none, none] [] g0 P := by
  refine ex_iload 33 dX8_add_31 rfl rfl ?_
  refine ex_aload_n 34 dX8_add_33 rfl rfl ?_
  refine q_getI 8 2 37 dX8_add_34 rfl fiX8_24 (Or.inl rfl) ⟨_, rfl⟩ ?_
  obtain ⟨o1, hyp⟩ := hyp
  obtain ⟨o2, hyp⟩ := hyp
  obtain ⟨ht, hf⟩ := hyp
  refine ex_icmp_ge 91 40 dX8_add_37 (by decide) rfl o1 o2 (fun c26 => ?_) (fun c26 => ?_)
  · have hyp := ht c26
    clear ht hf
    refine ex_aload_n 92 dX8_add_91 rfl rfl ?_
    refine q_getR (a := 10) 8 1 95 dX8_add_92 rfl fiX8_17 rfl ⟨_, rfl⟩ rfl ?_
    refine ex_aload 97 dX8_add_95 rfl rfl ?_
    refine q_getI 0 4 100 dX8_add_97 rfl fiX8_50 (Or.inl rfl) (obE hs4) ?_
    refine ex_dup2 101 dX8_add_100 rfl rfl rfl ?_
    obtain ⟨o3, hyp⟩ := hyp
    obtain ⟨o4, hyp⟩ := hyp
    refine ex_iald 102 dX8_add_101 rfl (ai_of (n := 3) rfl o3 o4 (by decide)) ?_
    refine ex_iconst 103 dX8_add_102 rfl ?_
    refine ex_iadd 104 dX8_add_103 rfl ?_
    refine ex_iast 105 dX8_add_104 rfl (ai_of (n := 3) rfl o3 o4 (by decide)) (fun h1 e5 => ?_)
    obtain ⟨g6, eg7⟩ : ∃ z : GS, z = gI g0 10 (g0.1 (11 + 3 * s4) 4).toNat ((g0.1 10 (g0.1 (11 + 3 * s4) 4).toNat) + 1) := ⟨_, rfl⟩
    have hyp := hyp g6 eg7
    obtain rfl : h1 = hX g6 := by rw [e5, eg7]; exact rfl
    clear e5
    refine ex_aload_n 106 dX8_add_105 rfl rfl ?_
    refine ex_dup 107 dX8_add_106 rfl rfl ?_
    refine q_getI 8 2 110 dX8_add_107 rfl fiX8_24 (Or.inl rfl) ⟨_, rfl⟩ ?_
    refine ex_iconst 111 dX8_add_110 rfl ?_
    refine ex_iadd 112 dX8_add_111 rfl ?_
    refine q_putI 8 2 115 dX8_add_112 rfl fiX8_24 ff8_2 rfl ⟨_, rfl⟩ (fun h1 e8 => ?_)
    obtain ⟨g9, eg10⟩ : ∃ z : GS, z = gI g6 8 2 ((g6.1 8 2) + 1) := ⟨_, rfl⟩
    have hyp := hyp g9 eg10
    obtain rfl : h1 = hX g9 := by rw [e8, eg10]; exact rfl
    clear e8
    exact ex_vret dX8_add_115 rfl ⟨rfl, _, rfl, hyp⟩
  · have hyp := hf c26
    clear ht hf
    refine ex_aload_n 41 dX8_add_40 rfl rfl ?_
    refine q_getR (a := 9) 8 0 44 dX8_add_41 rfl fiX8_11 rfl ⟨_, rfl⟩ rfl ?_
    refine ex_iload 46 dX8_add_44 rfl rfl ?_
    obtain ⟨o11, hyp⟩ := hyp
    obtain ⟨o12, hyp⟩ := hyp
    obtain ⟨o13, hyp⟩ := hyp
    refine ex_aald (a := (11 + 3 * (g0.2.1 (x5).toNat))) 21 47 dX8_add_46 rfl (by decide) (ai_of (n := 18) rfl o11 o12 (by decide)) (rxR g0 (ltN (n := 18) o11 o12)) ?_
    refine q_astore [some (vr 8), none, none, some (vr 5), some (vr (11 + 3 * s4)), some (vi x5), some (vr (11 + 3 * (g0.2.1 (x5).toNat))), none] 49 dX8_add_47 rfl (Nat.le_of_ble_eq_true rfl) rfl rfl ?_
    refine ex_aload_n 50 dX8_add_49 rfl rfl ?_
    refine ex_aload 52 dX8_add_50 rfl rfl ?_
    refine ex_aload 54 dX8_add_52 rfl rfl ?_
    refine s_callVi [vr (11 + 3 * s4), vr (11 + 3 * (g0.2.1 (x5).toNat))] 57 dX8_add_54 rfl cvX8_38 rfl rfl ⟨Nat.le_of_ble_eq_true rfl, Nat.le_of_ble_eq_true rfl⟩ (Nat.le_of_ble_eq_true rfl) ⟨_, rfl⟩ hyp (fun y15 h1 hq => ?_)
    obtain ⟨g14, rfl, hyp⟩ := hq
    refine q_istore [some (vr 8), none, none, some (vr 5), some (vr (11 + 3 * s4)), some (vi x5), some (vr (11 + 3 * (g0.2.1 (x5).toNat))), some (vi y15)] 59 dX8_add_57 rfl (Nat.le_of_ble_eq_true rfl) rfl rfl ?_
    refine ex_aload 61 dX8_add_59 rfl rfl ?_
    refine q_getR (a := (13 + 3 * s4)) 0 2 64 dX8_add_61 rfl fiX8_44 rfl (obE hs4) (rxD g14 hs4) ?_
    refine ex_aload 66 dX8_add_64 rfl rfl ?_
    refine q_getI 0 0 69 dX8_add_66 rfl fiX8_47 (Or.inl rfl) (obE o13) ?_
    refine ex_iload 71 dX8_add_69 rfl rfl ?_
    obtain ⟨o16, hyp⟩ := hyp
    obtain ⟨o17, hyp⟩ := hyp
    refine ex_iast 72 dX8_add_71 rfl (ai_of (n := 18) (txD _ hs4) o16 o17 (by decide)) (fun h1 e18 => ?_)
    obtain ⟨g19, eg20⟩ : ∃ z : GS, z = gI g14 (13 + 3 * s4) (g14.1 (11 + 3 * (g0.2.1 (x5).toNat)) 0).toNat y15 := ⟨_, rfl⟩
    have hyp := hyp g19 eg20
    obtain rfl : h1 = hX g19 := by rw [e18, eg20]; exact rfl
    clear e18
    refine ex_aload 74 dX8_add_72 rfl rfl ?_
    refine q_getR (a := (13 + 3 * (g0.2.1 (x5).toNat))) 0 2 77 dX8_add_74 rfl fiX8_44 rfl (obE o13) (rxD g19 o13) ?_
    refine ex_aload 79 dX8_add_77 rfl rfl ?_
    refine q_getI 0 0 82 dX8_add_79 rfl fiX8_47 (Or.inl rfl) (obE hs4) ?_
    refine ex_iload 84 dX8_add_82 rfl rfl ?_
    obtain ⟨o21, hyp⟩ := hyp
    obtain ⟨o22, hyp⟩ := hyp
    refine ex_iast 85 dX8_add_84 rfl (ai_of (n := 18) (txD _ o13) o21 o22 (by decide)) (fun h1 e23 => ?_)
    obtain ⟨g24, eg25⟩ : ∃ z : GS, z = gI g19 (13 + 3 * (g0.2.1 (x5).toNat)) (g19.1 (11 + 3 * s4) 0).toNat y15 := ⟨_, rfl⟩
    have hyp := hyp g24 eg25
    obtain rfl : h1 = hX g24 := by rw [e23, eg25]; exact rfl
    clear e23
    refine q_iinc [some (vr 8), none, none, some (vr 5), some (vr (11 + 3 * s4)), some (vi (x5 + 1)), some (vr (11 + 3 * (g0.2.1 (x5).toNat))), some (vi y15)] 88 dX8_add_85 rfl rfl (Nat.le_of_ble_eq_true rfl) rfl rfl ?_
    refine ex_goto 31 dX8_add_88 (by decide) ?_
    refine ex_dropL (ls' := [some (vr 8), none, none, some (vr 5), some (vr (11 + 3 * s4)), some (vi (x5 + 1)), none, some (vi y15)]) 6 rfl ?_
    refine ex_dropL (ls' := [some (vr 8), none, none, some (vr 5), some (vr (11 + 3 * s4)), some (vi (x5 + 1)), none, none]) 7 rfl ?_
    exact hyp
set_option maxRecDepth 4000 in
theorem uX8_remove {P : GS → Prop} (g0 : GS) (x1 : Int) (hyp : 0 ≤ x1 ∧ x1 < 18 ∧ g0.2.1 (x1).toNat < 18 ∧ XXv mX8_remove 11 [some (vr 8), none, some (vr (11 + 3 * (g0.2.1 (x1).toNat))), some (vi (x1 + 1))] [] g0 P) : MXv mX8_remove [vr 8, vi x1] g0 P := by
  refine met_of_ex (by decide +kernel) (Nat.le_of_ble_eq_true rfl) ?_
  show EX mX8_remove 0 [some (vr 8), some (vi x1), none, none] [] (hX g0) (0, 0) _
  refine ex_aload_n 1 dX8_remove_0 rfl rfl ?_
  refine q_getR (a := 9) 8 0 4 dX8_remove_1 rfl fiX8_11 rfl ⟨_, rfl⟩ rfl ?_
  refine ex_iload_n 5 dX8_remove_4 rfl rfl ?_
  obtain ⟨o1, hyp⟩ := hyp
  obtain ⟨o2, hyp⟩ := hyp
  obtain ⟨o3, hyp⟩ := hyp
  refine ex_aald (a := (11 + 3 * (g0.2.1 (x1).toNat))) 21 6 dX8_remove_5 rfl (by decide) (ai_of (n := 18) rfl o1 o2 (by decide)) (rxR g0 (ltN (n := 18) o1 o2)) ?_
  refine q_astore_n [some (vr 8), some (vi x1), some (vr (11 + 3 * (g0.2.1 (x1).toNat))), none] 7 dX8_remove_6 rfl (Nat.le_of_ble_eq_true rfl) rfl rfl ?_
  refine ex_iload_n 8 dX8_remove_7 rfl rfl ?_
  refine ex_iconst 9 dX8_remove_8 rfl ?_
  refine ex_iadd 10 dX8_remove_9 rfl ?_
  refine q_istore_n [some (vr 8), some (vi x1), some (vr (11 + 3 * (g0.2.1 (x1).toNat))), some (vi (x1 + 1))] 11 dX8_remove_10 rfl (Nat.le_of_ble_eq_true rfl) rfl rfl ?_
  refine ex_dropL (ls' := [some (vr 8), none, some (vr (11 + 3 * (g0.2.1 (x1).toNat))), some (vi (x1 + 1))]) 1 rfl ?_
  exact hyp
set_option maxRecDepth 4000 in
theorem uX8_remove_11 {P : GS → Prop} (g0 : GS) (s2 : Nat) (hs2 : s2 < 18) (x3 : Int) (hyp : rng x3 ∧ rng (g0.1 8 2) ∧ (g0.1 8 2 ≤ x3 → (∀ g4 : GS, g4 = gI g0 8 2 ((g0.1 8 2) - 1) → (0 ≤ g4.1 8 2 ∧ g4.1 8 2 < 18 ∧ ∀ g9 : GS, g9 = gW g4 (g4.1 8 2).toNat s2 → (0 ≤ g9.1 (11 + 3 * s2) 4 ∧ g9.1 (11 + 3 * s2) 4 < 3 ∧ ∀ g14 : GS, g14 = gI g9 10 (g9.1 (11 + 3 * s2) 4).toNat ((g9.1 10 (g9.1 (11 + 3 * s2) 4).toNat) - 1) → (∀ g17 : GS, g17 = gI g14 8 3 ((g14.1 8 3) + 1) → (XXv mX8_remove 84 [some (vr 8), none, some (vr (11 + 3 * s2)), some (vi 0)] [] g17 P)))))) ∧ (x3 < g0.1 8 2 → (0 ≤ x3 ∧ x3 < 18 ∧ g0.2.1 (x3).toNat < 18 ∧ 0 ≤ x3 - 1 ∧ x3 - 1 < 18 ∧ ∀ g25 : GS, g25 = gW g0 (x3 - 1).toNat (g0.2.1 (x3).toNat) → (XXv mX8_remove 11 [some (vr 8), none, some (vr (11 + 3 * s2)), some (vi (x3 + 1))] [] g25 P)))) : XXv mX8_remove 11 [some (vr 8), none, some (vr (11 + 3 * s2)), some (vi x3)] [] g0 P := by
  refine ex_iload_n 12 dX8_remove_11 rfl rfl ?_
  refine ex_aload_n 13 dX8_remove_12 rfl rfl ?_
  refine q_getI 8 2 16 dX8_remove_13 rfl fiX8_24 (Or.inl rfl) ⟨_, rfl⟩ ?_
  obtain ⟨o1, hyp⟩ := hyp
  obtain ⟨o2, hyp⟩ := hyp
  obtain ⟨ht, hf⟩ := hyp
  refine ex_icmp_ge 39 19 dX8_remove_16 (by decide) rfl o1 o2 (fun c27 => ?_) (fun c27 => ?_)
  · have hyp := ht c27
    clear ht hf
    refine ex_aload_n 40 dX8_remove_39 rfl rfl ?_
    refine ex_dup 41 dX8_remove_40 rfl rfl ?_
    refine q_getI 8 2 44 dX8_remove_41 rfl fiX8_24 (Or.inl rfl) ⟨_, rfl⟩ ?_
    refine ex_iconst 45 dX8_remove_44 rfl ?_
    refine ex_isub 46 dX8_remove_45 rfl ?_
    refine q_putI 8 2 49 dX8_remove_46 rfl fiX8_24 ff8_2 rfl ⟨_, rfl⟩ (fun h1 e3 => ?_)
    obtain ⟨g4, eg5⟩ : ∃ z : GS, z = gI g0 8 2 ((g0.1 8 2) - 1) := ⟨_, rfl⟩
    have hyp := hyp g4 eg5
    obtain rfl : h1 = hX g4 := by rw [e3, eg5]; exact rfl
    clear e3
    refine ex_aload_n 50 dX8_remove_49 rfl rfl ?_
    refine q_getR (a := 9) 8 0 53 dX8_remove_50 rfl fiX8_11 rfl ⟨_, rfl⟩ rfl ?_
    refine ex_aload_n 54 dX8_remove_53 rfl rfl ?_
    refine q_getI 8 2 57 dX8_remove_54 rfl fiX8_24 (Or.inl rfl) ⟨_, rfl⟩ ?_
    refine ex_aload_n 58 dX8_remove_57 rfl rfl ?_
    obtain ⟨o6, hyp⟩ := hyp
    obtain ⟨o7, hyp⟩ := hyp
    refine ex_aast (c0 := 0) 21 59 dX8_remove_58 rfl (by decide) (ai_of (n := 18) rfl o6 o7 (by decide)) (obE hs2) (fun h1 e8 => ?_)
    obtain ⟨g9, eg10⟩ : ∃ z : GS, z = gW g4 (g4.1 8 2).toNat s2 := ⟨_, rfl⟩
    have hyp := hyp g9 eg10
    obtain rfl : h1 = hX g9 := by rw [e8, eg10]; exact hX_W _ _ _ (ltN (n := 18) o6 o7)
    clear e8
    refine ex_aload_n 60 dX8_remove_59 rfl rfl ?_
    refine q_getR (a := 10) 8 1 63 dX8_remove_60 rfl fiX8_17 rfl ⟨_, rfl⟩ rfl ?_
    refine ex_aload_n 64 dX8_remove_63 rfl rfl ?_
    refine q_getI 0 4 67 dX8_remove_64 rfl fiX8_50 (Or.inl rfl) (obE hs2) ?_
    refine ex_dup2 68 dX8_remove_67 rfl rfl rfl ?_
    obtain ⟨o11, hyp⟩ := hyp
    obtain ⟨o12, hyp⟩ := hyp
    refine ex_iald 69 dX8_remove_68 rfl (ai_of (n := 3) rfl o11 o12 (by decide)) ?_
    refine ex_iconst 70 dX8_remove_69 rfl ?_
    refine ex_isub 71 dX8_remove_70 rfl ?_
    refine ex_iast 72 dX8_remove_71 rfl (ai_of (n := 3) rfl o11 o12 (by decide)) (fun h1 e13 => ?_)
    obtain ⟨g14, eg15⟩ : ∃ z : GS, z = gI g9 10 (g9.1 (11 + 3 * s2) 4).toNat ((g9.1 10 (g9.1 (11 + 3 * s2) 4).toNat) - 1) := ⟨_, rfl⟩
    have hyp := hyp g14 eg15
    obtain rfl : h1 = hX g14 := by rw [e13, eg15]; exact rfl
    clear e13
    refine ex_aload_n 73 dX8_remove_72 rfl rfl ?_
    refine ex_dup 74 dX8_remove_73 rfl rfl ?_
    refine q_getI 8 3 77 dX8_remove_74 rfl fiX8_53 (Or.inl rfl) ⟨_, rfl⟩ ?_
    refine ex_iconst 78 dX8_remove_77 rfl ?_
    refine ex_iadd 79 dX8_remove_78 rfl ?_
    refine q_putI 8 3 82 dX8_remove_79 rfl fiX8_53 ff8_3 rfl ⟨_, rfl⟩ (fun h1 e16 => ?_)
    obtain ⟨g17, eg18⟩ : ∃ z : GS, z = gI g14 8 3 ((g14.1 8 3) + 1) := ⟨_, rfl⟩
    have hyp := hyp g17 eg18
    obtain rfl : h1 = hX g17 := by rw [e16, eg18]; exact rfl
    clear e16
    refine ex_iconst 83 dX8_remove_82 rfl ?_
    refine q_istore_n [some (vr 8), none, some (vr (11 + 3 * s2)), some (vi 0)] 84 dX8_remove_83 rfl (Nat.le_of_ble_eq_true rfl) rfl rfl ?_
    exact hyp
  · have hyp := hf c27
    clear ht hf
    refine ex_aload_n 20 dX8_remove_19 rfl rfl ?_
    refine q_getR (a := 9) 8 0 23 dX8_remove_20 rfl fiX8_11 rfl ⟨_, rfl⟩ rfl ?_
    refine ex_iload_n 24 dX8_remove_23 rfl rfl ?_
    refine ex_iconst 25 dX8_remove_24 rfl ?_
    refine ex_isub 26 dX8_remove_25 rfl ?_
    refine ex_aload_n 27 dX8_remove_26 rfl rfl ?_
    refine q_getR (a := 9) 8 0 30 dX8_remove_27 rfl fiX8_11 rfl ⟨_, rfl⟩ rfl ?_
    refine ex_iload_n 31 dX8_remove_30 rfl rfl ?_
    obtain ⟨o19, hyp⟩ := hyp
    obtain ⟨o20, hyp⟩ := hyp
    obtain ⟨o21, hyp⟩ := hyp
    refine ex_aald (a := (11 + 3 * (g0.2.1 (x3).toNat))) 21 32 dX8_remove_31 rfl (by decide) (ai_of (n := 18) rfl o19 o20 (by decide)) (rxR g0 (ltN (n := 18) o19 o20)) ?_
    obtain ⟨o22, hyp⟩ := hyp
    obtain ⟨o23, hyp⟩ := hyp
    refine ex_aast (c0 := 0) 21 33 dX8_remove_32 rfl (by decide) (ai_of (n := 18) rfl o22 o23 (by decide)) (obE o21) (fun h1 e24 => ?_)
    obtain ⟨g25, eg26⟩ : ∃ z : GS, z = gW g0 (x3 - 1).toNat (g0.2.1 (x3).toNat) := ⟨_, rfl⟩
    have hyp := hyp g25 eg26
    obtain rfl : h1 = hX g25 := by rw [e24, eg26]; exact hX_W _ _ _ (ltN (n := 18) o22 o23)
    clear e24
    refine q_iinc [some (vr 8), none, some (vr (11 + 3 * s2)), some (vi (x3 + 1))] 36 dX8_remove_33 rfl rfl (Nat.le_of_ble_eq_true rfl) rfl rfl ?_
    refine ex_goto 11 dX8_remove_36 (by decide) ?_
    exact hyp
set_option maxRecDepth 4000 in
theorem uX8_remove_84 {P : GS → Prop} (g0 : GS) (s2 : Nat) (hs2 : s2 < 18) (x3 : Int) (hyp : rng x3 ∧ rng (g0.1 8 2) ∧ (g0.1 8 2 ≤ x3 → (P g0)) ∧ (x3 < g0.1 8 2 → (0 ≤ x3 ∧ x3 < 18 ∧ g0.2.1 (x3).toNat < 18 ∧ ∀ g7 : GS, g7 = gI g0 (11 + 3 * (g0.2.1 (x3).toNat)) 7 (b_and (g0.1 (11 + 3 * (g0.2.1 (x3).toNat)) 7) (b_xor (b_shl 1 (g0.1 (11 + 3 * s2) 0)) (-1))) → (XXv mX8_remove 84 [some (vr 8), none, some (vr (11 + 3 * s2)), some (vi (x3 + 1))] [] g7 P)))) : XXv mX8_remove 84 [some (vr 8), none, some (vr (11 + 3 * s2)), some (vi x3)] [] g0 P := by
  refine ex_iload_n 85 dX8_remove_84 rfl rfl ?_
  refine ex_aload_n 86 dX8_remove_85 rfl rfl ?_
  refine q_getI 8 2 89 dX8_remove_86 rfl fiX8_24 (Or.inl rfl) ⟨_, rfl⟩ ?_
  obtain ⟨o1, hyp⟩ := hyp
  obtain ⟨o2, hyp⟩ := hyp
  obtain ⟨ht, hf⟩ := hyp
  refine ex_icmp_ge 120 92 dX8_remove_89 (by decide) rfl o1 o2 (fun c9 => ?_) (fun c9 => ?_)
  · have hyp := ht c9
    clear ht hf
    exact ex_vret dX8_remove_120 rfl ⟨rfl, _, rfl, hyp⟩
  · have hyp := hf c9
    clear ht hf
    refine ex_aload_n 93 dX8_remove_92 rfl rfl ?_
    refine q_getR (a := 9) 8 0 96 dX8_remove_93 rfl fiX8_11 rfl ⟨_, rfl⟩ rfl ?_
    refine ex_iload_n 97 dX8_remove_96 rfl rfl ?_
    obtain ⟨o3, hyp⟩ := hyp
    obtain ⟨o4, hyp⟩ := hyp
    obtain ⟨o5, hyp⟩ := hyp
    refine ex_aald (a := (11 + 3 * (g0.2.1 (x3).toNat))) 21 98 dX8_remove_97 rfl (by decide) (ai_of (n := 18) rfl o3 o4 (by decide)) (rxR g0 (ltN (n := 18) o3 o4)) ?_
    refine ex_dup 99 dX8_remove_98 rfl rfl ?_
    refine q_getI 0 7 102 dX8_remove_99 rfl fiX8_56 (Or.inl rfl) (obE o5) ?_
    refine ex_iconst 103 dX8_remove_102 rfl ?_
    refine ex_aload_n 104 dX8_remove_103 rfl rfl ?_
    refine q_getI 0 0 107 dX8_remove_104 rfl fiX8_47 (Or.inl rfl) (obE hs2) ?_
    refine ex_ishl 108 dX8_remove_107 rfl ?_
    refine ex_iconst 109 dX8_remove_108 rfl ?_
    refine ex_ixor 110 dX8_remove_109 rfl ?_
    refine ex_iand 111 dX8_remove_110 rfl ?_
    refine q_putI 0 7 114 dX8_remove_111 rfl fiX8_56 ff0_7 rfl (obE o5) (fun h1 e6 => ?_)
    obtain ⟨g7, eg8⟩ : ∃ z : GS, z = gI g0 (11 + 3 * (g0.2.1 (x3).toNat)) 7 (b_and (g0.1 (11 + 3 * (g0.2.1 (x3).toNat)) 7) (b_xor (b_shl 1 (g0.1 (11 + 3 * s2) 0)) (-1))) := ⟨_, rfl⟩
    have hyp := hyp g7 eg8
    obtain rfl : h1 = hX g7 := by rw [e6, eg8]; exact rfl
    clear e6
    refine q_iinc [some (vr 8), none, some (vr (11 + 3 * s2)), some (vi (x3 + 1))] 117 dX8_remove_114 rfl rfl (Nat.le_of_ble_eq_true rfl) rfl rfl ?_
    refine ex_goto 84 dX8_remove_117 (by decide) ?_
    exact hyp
set_option maxRecDepth 4000 in
theorem uX8_turnParted {P : Int → GS → Prop} (g0 : GS) (s1 : Nat) (hs1 : s1 < 18) (s2 : Nat) (hs2 : s2 < 18) (hyp : ∀ g2 : GS, g2 = gI g0 (11 + 3 * s1) 7 (b_xor (g0.1 (11 + 3 * s1) 7) (b_shl 1 (g0.1 (11 + 3 * s2) 0))) → (∀ g5 : GS, g5 = gI g2 (11 + 3 * s2) 7 (b_xor (g2.1 (11 + 3 * s2) 7) (b_shl 1 (g2.1 (11 + 3 * s1) 0))) → (MXi mX0_isPartedFrom [vr (11 + 3 * s1), vr (11 + 3 * s2)] g5 (fun y8 g7 => (y8 = 0 ∨ y8 = 1) ∧ P y8 g7)))) : MXi mX8_turnParted [vr 8, vr (11 + 3 * s1), vr (11 + 3 * s2)] g0 P := by
  refine met_of_ex (by decide +kernel) (Nat.le_of_ble_eq_true rfl) ?_
  show EX mX8_turnParted 0 [some (vr 8), some (vr (11 + 3 * s1)), some (vr (11 + 3 * s2))] [] (hX g0) (0, 0) _
  refine ex_aload_n 1 dX8_turnParted_0 rfl rfl ?_
  refine ex_dup 2 dX8_turnParted_1 rfl rfl ?_
  refine q_getI 0 7 5 dX8_turnParted_2 rfl fiX8_56 (Or.inl rfl) (obE hs1) ?_
  refine ex_iconst 6 dX8_turnParted_5 rfl ?_
  refine ex_aload_n 7 dX8_turnParted_6 rfl rfl ?_
  refine q_getI 0 0 10 dX8_turnParted_7 rfl fiX8_47 (Or.inl rfl) (obE hs2) ?_
  refine ex_ishl 11 dX8_turnParted_10 rfl ?_
  refine ex_ixor 12 dX8_turnParted_11 rfl ?_
  refine q_putI 0 7 15 dX8_turnParted_12 rfl fiX8_56 ff0_7 rfl (obE hs1) (fun h1 e1 => ?_)
  obtain ⟨g2, eg3⟩ : ∃ z : GS, z = gI g0 (11 + 3 * s1) 7 (b_xor (g0.1 (11 + 3 * s1) 7) (b_shl 1 (g0.1 (11 + 3 * s2) 0))) := ⟨_, rfl⟩
  have hyp := hyp g2 eg3
  obtain rfl : h1 = hX g2 := by rw [e1, eg3]; exact rfl
  clear e1
  refine ex_aload_n 16 dX8_turnParted_15 rfl rfl ?_
  refine ex_dup 17 dX8_turnParted_16 rfl rfl ?_
  refine q_getI 0 7 20 dX8_turnParted_17 rfl fiX8_56 (Or.inl rfl) (obE hs2) ?_
  refine ex_iconst 21 dX8_turnParted_20 rfl ?_
  refine ex_aload_n 22 dX8_turnParted_21 rfl rfl ?_
  refine q_getI 0 0 25 dX8_turnParted_22 rfl fiX8_47 (Or.inl rfl) (obE hs1) ?_
  refine ex_ishl 26 dX8_turnParted_25 rfl ?_
  refine ex_ixor 27 dX8_turnParted_26 rfl ?_
  refine q_putI 0 7 30 dX8_turnParted_27 rfl fiX8_56 ff0_7 rfl (obE hs2) (fun h1 e4 => ?_)
  obtain ⟨g5, eg6⟩ : ∃ z : GS, z = gI g2 (11 + 3 * s2) 7 (b_xor (g2.1 (11 + 3 * s2) 7) (b_shl 1 (g2.1 (11 + 3 * s1) 0))) := ⟨_, rfl⟩
  have hyp := hyp g5 eg6
  obtain rfl : h1 = hX g5 := by rw [e4, eg6]; exact rfl
  clear e4
  refine ex_aload_n 31 dX8_turnParted_30 rfl rfl ?_
  refine ex_aload_n 32 dX8_turnParted_31 rfl rfl ?_
  refine s_callVi [vr (11 + 3 * s2)] 35 dX8_turnParted_32 rfl cvX8_59 rfl rfl ⟨Nat.le_of_ble_eq_true rfl, Nat.le_of_ble_eq_true rfl⟩ (Nat.le_of_ble_eq_true rfl) (obE hs1) hyp (fun y8 h1 hq => ?_)
  obtain ⟨g7, rfl, hyp⟩ := hq
  exact ex_iret dX8_turnParted_35 (Or.inr ⟨rfl, hyp.1⟩) ⟨_, rfl, _, rfl, hyp.2⟩
set_option maxRecDepth 4000 in
theorem uX8_countParted {P : Int → GS → Prop} (g0 : GS)  (hyp : XXi mX8_countParted 4 [some (vr 8), some (vi 0), some (vi 0)] [] g0 P) : MXi mX8_countParted [vr 8] g0 P := by
  refine met_of_ex (by decide +kernel) (Nat.le_of_ble_eq_true rfl) ?_
  show EX mX8_countParted 0 [some (vr 8), none, none] [] (hX g0) (0, 0) _
  refine ex_iconst 1 dX8_countParted_0 rfl ?_
  refine q_istore_n [some (vr 8), some (vi 0), none] 2 dX8_countParted_1 rfl (Nat.le_of_ble_eq_true rfl) rfl rfl ?_
  refine ex_iconst 3 dX8_countParted_2 rfl ?_
  refine q_istore_n [some (vr 8), some (vi 0), some (vi 0)] 4 dX8_countParted_3 rfl (Nat.le_of_ble_eq_true rfl) rfl rfl ?_
  exact hyp
set_option maxRecDepth 4000 in
theorem uX8_countParted_4 {P : Int → GS → Prop} (g0 : GS) (x1 : Int) (x2 : Int) (hyp : rng x2 ∧ rng (g0.1 8 2) ∧ (g0.1 8 2 ≤ x2 → (rng x1 ∧ P (Int.tdiv x1 2) g0)) ∧ (x2 < g0.1 8 2 → (0 ≤ x2 ∧ x2 < 18 ∧ g0.2.1 (x2).toNat < 18 ∧ MXi mJ6_bitCount_0f7a4 [vi (g0.1 (11 + 3 * (g0.2.1 (x2).toNat)) 7)] g0 (fun y8 g7 => XXi mX8_countParted 4 [some (vr 8), some (vi (x1 + y8)), some (vi (x2 + 1))] [] g7 P)))) : XXi mX8_countParted 4 [some (vr 8), some (vi x1), some (vi x2)] [] g0 P := by
  refine ex_iload_n 5 dX8_countParted_4 rfl rfl ?_
  refine ex_aload_n 6 dX8_countParted_5 rfl rfl ?_
  refine q_getI 8 2 9 dX8_countParted_6 rfl fiX8_24 (Or.inl rfl) ⟨_, rfl⟩ ?_
  obtain ⟨o1, hyp⟩ := hyp
  obtain ⟨o2, hyp⟩ := hyp
  obtain ⟨ht, hf⟩ := hyp
  refine ex_icmp_ge 33 12 dX8_countParted_9 (by decide) rfl o1 o2 (fun c9 => ?_) (fun c9 => ?_)
  · have hyp := ht c9
    clear ht hf
    refine ex_iload_n 34 dX8_countParted_33 rfl rfl ?_
    refine ex_iconst 35 dX8_countParted_34 rfl ?_
    obtain ⟨o3, hyp⟩ := hyp
    refine ex_idiv 36 dX8_countParted_35 rfl o3 ⟨by decide, by decide⟩ (by decide) ?_
    exact ex_iret dX8_countParted_36 (Or.inl rfl) ⟨_, rfl, _, rfl, hyp⟩
  · have hyp := hf c9
    clear ht hf
    refine ex_iload_n 13 dX8_countParted_12 rfl rfl ?_
    refine ex_aload_n 14 dX8_countParted_13 rfl rfl ?_
    refine q_getR (a := 9) 8 0 17 dX8_countParted_14 rfl fiX8_11 rfl ⟨_, rfl⟩ rfl ?_
    refine ex_iload_n 18 dX8_countParted_17 rfl rfl ?_
    obtain ⟨o4, hyp⟩ := hyp
    obtain ⟨o5, hyp⟩ := hyp
    obtain ⟨o6, hyp⟩ := hyp
    refine ex_aald (a := (11 + 3 * (g0.2.1 (x2).toNat))) 21 19 dX8_countParted_18 rfl (by decide) (ai_of (n := 18) rfl o4 o5 (by decide)) (rxR g0 (ltN (n := 18) o4 o5)) ?_
    refine q_getI 0 7 22 dX8_countParted_19 rfl fiX8_56 (Or.inl rfl) (obE o6) ?_
    refine s_callSi [vi (g0.1 (11 + 3 * (g0.2.1 (x2).toNat)) 7)] 25 dX8_countParted_22 rfl cvX8_63 rfl rfl ⟨Nat.le_of_ble_eq_true rfl, Nat.le_of_ble_eq_true rfl⟩ (Nat.le_of_ble_eq_true rfl) hyp (fun y8 h1 hq => ?_)
    obtain ⟨g7, rfl, hyp⟩ := hq
    refine ex_iadd 26 dX8_countParted_25 rfl ?_
    refine q_istore_n [some (vr 8), some (vi (x1 + y8)), some (vi x2)] 27 dX8_countParted_26 rfl (Nat.le_of_ble_eq_true rfl) rfl rfl ?_
    refine q_iinc [some (vr 8), some (vi (x1 + y8)), some (vi (x2 + 1))] 30 dX8_countParted_27 rfl rfl (Nat.le_of_ble_eq_true rfl) rfl rfl ?_
    refine ex_goto 4 dX8_countParted_30 (by decide) ?_
    exact hyp
set_option maxRecDepth 4000 in
theorem uX8_settleBorn {P : GS → Prop} (g0 : GS) (x1 : Int) (hyp : XXv mX8_settleBorn 2 [some (vr 8), some (vi x1), some (vi 0)] [] g0 P) : MXv mX8_settleBorn [vr 8, vi x1] g0 P := by
  refine met_of_ex (by decide +kernel) (Nat.le_of_ble_eq_true rfl) ?_
  show EX mX8_settleBorn 0 [some (vr 8), some (vi x1), none] [] (hX g0) (0, 0) _
  refine ex_iconst 1 dX8_settleBorn_0 rfl ?_
  refine q_istore_n [some (vr 8), some (vi x1), some (vi 0)] 2 dX8_settleBorn_1 rfl (Nat.le_of_ble_eq_true rfl) rfl rfl ?_
  exact hyp
set_option maxRecDepth 4000 in
theorem uX8_settleBorn_2 {P : GS → Prop} (g0 : GS) (x1 : Int) (x2 : Int) (hyp : rng x2 ∧ rng (g0.1 8 2) ∧ (g0.1 8 2 ≤ x2 → (P g0)) ∧ (x2 < g0.1 8 2 → (0 ≤ x2 ∧ x2 < 18 ∧ g0.2.1 (x2).toNat < 18 ∧ MXv mX0_settleBorn [vr (11 + 3 * (g0.2.1 (x2).toNat)), vi x1] g0 (fun g6 => XXv mX8_settleBorn 2 [some (vr 8), some (vi x1), some (vi (x2 + 1))] [] g6 P)))) : XXv mX8_settleBorn 2 [some (vr 8), some (vi x1), some (vi x2)] [] g0 P := by
  refine ex_iload_n 3 dX8_settleBorn_2 rfl rfl ?_
  refine ex_aload_n 4 dX8_settleBorn_3 rfl rfl ?_
  refine q_getI 8 2 7 dX8_settleBorn_4 rfl fiX8_24 (Or.inl rfl) ⟨_, rfl⟩ ?_
  obtain ⟨o1, hyp⟩ := hyp
  obtain ⟨o2, hyp⟩ := hyp
  obtain ⟨ht, hf⟩ := hyp
  refine ex_icmp_ge 26 10 dX8_settleBorn_7 (by decide) rfl o1 o2 (fun c7 => ?_) (fun c7 => ?_)
  · have hyp := ht c7
    clear ht hf
    exact ex_vret dX8_settleBorn_26 rfl ⟨rfl, _, rfl, hyp⟩
  · have hyp := hf c7
    clear ht hf
    refine ex_aload_n 11 dX8_settleBorn_10 rfl rfl ?_
    refine q_getR (a := 9) 8 0 14 dX8_settleBorn_11 rfl fiX8_11 rfl ⟨_, rfl⟩ rfl ?_
    refine ex_iload_n 15 dX8_settleBorn_14 rfl rfl ?_
    obtain ⟨o3, hyp⟩ := hyp
    obtain ⟨o4, hyp⟩ := hyp
    obtain ⟨o5, hyp⟩ := hyp
    refine ex_aald (a := (11 + 3 * (g0.2.1 (x2).toNat))) 21 16 dX8_settleBorn_15 rfl (by decide) (ai_of (n := 18) rfl o3 o4 (by decide)) (rxR g0 (ltN (n := 18) o3 o4)) ?_
    refine ex_iload_n 17 dX8_settleBorn_16 rfl rfl ?_
    refine s_callVv [vi x1] 20 dX8_settleBorn_17 rfl cvX8_69 rfl rfl ⟨Nat.le_of_ble_eq_true rfl, Nat.le_of_ble_eq_true rfl⟩ (Nat.le_of_ble_eq_true rfl) (obE o5) hyp (fun h1 hq => ?_)
    obtain ⟨g6, rfl, hyp⟩ := hq
    refine q_iinc [some (vr 8), some (vi x1), some (vi (x2 + 1))] 23 dX8_settleBorn_20 rfl rfl (Nat.le_of_ble_eq_true rfl) rfl rfl ?_
    refine ex_goto 2 dX8_settleBorn_23 (by decide) ?_
    exact hyp
set_option maxRecDepth 4000 in
theorem uJ6_bitCount_0f7a4 {P : Int → GS → Prop} (g0 : GS) (x0 : Int) (hyp : P (b_and (((b_and (((b_and (x0 - (b_and (b_ushr x0 1) 1431655765)) 858993459) + (b_and (b_ushr (x0 - (b_and (b_ushr x0 1) 1431655765)) 2) 858993459)) + (b_ushr ((b_and (x0 - (b_and (b_ushr x0 1) 1431655765)) 858993459) + (b_and (b_ushr (x0 - (b_and (b_ushr x0 1) 1431655765)) 2) 858993459)) 4)) 252645135) + (b_ushr (b_and (((b_and (x0 - (b_and (b_ushr x0 1) 1431655765)) 858993459) + (b_and (b_ushr (x0 - (b_and (b_ushr x0 1) 1431655765)) 2) 858993459)) + (b_ushr ((b_and (x0 - (b_and (b_ushr x0 1) 1431655765)) 858993459) + (b_and (b_ushr (x0 - (b_and (b_ushr x0 1) 1431655765)) 2) 858993459)) 4)) 252645135) 8)) + (b_ushr ((b_and (((b_and (x0 - (b_and (b_ushr x0 1) 1431655765)) 858993459) + (b_and (b_ushr (x0 - (b_and (b_ushr x0 1) 1431655765)) 2) 858993459)) + (b_ushr ((b_and (x0 - (b_and (b_ushr x0 1) 1431655765)) 858993459) + (b_and (b_ushr (x0 - (b_and (b_ushr x0 1) 1431655765)) 2) 858993459)) 4)) 252645135) + (b_ushr (b_and (((b_and (x0 - (b_and (b_ushr x0 1) 1431655765)) 858993459) + (b_and (b_ushr (x0 - (b_and (b_ushr x0 1) 1431655765)) 2) 858993459)) + (b_ushr ((b_and (x0 - (b_and (b_ushr x0 1) 1431655765)) 858993459) + (b_and (b_ushr (x0 - (b_and (b_ushr x0 1) 1431655765)) 2) 858993459)) 4)) 252645135) 8)) 16)) 63) g0) : MXi mJ6_bitCount_0f7a4 [vi x0] g0 P := by
  refine met_of_ex (by decide +kernel) (Nat.le_of_ble_eq_true rfl) ?_
  show EX mJ6_bitCount_0f7a4 0 [some (vi x0)] [] (hX g0) (0, 0) _
  refine ex_iload_n 1 dJ6_bitCount_0f7a4_0 rfl rfl ?_
  refine ex_iload_n 2 dJ6_bitCount_0f7a4_1 rfl rfl ?_
  refine ex_iconst 3 dJ6_bitCount_0f7a4_2 rfl ?_
  refine ex_iushr 4 dJ6_bitCount_0f7a4_3 rfl ?_
  refine ex_ldcw (n := 1431655765) 7 dJ6_bitCount_0f7a4_4 rfl (wt4 60 rfl rfl) ?_
  refine ex_iand 8 dJ6_bitCount_0f7a4_7 rfl ?_
  refine ex_isub 9 dJ6_bitCount_0f7a4_8 rfl ?_
  refine q_istore_n [some (vi (x0 - (b_and (b_ushr x0 1) 1431655765)))] 10 dJ6_bitCount_0f7a4_9 rfl (Nat.le_of_ble_eq_true rfl) rfl rfl ?_
  refine ex_iload_n 11 dJ6_bitCount_0f7a4_10 rfl rfl ?_
  refine ex_ldcw (n := 858993459) 14 dJ6_bitCount_0f7a4_11 rfl (wt4 61 rfl rfl) ?_
  refine ex_iand 15 dJ6_bitCount_0f7a4_14 rfl ?_
  refine ex_iload_n 16 dJ6_bitCount_0f7a4_15 rfl rfl ?_
  refine ex_iconst 17 dJ6_bitCount_0f7a4_16 rfl ?_
  refine ex_iushr 18 dJ6_bitCount_0f7a4_17 rfl ?_
  refine ex_ldcw (n := 858993459) 21 dJ6_bitCount_0f7a4_18 rfl (wt4 61 rfl rfl) ?_
  refine ex_iand 22 dJ6_bitCount_0f7a4_21 rfl ?_
  refine ex_iadd 23 dJ6_bitCount_0f7a4_22 rfl ?_
  refine q_istore_n [some (vi ((b_and (x0 - (b_and (b_ushr x0 1) 1431655765)) 858993459) + (b_and (b_ushr (x0 - (b_and (b_ushr x0 1) 1431655765)) 2) 858993459)))] 24 dJ6_bitCount_0f7a4_23 rfl (Nat.le_of_ble_eq_true rfl) rfl rfl ?_
  refine ex_iload_n 25 dJ6_bitCount_0f7a4_24 rfl rfl ?_
  refine ex_iload_n 26 dJ6_bitCount_0f7a4_25 rfl rfl ?_
  refine ex_iconst 27 dJ6_bitCount_0f7a4_26 rfl ?_
  refine ex_iushr 28 dJ6_bitCount_0f7a4_27 rfl ?_
  refine ex_iadd 29 dJ6_bitCount_0f7a4_28 rfl ?_
  refine ex_ldcw (n := 252645135) 32 dJ6_bitCount_0f7a4_29 rfl (wt4 62 rfl rfl) ?_
  refine ex_iand 33 dJ6_bitCount_0f7a4_32 rfl ?_
  refine q_istore_n [some (vi (b_and (((b_and (x0 - (b_and (b_ushr x0 1) 1431655765)) 858993459) + (b_and (b_ushr (x0 - (b_and (b_ushr x0 1) 1431655765)) 2) 858993459)) + (b_ushr ((b_and (x0 - (b_and (b_ushr x0 1) 1431655765)) 858993459) + (b_and (b_ushr (x0 - (b_and (b_ushr x0 1) 1431655765)) 2) 858993459)) 4)) 252645135))] 34 dJ6_bitCount_0f7a4_33 rfl (Nat.le_of_ble_eq_true rfl) rfl rfl ?_
  refine ex_iload_n 35 dJ6_bitCount_0f7a4_34 rfl rfl ?_
  refine ex_iload_n 36 dJ6_bitCount_0f7a4_35 rfl rfl ?_
  refine ex_bipush 38 dJ6_bitCount_0f7a4_36 rfl ⟨by decide, by decide⟩ ?_
  refine ex_iushr 39 dJ6_bitCount_0f7a4_38 rfl ?_
  refine ex_iadd 40 dJ6_bitCount_0f7a4_39 rfl ?_
  refine q_istore_n [some (vi ((b_and (((b_and (x0 - (b_and (b_ushr x0 1) 1431655765)) 858993459) + (b_and (b_ushr (x0 - (b_and (b_ushr x0 1) 1431655765)) 2) 858993459)) + (b_ushr ((b_and (x0 - (b_and (b_ushr x0 1) 1431655765)) 858993459) + (b_and (b_ushr (x0 - (b_and (b_ushr x0 1) 1431655765)) 2) 858993459)) 4)) 252645135) + (b_ushr (b_and (((b_and (x0 - (b_and (b_ushr x0 1) 1431655765)) 858993459) + (b_and (b_ushr (x0 - (b_and (b_ushr x0 1) 1431655765)) 2) 858993459)) + (b_ushr ((b_and (x0 - (b_and (b_ushr x0 1) 1431655765)) 858993459) + (b_and (b_ushr (x0 - (b_and (b_ushr x0 1) 1431655765)) 2) 858993459)) 4)) 252645135) 8)))] 41 dJ6_bitCount_0f7a4_40 rfl (Nat.le_of_ble_eq_true rfl) rfl rfl ?_
  refine ex_iload_n 42 dJ6_bitCount_0f7a4_41 rfl rfl ?_
  refine ex_iload_n 43 dJ6_bitCount_0f7a4_42 rfl rfl ?_
  refine ex_bipush 45 dJ6_bitCount_0f7a4_43 rfl ⟨by decide, by decide⟩ ?_
  refine ex_iushr 46 dJ6_bitCount_0f7a4_45 rfl ?_
  refine ex_iadd 47 dJ6_bitCount_0f7a4_46 rfl ?_
  refine q_istore_n [some (vi (((b_and (((b_and (x0 - (b_and (b_ushr x0 1) 1431655765)) 858993459) + (b_and (b_ushr (x0 - (b_and (b_ushr x0 1) 1431655765)) 2) 858993459)) + (b_ushr ((b_and (x0 - (b_and (b_ushr x0 1) 1431655765)) 858993459) + (b_and (b_ushr (x0 - (b_and (b_ushr x0 1) 1431655765)) 2) 858993459)) 4)) 252645135) + (b_ushr (b_and (((b_and (x0 - (b_and (b_ushr x0 1) 1431655765)) 858993459) + (b_and (b_ushr (x0 - (b_and (b_ushr x0 1) 1431655765)) 2) 858993459)) + (b_ushr ((b_and (x0 - (b_and (b_ushr x0 1) 1431655765)) 858993459) + (b_and (b_ushr (x0 - (b_and (b_ushr x0 1) 1431655765)) 2) 858993459)) 4)) 252645135) 8)) + (b_ushr ((b_and (((b_and (x0 - (b_and (b_ushr x0 1) 1431655765)) 858993459) + (b_and (b_ushr (x0 - (b_and (b_ushr x0 1) 1431655765)) 2) 858993459)) + (b_ushr ((b_and (x0 - (b_and (b_ushr x0 1) 1431655765)) 858993459) + (b_and (b_ushr (x0 - (b_and (b_ushr x0 1) 1431655765)) 2) 858993459)) 4)) 252645135) + (b_ushr (b_and (((b_and (x0 - (b_and (b_ushr x0 1) 1431655765)) 858993459) + (b_and (b_ushr (x0 - (b_and (b_ushr x0 1) 1431655765)) 2) 858993459)) + (b_ushr ((b_and (x0 - (b_and (b_ushr x0 1) 1431655765)) 858993459) + (b_and (b_ushr (x0 - (b_and (b_ushr x0 1) 1431655765)) 2) 858993459)) 4)) 252645135) 8)) 16)))] 48 dJ6_bitCount_0f7a4_47 rfl (Nat.le_of_ble_eq_true rfl) rfl rfl ?_
  refine ex_iload_n 49 dJ6_bitCount_0f7a4_48 rfl rfl ?_
  refine ex_bipush 51 dJ6_bitCount_0f7a4_49 rfl ⟨by decide, by decide⟩ ?_
  refine ex_iand 52 dJ6_bitCount_0f7a4_51 rfl ?_
  exact ex_iret dJ6_bitCount_0f7a4_52 (Or.inl rfl) ⟨_, rfl, _, rfl, hyp⟩

/-! CONSTRUCTORS: the reference -/
abbrev z0 (t n : Nat) : PH := ([(t, n)], fun _ _ => 0, fun _ _ => none)
def fX10a (h : PH) (L b : Nat) : PH := (pnA (pnA (pnA (pnA (pnA (pnA (pnA (pnA (pnA (pnA (pnA (pnA (pnA (pnA (pnA (pnA (pnA (pnA (pnA (pnA (pnA (pnA h (L) b 1 60) (L + 1) b 3 18) (L + 1 + 1) b 4 18) (L + 1 + 1 + 1) b 5 18) (L + 1 + 1 + 1 + 1) b 6 18) (L + 1 + 1 + 1 + 1 + 1) b 7 144) (L + 1 + 1 + 1 + 1 + 1 + 1) b 8 18) (L + 1 + 1 + 1 + 1 + 1 + 1 + 1) b 9 3) (L + 1 + 1 + 1 + 1 + 1 + 1 + 1 + 1) b 14 18) (L + 1 + 1 + 1 + 1 + 1 + 1 + 1 + 1 + 1) b 15 18) (L + 1 + 1 + 1 + 1 + 1 + 1 + 1 + 1 + 1 + 1) b 16 18) (L + 1 + 1 + 1 + 1 + 1 + 1 + 1 + 1 + 1 + 1 + 1) b 17 18) (L + 1 + 1 + 1 + 1 + 1 + 1 + 1 + 1 + 1 + 1 + 1 + 1) b 18 144) (L + 1 + 1 + 1 + 1 + 1 + 1 + 1 + 1 + 1 + 1 + 1 + 1 + 1) b 19 81) (L + 1 + 1 + 1 + 1 + 1 + 1 + 1 + 1 + 1 + 1 + 1 + 1 + 1 + 1) b 22 7) (L + 1 + 1 + 1 + 1 + 1 + 1 + 1 + 1 + 1 + 1 + 1 + 1 + 1 + 1 + 1) b 23 7) (L + 1 + 1 + 1 + 1 + 1 + 1 + 1 + 1 + 1 + 1 + 1 + 1 + 1 + 1 + 1 + 1) b 24 1024) (L + 1 + 1 + 1 + 1 + 1 + 1 + 1 + 1 + 1 + 1 + 1 + 1 + 1 + 1 + 1 + 1 + 1) b 25 18) (L + 1 + 1 + 1 + 1 + 1 + 1 + 1 + 1 + 1 + 1 + 1 + 1 + 1 + 1 + 1 + 1 + 1 + 1) b 29 18) (L + 1 + 1 + 1 + 1 + 1 + 1 + 1 + 1 + 1 + 1 + 1 + 1 + 1 + 1 + 1 + 1 + 1 + 1 + 1) b 30 18) (L + 1 + 1 + 1 + 1 + 1 + 1 + 1 + 1 + 1 + 1 + 1 + 1 + 1 + 1 + 1 + 1 + 1 + 1 + 1 + 1) b 31 18) (L + 1 + 1 + 1 + 1 + 1 + 1 + 1 + 1 + 1 + 1 + 1 + 1 + 1 + 1 + 1 + 1 + 1 + 1 + 1 + 1 + 1) b 32 18)
def fX10 : PH := px_upI (px_upI (px_upI (fX10a (z0 10 34) 1 0) 8 0 600) 8 1 1) 8 2 40
theorem fX10a_8 : (fX10a (z0 10 34) 1 0).2.2 0 9 = some 8 ∧ (fX10a (z0 10 34) 1 0).1 = TM := by decide +kernel
theorem iX10 : METv mX10_init [vr 0] (z0 10 34) (22, 1722) (fun h1 => h1 = fX10) := by
  refine met_of_ex (by decide +kernel) (Nat.le_of_ble_eq_true rfl) ?_
  show EX mX10_init 0 [some (vr 0)] [] (z0 10 34) (22, 1722) _
  have hO : OB (z0 10 34) 10 0 := ⟨34, rfl⟩
  have hL : (z0 10 34).1.length = 1 := rfl
  refine ex_aload_n 1 dX10_init_0 rfl rfl ?_
  refine ex_objInit 4 dX10_init_1 rfl (wt4 90 rfl rfl) (wt1 24 rfl rfl) (wt1 25 rfl rfl) (Nat.le_of_ble_eq_true rfl) (Nat.le_of_ble_eq_true rfl) ?_
  refine ex_aload_n 5 dX10_init_4 rfl rfl ?_
  refine ex_bipush 7 dX10_init_5 rfl ⟨by decide, by decide⟩ ?_
  refine ex_newa (N := 60) 9 (21, 1662) dX10_init_7 rfl (wt1 43 rfl rfl) rfl (by decide) rfl (fun h1 e1 => ?_)
  subst e1
  refine q_putRF 10 1 12 dX10_init_9 rfl fiX10_7 ff10_1 rfl rfl hO.new (fun h1 e1 => ?_)
  replace e1 := e1.trans (pnA_eq hL)
  subst e1
  refine ex_aload_n 13 dX10_init_12 rfl rfl ?_
  refine ex_bipush 15 dX10_init_13 rfl ⟨by decide, by decide⟩ ?_
  refine ex_newa (N := 18) 17 (20, 1644) dX10_init_15 rfl (wt1 43 rfl rfl) rfl (by decide) rfl (fun h1 e1 => ?_)
  subst e1
  refine q_putRF 10 3 20 dX10_init_17 rfl fiX10_13 ff10_3 rfl rfl (hO.pnA).new (fun h1 e1 => ?_)
  replace e1 := e1.trans (pnA_eq (pnA_len hL))
  subst e1
  refine ex_aload_n 21 dX10_init_20 rfl rfl ?_
  refine ex_bipush 23 dX10_init_21 rfl ⟨by decide, by decide⟩ ?_
  refine ex_newa (N := 18) 25 (19, 1626) dX10_init_23 rfl (wt1 43 rfl rfl) rfl (by decide) rfl (fun h1 e1 => ?_)
  subst e1
  refine q_putRF 10 4 28 dX10_init_25 rfl fiX10_16 ff10_4 rfl rfl ((hO.pnA).pnA).new (fun h1 e1 => ?_)
  replace e1 := e1.trans (pnA_eq (pnA_len (pnA_len hL)))
  subst e1
  refine ex_aload_n 29 dX10_init_28 rfl rfl ?_
  refine ex_bipush 31 dX10_init_29 rfl ⟨by decide, by decide⟩ ?_
  refine ex_newa (N := 18) 33 (18, 1608) dX10_init_31 rfl (wt1 43 rfl rfl) rfl (by decide) rfl (fun h1 e1 => ?_)
  subst e1
  refine q_putRF 10 5 36 dX10_init_33 rfl fiX10_19 ff10_5 rfl rfl (((hO.pnA).pnA).pnA).new (fun h1 e1 => ?_)
  replace e1 := e1.trans (pnA_eq (pnA_len (pnA_len (pnA_len hL))))
  subst e1
  refine ex_aload_n 37 dX10_init_36 rfl rfl ?_
  refine ex_bipush 39 dX10_init_37 rfl ⟨by decide, by decide⟩ ?_
  refine ex_newa (N := 18) 41 (17, 1590) dX10_init_39 rfl (wt1 43 rfl rfl) rfl (by decide) rfl (fun h1 e1 => ?_)
  subst e1
  refine q_putRF 10 6 44 dX10_init_41 rfl fiX10_22 ff10_6 rfl rfl ((((hO.pnA).pnA).pnA).pnA).new (fun h1 e1 => ?_)
  replace e1 := e1.trans (pnA_eq (pnA_len (pnA_len (pnA_len (pnA_len hL)))))
  subst e1
  refine ex_aload_n 45 dX10_init_44 rfl rfl ?_
  refine ex_sipush 48 dX10_init_45 rfl ⟨by decide, by decide⟩ ?_
  refine ex_newa (N := 144) 50 (16, 1446) dX10_init_48 rfl (wt1 43 rfl rfl) rfl (by decide) rfl (fun h1 e1 => ?_)
  subst e1
  refine q_putRF 10 7 53 dX10_init_50 rfl fiX10_25 ff10_7 rfl rfl (((((hO.pnA).pnA).pnA).pnA).pnA).new (fun h1 e1 => ?_)
  replace e1 := e1.trans (pnA_eq (pnA_len (pnA_len (pnA_len (pnA_len (pnA_len hL))))))
  subst e1
  refine ex_aload_n 54 dX10_init_53 rfl rfl ?_
  refine ex_bipush 56 dX10_init_54 rfl ⟨by decide, by decide⟩ ?_
  refine ex_newa (N := 18) 58 (15, 1428) dX10_init_56 rfl (wt1 43 rfl rfl) rfl (by decide) rfl (fun h1 e1 => ?_)
  subst e1
  refine q_putRF 10 8 61 dX10_init_58 rfl fiX10_28 ff10_8 rfl rfl ((((((hO.pnA).pnA).pnA).pnA).pnA).pnA).new (fun h1 e1 => ?_)
  replace e1 := e1.trans (pnA_eq (pnA_len (pnA_len (pnA_len (pnA_len (pnA_len (pnA_len hL)))))))
  subst e1
  refine ex_aload_n 62 dX10_init_61 rfl rfl ?_
  refine ex_iconst 63 dX10_init_62 rfl ?_
  refine ex_newa (N := 3) 65 (14, 1425) dX10_init_63 rfl (wt1 43 rfl rfl) rfl (by decide) rfl (fun h1 e1 => ?_)
  subst e1
  refine q_putRF 10 9 68 dX10_init_65 rfl fiX10_31 ff10_9 rfl rfl (((((((hO.pnA).pnA).pnA).pnA).pnA).pnA).pnA).new (fun h1 e1 => ?_)
  replace e1 := e1.trans (pnA_eq (pnA_len (pnA_len (pnA_len (pnA_len (pnA_len (pnA_len (pnA_len hL))))))))
  subst e1
  refine ex_aload_n 69 dX10_init_68 rfl rfl ?_
  refine ex_bipush 71 dX10_init_69 rfl ⟨by decide, by decide⟩ ?_
  refine ex_newa (N := 18) 73 (13, 1407) dX10_init_71 rfl (wt1 43 rfl rfl) rfl (by decide) rfl (fun h1 e1 => ?_)
  subst e1
  refine q_putRF 10 14 76 dX10_init_73 rfl fiX10_34 ff10_14 rfl rfl ((((((((hO.pnA).pnA).pnA).pnA).pnA).pnA).pnA).pnA).new (fun h1 e1 => ?_)
  replace e1 := e1.trans (pnA_eq (pnA_len (pnA_len (pnA_len (pnA_len (pnA_len (pnA_len (pnA_len (pnA_len hL)))))))))
  subst e1
  refine ex_aload_n 77 dX10_init_76 rfl rfl ?_
  refine ex_bipush 79 dX10_init_77 rfl ⟨by decide, by decide⟩ ?_
  refine ex_newa (N := 18) 81 (12, 1389) dX10_init_79 rfl (wt1 43 rfl rfl) rfl (by decide) rfl (fun h1 e1 => ?_)
  subst e1
  refine q_putRF 10 15 84 dX10_init_81 rfl fiX10_37 ff10_15 rfl rfl (((((((((hO.pnA).pnA).pnA).pnA).pnA).pnA).pnA).pnA).pnA).new (fun h1 e1 => ?_)
  replace e1 := e1.trans (pnA_eq (pnA_len (pnA_len (pnA_len (pnA_len (pnA_len (pnA_len (pnA_len (pnA_len (pnA_len hL))))))))))
  subst e1
  refine ex_aload_n 85 dX10_init_84 rfl rfl ?_
  refine ex_bipush 87 dX10_init_85 rfl ⟨by decide, by decide⟩ ?_
  refine ex_newa (N := 18) 89 (11, 1371) dX10_init_87 rfl (wt1 43 rfl rfl) rfl (by decide) rfl (fun h1 e1 => ?_)
  subst e1
  refine q_putRF 10 16 92 dX10_init_89 rfl fiX10_40 ff10_16 rfl rfl ((((((((((hO.pnA).pnA).pnA).pnA).pnA).pnA).pnA).pnA).pnA).pnA).new (fun h1 e1 => ?_)
  replace e1 := e1.trans (pnA_eq (pnA_len (pnA_len (pnA_len (pnA_len (pnA_len (pnA_len (pnA_len (pnA_len (pnA_len (pnA_len hL)))))))))))
  subst e1
  refine ex_aload_n 93 dX10_init_92 rfl rfl ?_
  refine ex_bipush 95 dX10_init_93 rfl ⟨by decide, by decide⟩ ?_
  refine ex_newa (N := 18) 97 (10, 1353) dX10_init_95 rfl (wt1 43 rfl rfl) rfl (by decide) rfl (fun h1 e1 => ?_)
  subst e1
  refine q_putRF 10 17 100 dX10_init_97 rfl fiX10_43 ff10_17 rfl rfl (((((((((((hO.pnA).pnA).pnA).pnA).pnA).pnA).pnA).pnA).pnA).pnA).pnA).new (fun h1 e1 => ?_)
  replace e1 := e1.trans (pnA_eq (pnA_len (pnA_len (pnA_len (pnA_len (pnA_len (pnA_len (pnA_len (pnA_len (pnA_len (pnA_len (pnA_len hL))))))))))))
  subst e1
  refine ex_aload_n 101 dX10_init_100 rfl rfl ?_
  refine ex_sipush 104 dX10_init_101 rfl ⟨by decide, by decide⟩ ?_
  refine ex_newa (N := 144) 106 (9, 1209) dX10_init_104 rfl (wt1 43 rfl rfl) rfl (by decide) rfl (fun h1 e1 => ?_)
  subst e1
  refine q_putRF 10 18 109 dX10_init_106 rfl fiX10_46 ff10_18 rfl rfl ((((((((((((hO.pnA).pnA).pnA).pnA).pnA).pnA).pnA).pnA).pnA).pnA).pnA).pnA).new (fun h1 e1 => ?_)
  replace e1 := e1.trans (pnA_eq (pnA_len (pnA_len (pnA_len (pnA_len (pnA_len (pnA_len (pnA_len (pnA_len (pnA_len (pnA_len (pnA_len (pnA_len hL)))))))))))))
  subst e1
  refine ex_aload_n 110 dX10_init_109 rfl rfl ?_
  refine ex_bipush 112 dX10_init_110 rfl ⟨by decide, by decide⟩ ?_
  refine ex_newa (N := 81) 114 (8, 1128) dX10_init_112 rfl (wt1 43 rfl rfl) rfl (by decide) rfl (fun h1 e1 => ?_)
  subst e1
  refine q_putRF 10 19 117 dX10_init_114 rfl fiX10_49 ff10_19 rfl rfl (((((((((((((hO.pnA).pnA).pnA).pnA).pnA).pnA).pnA).pnA).pnA).pnA).pnA).pnA).pnA).new (fun h1 e1 => ?_)
  replace e1 := e1.trans (pnA_eq (pnA_len (pnA_len (pnA_len (pnA_len (pnA_len (pnA_len (pnA_len (pnA_len (pnA_len (pnA_len (pnA_len (pnA_len (pnA_len hL))))))))))))))
  subst e1
  refine ex_aload_n 118 dX10_init_117 rfl rfl ?_
  refine ex_bipush 120 dX10_init_118 rfl ⟨by decide, by decide⟩ ?_
  refine ex_newa (N := 7) 122 (7, 1121) dX10_init_120 rfl (wt1 43 rfl rfl) rfl (by decide) rfl (fun h1 e1 => ?_)
  subst e1
  refine q_putRF 10 22 125 dX10_init_122 rfl fiX10_52 ff10_22 rfl rfl ((((((((((((((hO.pnA).pnA).pnA).pnA).pnA).pnA).pnA).pnA).pnA).pnA).pnA).pnA).pnA).pnA).new (fun h1 e1 => ?_)
  replace e1 := e1.trans (pnA_eq (pnA_len (pnA_len (pnA_len (pnA_len (pnA_len (pnA_len (pnA_len (pnA_len (pnA_len (pnA_len (pnA_len (pnA_len (pnA_len (pnA_len hL)))))))))))))))
  subst e1
  refine ex_aload_n 126 dX10_init_125 rfl rfl ?_
  refine ex_bipush 128 dX10_init_126 rfl ⟨by decide, by decide⟩ ?_
  refine ex_newa (N := 7) 130 (6, 1114) dX10_init_128 rfl (wt1 43 rfl rfl) rfl (by decide) rfl (fun h1 e1 => ?_)
  subst e1
  refine q_putRF 10 23 133 dX10_init_130 rfl fiX10_55 ff10_23 rfl rfl (((((((((((((((hO.pnA).pnA).pnA).pnA).pnA).pnA).pnA).pnA).pnA).pnA).pnA).pnA).pnA).pnA).pnA).new (fun h1 e1 => ?_)
  replace e1 := e1.trans (pnA_eq (pnA_len (pnA_len (pnA_len (pnA_len (pnA_len (pnA_len (pnA_len (pnA_len (pnA_len (pnA_len (pnA_len (pnA_len (pnA_len (pnA_len (pnA_len hL))))))))))))))))
  subst e1
  refine ex_aload_n 134 dX10_init_133 rfl rfl ?_
  refine ex_sipush 137 dX10_init_134 rfl ⟨by decide, by decide⟩ ?_
  refine ex_newa (N := 1024) 139 (5, 90) dX10_init_137 rfl (wt1 43 rfl rfl) rfl (by decide) rfl (fun h1 e1 => ?_)
  subst e1
  refine q_putRF 10 24 142 dX10_init_139 rfl fiX10_58 ff10_24 rfl rfl ((((((((((((((((hO.pnA).pnA).pnA).pnA).pnA).pnA).pnA).pnA).pnA).pnA).pnA).pnA).pnA).pnA).pnA).pnA).new (fun h1 e1 => ?_)
  replace e1 := e1.trans (pnA_eq (pnA_len (pnA_len (pnA_len (pnA_len (pnA_len (pnA_len (pnA_len (pnA_len (pnA_len (pnA_len (pnA_len (pnA_len (pnA_len (pnA_len (pnA_len (pnA_len hL)))))))))))))))))
  subst e1
  refine ex_aload_n 143 dX10_init_142 rfl rfl ?_
  refine ex_bipush 145 dX10_init_143 rfl ⟨by decide, by decide⟩ ?_
  refine ex_newa (N := 18) 147 (4, 72) dX10_init_145 rfl (wt1 43 rfl rfl) rfl (by decide) rfl (fun h1 e1 => ?_)
  subst e1
  refine q_putRF 10 25 150 dX10_init_147 rfl fiX10_61 ff10_25 rfl rfl (((((((((((((((((hO.pnA).pnA).pnA).pnA).pnA).pnA).pnA).pnA).pnA).pnA).pnA).pnA).pnA).pnA).pnA).pnA).pnA).new (fun h1 e1 => ?_)
  replace e1 := e1.trans (pnA_eq (pnA_len (pnA_len (pnA_len (pnA_len (pnA_len (pnA_len (pnA_len (pnA_len (pnA_len (pnA_len (pnA_len (pnA_len (pnA_len (pnA_len (pnA_len (pnA_len (pnA_len hL))))))))))))))))))
  subst e1
  refine ex_aload_n 151 dX10_init_150 rfl rfl ?_
  refine ex_bipush 153 dX10_init_151 rfl ⟨by decide, by decide⟩ ?_
  refine ex_newa (N := 18) 155 (3, 54) dX10_init_153 rfl (wt1 43 rfl rfl) rfl (by decide) rfl (fun h1 e1 => ?_)
  subst e1
  refine q_putRF 10 29 158 dX10_init_155 rfl fiX10_64 ff10_29 rfl rfl ((((((((((((((((((hO.pnA).pnA).pnA).pnA).pnA).pnA).pnA).pnA).pnA).pnA).pnA).pnA).pnA).pnA).pnA).pnA).pnA).pnA).new (fun h1 e1 => ?_)
  replace e1 := e1.trans (pnA_eq (pnA_len (pnA_len (pnA_len (pnA_len (pnA_len (pnA_len (pnA_len (pnA_len (pnA_len (pnA_len (pnA_len (pnA_len (pnA_len (pnA_len (pnA_len (pnA_len (pnA_len (pnA_len hL)))))))))))))))))))
  subst e1
  refine ex_aload_n 159 dX10_init_158 rfl rfl ?_
  refine ex_bipush 161 dX10_init_159 rfl ⟨by decide, by decide⟩ ?_
  refine ex_newa (N := 18) 163 (2, 36) dX10_init_161 rfl (wt1 43 rfl rfl) rfl (by decide) rfl (fun h1 e1 => ?_)
  subst e1
  refine q_putRF 10 30 166 dX10_init_163 rfl fiX10_67 ff10_30 rfl rfl (((((((((((((((((((hO.pnA).pnA).pnA).pnA).pnA).pnA).pnA).pnA).pnA).pnA).pnA).pnA).pnA).pnA).pnA).pnA).pnA).pnA).pnA).new (fun h1 e1 => ?_)
  replace e1 := e1.trans (pnA_eq (pnA_len (pnA_len (pnA_len (pnA_len (pnA_len (pnA_len (pnA_len (pnA_len (pnA_len (pnA_len (pnA_len (pnA_len (pnA_len (pnA_len (pnA_len (pnA_len (pnA_len (pnA_len (pnA_len hL))))))))))))))))))))
  subst e1
  refine ex_aload_n 167 dX10_init_166 rfl rfl ?_
  refine ex_bipush 169 dX10_init_167 rfl ⟨by decide, by decide⟩ ?_
  refine ex_newa (N := 18) 171 (1, 18) dX10_init_169 rfl (wt1 43 rfl rfl) rfl (by decide) rfl (fun h1 e1 => ?_)
  subst e1
  refine q_putRF 10 31 174 dX10_init_171 rfl fiX10_70 ff10_31 rfl rfl ((((((((((((((((((((hO.pnA).pnA).pnA).pnA).pnA).pnA).pnA).pnA).pnA).pnA).pnA).pnA).pnA).pnA).pnA).pnA).pnA).pnA).pnA).pnA).new (fun h1 e1 => ?_)
  replace e1 := e1.trans (pnA_eq (pnA_len (pnA_len (pnA_len (pnA_len (pnA_len (pnA_len (pnA_len (pnA_len (pnA_len (pnA_len (pnA_len (pnA_len (pnA_len (pnA_len (pnA_len (pnA_len (pnA_len (pnA_len (pnA_len (pnA_len hL)))))))))))))))))))))
  subst e1
  refine ex_aload_n 175 dX10_init_174 rfl rfl ?_
  refine ex_bipush 177 dX10_init_175 rfl ⟨by decide, by decide⟩ ?_
  refine ex_newa (N := 18) 179 (0, 0) dX10_init_177 rfl (wt1 43 rfl rfl) rfl (by decide) rfl (fun h1 e1 => ?_)
  subst e1
  refine q_putRF 10 32 182 dX10_init_179 rfl fiX10_73 ff10_32 rfl rfl (((((((((((((((((((((hO.pnA).pnA).pnA).pnA).pnA).pnA).pnA).pnA).pnA).pnA).pnA).pnA).pnA).pnA).pnA).pnA).pnA).pnA).pnA).pnA).pnA).new (fun h1 e1 => ?_)
  replace e1 := e1.trans (pnA_eq (pnA_len (pnA_len (pnA_len (pnA_len (pnA_len (pnA_len (pnA_len (pnA_len (pnA_len (pnA_len (pnA_len (pnA_len (pnA_len (pnA_len (pnA_len (pnA_len (pnA_len (pnA_len (pnA_len (pnA_len (pnA_len hL))))))))))))))))))))))
  subst e1
  show EX mX10_init 182 [some (vr 0)] [] (fX10a (z0 10 34) 1 0) (0, 0) _
  obtain ⟨e8, eT⟩ := fX10a_8
  generalize hg : fX10a (z0 10 34) 1 0 = g at e8 eT ⊢
  refine ex_aload_n 183 dX10_init_182 rfl rfl ?_
  refine q_getR 10 9 186 dX10_init_183 rfl fiX10_31 rfl ⟨34, by show g.1[0]? = _; rw [eT]; rfl⟩ e8 ?_
  refine ex_iconst 187 dX10_init_186 rfl ?_
  refine ex_sipush 190 dX10_init_187 rfl ⟨by decide, by decide⟩ ?_
  refine ex_iast 191 dX10_init_190 rfl ⟨3, by show g.1[8]? = _; rw [eT]; rfl, by decide, by decide, by decide⟩ (fun h1 e1 => ?_)
  subst e1
  refine ex_aload_n 192 dX10_init_191 rfl rfl ?_
  refine q_getR 10 9 195 dX10_init_192 rfl fiX10_31 rfl ⟨34, by show g.1[0]? = _; rw [eT]; rfl⟩ e8 ?_
  refine ex_iconst 196 dX10_init_195 rfl ?_
  refine ex_iconst 197 dX10_init_196 rfl ?_
  refine ex_iast 198 dX10_init_197 rfl ⟨3, by show g.1[8]? = _; rw [eT]; rfl, by decide, by decide, by decide⟩ (fun h1 e1 => ?_)
  subst e1
  refine ex_aload_n 199 dX10_init_198 rfl rfl ?_
  refine q_getR 10 9 202 dX10_init_199 rfl fiX10_31 rfl ⟨34, by show g.1[0]? = _; rw [eT]; rfl⟩ e8 ?_
  refine ex_iconst 203 dX10_init_202 rfl ?_
  refine ex_bipush 205 dX10_init_203 rfl ⟨by decide, by decide⟩ ?_
  refine ex_iast 206 dX10_init_205 rfl ⟨3, by show g.1[8]? = _; rw [eT]; rfl, by decide, by decide, by decide⟩ (fun h1 e1 => ?_)
  subst e1
  exact ex_vret dX10_init_206 rfl ⟨rfl, by rw [← hg]; rfl⟩

set_option maxRecDepth 4000 in
theorem uX10_within {P : Int → MS → Prop} (m0 : MS) (x0 : Int) (x1 : Int) (x2 : Int) (hyp : rng x0 ∧ rng x1 ∧ (x0 < x1 → (P 0 m0)) ∧ (x1 ≤ x0 → (rng x2 ∧ (x2 < x0 → (P 0 m0)) ∧ (x0 ≤ x2 → (P 1 m0))))) : MMi mX10_within [vi x0, vi x1, vi x2] m0 P := by
  refine met_of_ex (by decide +kernel) (Nat.le_of_ble_eq_true rfl) ?_
  show EX mX10_within 0 [some (vi x0), some (vi x1), some (vi x2)] [] (hM m0) (0, 0) _
  refine ex_iload_n 1 dX10_within_0 rfl rfl ?_
  refine ex_iload_n 2 dX10_within_1 rfl rfl ?_
  obtain ⟨o1, hyp⟩ := hyp
  obtain ⟨o2, hyp⟩ := hyp
  obtain ⟨ht, hf⟩ := hyp
  refine ex_icmp_lt 14 5 dX10_within_2 (by decide) rfl o1 o2 (fun c5 => ?_) (fun c5 => ?_)
  · have hyp := ht c5
    clear ht hf
    refine ex_iconst 15 dX10_within_14 rfl ?_
    exact ex_iret dX10_within_15 (Or.inr ⟨rfl, Or.inl rfl⟩) ⟨_, rfl, _, rfl, hyp⟩
  · have hyp := hf c5
    clear ht hf
    refine ex_iload_n 6 dX10_within_5 rfl rfl ?_
    refine ex_iload_n 7 dX10_within_6 rfl rfl ?_
    obtain ⟨o3, hyp⟩ := hyp
    obtain ⟨ht, hf⟩ := hyp
    refine ex_icmp_gt 14 10 dX10_within_7 (by decide) rfl o1 o3 (fun c4 => ?_) (fun c4 => ?_)
    · have hyp := ht c4
      clear ht hf
      refine ex_iconst 15 dX10_within_14 rfl ?_
      exact ex_iret dX10_within_15 (Or.inr ⟨rfl, Or.inl rfl⟩) ⟨_, rfl, _, rfl, hyp⟩
    · have hyp := hf c4
      clear ht hf
      refine ex_iconst 11 dX10_within_10 rfl ?_
      refine ex_goto 15 dX10_within_11 (by decide) ?_
      exact ex_iret dX10_within_15 (Or.inr ⟨rfl, Or.inr rfl⟩) ⟨_, rfl, _, rfl, hyp⟩
set_option maxRecDepth 4000 in
theorem uX10_letter {P : Int → MS → Prop} (m0 : MS) (x1 : Int) (hyp : MMi mX10_within [vi x1, vi 32, vi 126] m0 (fun y2 m1 => rng y2 ∧ (¬ y2 = 0 → (rng (m1 0 0) ∧ (¬ m1 0 0 = 60 → (0 ≤ m1 0 0 ∧ m1 0 0 < 60 ∧ ∀ m8 : MS, m8 = mI m1 1 (m1 0 0).toNat x1 → (∀ m11 : MS, m11 = mI m8 0 0 ((m8 0 0) + 1) → (P (m11 0 0) m11)))) ∧ (m1 0 0 = 60 → (P (-104) m1)))) ∧ (y2 = 0 → (P (-102) m1)))) : MMi mX10_letter [vr 0, vi x1] m0 P := by
  refine met_of_ex (by decide +kernel) (Nat.le_of_ble_eq_true rfl) ?_
  show EX mX10_letter 0 [some (vr 0), some (vi x1)] [] (hM m0) (0, 0) _
  refine ex_iload_n 1 dX10_letter_0 rfl rfl ?_
  refine ex_bipush 3 dX10_letter_1 rfl ⟨by decide, by decide⟩ ?_
  refine ex_bipush 5 dX10_letter_3 rfl ⟨by decide, by decide⟩ ?_
  refine s_callSi [vi x1, vi 32, vi 126] 8 dX10_letter_5 rfl cvX10_76 rfl rfl ⟨Nat.le_of_ble_eq_true rfl, Nat.le_of_ble_eq_true rfl⟩ (Nat.le_of_ble_eq_true rfl) hyp (fun y2 h1 hq => ?_)
  obtain ⟨m1, rfl, hyp⟩ := hq
  obtain ⟨o3, hyp⟩ := hyp
  obtain ⟨ht, hf⟩ := hyp
  refine ex_if_ne 14 11 dX10_letter_8 (by decide) rfl o3 (fun c14 => ?_) (fun c14 => ?_)
  · have hyp := ht c14
    clear ht hf
    refine ex_aload_n 15 dX10_letter_14 rfl rfl ?_
    refine q_getI 10 0 18 dX10_letter_15 rfl fiX10_80 (Or.inl rfl) ⟨_, rfl⟩ ?_
    refine ex_bipush 20 dX10_letter_18 rfl ⟨by decide, by decide⟩ ?_
    obtain ⟨o4, hyp⟩ := hyp
    obtain ⟨ht, hf⟩ := hyp
    refine ex_icmp_ne 26 23 dX10_letter_20 (by decide) rfl o4 ⟨by decide, by decide⟩ (fun c13 => ?_) (fun c13 => ?_)
    · have hyp := ht c13
      clear ht hf
      refine ex_aload_n 27 dX10_letter_26 rfl rfl ?_
      refine q_getR (a := 1) 10 1 30 dX10_letter_27 rfl fiX10_7 rfl ⟨_, rfl⟩ rfl ?_
      refine ex_aload_n 31 dX10_letter_30 rfl rfl ?_
      refine q_getI 10 0 34 dX10_letter_31 rfl fiX10_80 (Or.inl rfl) ⟨_, rfl⟩ ?_
      refine ex_iload_n 35 dX10_letter_34 rfl rfl ?_
      obtain ⟨o5, hyp⟩ := hyp
      obtain ⟨o6, hyp⟩ := hyp
      refine ex_iast 36 dX10_letter_35 rfl (ai_of (n := 60) rfl o5 o6 (by decide)) (fun h1 e7 => ?_)
      obtain ⟨m8, eg9⟩ : ∃ z : MS, z = mI m1 1 (m1 0 0).toNat x1 := ⟨_, rfl⟩
      have hyp := hyp m8 eg9
      obtain rfl : h1 = hM m8 := by rw [e7, eg9]; exact rfl
      clear e7
      refine ex_aload_n 37 dX10_letter_36 rfl rfl ?_
      refine ex_dup 38 dX10_letter_37 rfl rfl ?_
      refine q_getI 10 0 41 dX10_letter_38 rfl fiX10_80 (Or.inl rfl) ⟨_, rfl⟩ ?_
      refine ex_iconst 42 dX10_letter_41 rfl ?_
      refine ex_iadd 43 dX10_letter_42 rfl ?_
      refine q_putI 10 0 46 dX10_letter_43 rfl fiX10_80 ff10_0 rfl ⟨_, rfl⟩ (fun h1 e10 => ?_)
      obtain ⟨m11, eg12⟩ : ∃ z : MS, z = mI m8 0 0 ((m8 0 0) + 1) := ⟨_, rfl⟩
      have hyp := hyp m11 eg12
      obtain rfl : h1 = hM m11 := by rw [e10, eg12]; exact rfl
      clear e10
      refine ex_aload_n 47 dX10_letter_46 rfl rfl ?_
      refine q_getI 10 0 50 dX10_letter_47 rfl fiX10_80 (Or.inl rfl) ⟨_, rfl⟩ ?_
      exact ex_iret dX10_letter_50 (Or.inl rfl) ⟨_, rfl, _, rfl, hyp⟩
    · have hyp := hf c13
      clear ht hf
      refine ex_bipush 25 dX10_letter_23 rfl ⟨by decide, by decide⟩ ?_
      exact ex_iret dX10_letter_25 (Or.inl rfl) ⟨_, rfl, _, rfl, hyp⟩
  · have hyp := hf c14
    clear ht hf
    refine ex_bipush 13 dX10_letter_11 rfl ⟨by decide, by decide⟩ ?_
    exact ex_iret dX10_letter_13 (Or.inl rfl) ⟨_, rfl, _, rfl, hyp⟩
set_option maxRecDepth 4000 in
theorem uX10_blank {P : Int → MS → Prop} (m0 : MS)  (hyp : ∀ m2 : MS, m2 = mI m0 0 0 0 → (P (m0 0 0) m2)) : MMi mX10_blank [vr 0] m0 P := by
  refine met_of_ex (by decide +kernel) (Nat.le_of_ble_eq_true rfl) ?_
  show EX mX10_blank 0 [some (vr 0), none] [] (hM m0) (0, 0) _
  refine ex_aload_n 1 dX10_blank_0 rfl rfl ?_
  refine q_getI 10 0 4 dX10_blank_1 rfl fiX10_80 (Or.inl rfl) ⟨_, rfl⟩ ?_
  refine q_istore_n [some (vr 0), some (vi (m0 0 0))] 5 dX10_blank_4 rfl (Nat.le_of_ble_eq_true rfl) rfl rfl ?_
  refine ex_aload_n 6 dX10_blank_5 rfl rfl ?_
  refine ex_iconst 7 dX10_blank_6 rfl ?_
  refine q_putI 10 0 10 dX10_blank_7 rfl fiX10_80 ff10_0 rfl ⟨_, rfl⟩ (fun h1 e1 => ?_)
  obtain ⟨m2, eg3⟩ : ∃ z : MS, z = mI m0 0 0 0 := ⟨_, rfl⟩
  have hyp := hyp m2 eg3
  obtain rfl : h1 = hM m2 := by rw [e1, eg3]; exact rfl
  clear e1
  refine ex_iload_n 11 dX10_blank_10 rfl rfl ?_
  exact ex_iret dX10_blank_11 (Or.inl rfl) ⟨_, rfl, _, rfl, hyp⟩
set_option maxRecDepth 4000 in
theorem uX10_goes {P : Int → MS → Prop} (m0 : MS) (x1 : Int) (x2 : Int) (hyp : rng x1 ∧ (x1 = 0 → (∀ m3 : MS, m3 = mI m0 0 12 (m0 0 12) → ((x1 = 0 ∨ x1 = 1) ∧ P x1 m3))) ∧ (¬ x1 = 0 → (∀ m6 : MS, m6 = mI m0 0 12 x2 → ((x1 = 0 ∨ x1 = 1) ∧ P x1 m6)))) : MMi mX10_goes [vr 0, vi x1, vi x2] m0 P := by
  refine met_of_ex (by decide +kernel) (Nat.le_of_ble_eq_true rfl) ?_
  show EX mX10_goes 0 [some (vr 0), some (vi x1), some (vi x2)] [] (hM m0) (0, 0) _
  refine ex_aload_n 1 dX10_goes_0 rfl rfl ?_
  refine ex_iload_n 2 dX10_goes_1 rfl rfl ?_
  obtain ⟨o1, hyp⟩ := hyp
  obtain ⟨ht, hf⟩ := hyp
  refine ex_if_eq 9 5 dX10_goes_2 (by decide) rfl o1 (fun c8 => ?_) (fun c8 => ?_)
  · have hyp := ht c8
    clear ht hf
    refine ex_aload_n 10 dX10_goes_9 rfl rfl ?_
    refine q_getI 10 12 13 dX10_goes_10 rfl fiX10_84 (Or.inl rfl) ⟨_, rfl⟩ ?_
    refine q_putI 10 12 16 dX10_goes_13 rfl fiX10_84 ff10_12 rfl ⟨_, rfl⟩ (fun h1 e2 => ?_)
    obtain ⟨m3, eg4⟩ : ∃ z : MS, z = mI m0 0 12 (m0 0 12) := ⟨_, rfl⟩
    have hyp := hyp m3 eg4
    obtain rfl : h1 = hM m3 := by rw [e2, eg4]; exact rfl
    clear e2
    refine ex_iload_n 17 dX10_goes_16 rfl rfl ?_
    exact ex_iret dX10_goes_17 (Or.inr ⟨rfl, hyp.1⟩) ⟨_, rfl, _, rfl, hyp.2⟩
  · have hyp := hf c8
    clear ht hf
    refine ex_iload_n 6 dX10_goes_5 rfl rfl ?_
    refine ex_goto 13 dX10_goes_6 (by decide) ?_
    refine q_putI 10 12 16 dX10_goes_13 rfl fiX10_84 ff10_12 rfl ⟨_, rfl⟩ (fun h1 e5 => ?_)
    obtain ⟨m6, eg7⟩ : ∃ z : MS, z = mI m0 0 12 x2 := ⟨_, rfl⟩
    have hyp := hyp m6 eg7
    obtain rfl : h1 = hM m6 := by rw [e5, eg7]; exact rfl
    clear e5
    refine ex_iload_n 17 dX10_goes_16 rfl rfl ?_
    exact ex_iret dX10_goes_17 (Or.inr ⟨rfl, hyp.1⟩) ⟨_, rfl, _, rfl, hyp.2⟩
set_option maxRecDepth 4000 in
theorem uX10_takesKind {P : Int → MS → Prop} (m0 : MS) (x1 : Int) (hyp : rng x1 ∧ (x1 = 98 → (YYi mX10_takesKind 18 [some (vr 0), some (vi x1), none] [] m0 P)) ∧ (¬ x1 = 98 → ((x1 = 119 → (YYi mX10_takesKind 18 [some (vr 0), some (vi x1), none] [] m0 P)) ∧ (¬ x1 = 119 → ((¬ x1 = 100 → (MMi mX10_goes [vr 0, vi 0, vi 1] m0 (fun y3 m2 => (y3 = 0 ∨ y3 = 1) ∧ P y3 m2))) ∧ (x1 = 100 → (YYi mX10_takesKind 18 [some (vr 0), some (vi x1), none] [] m0 P))))))) : MMi mX10_takesKind [vr 0, vi x1] m0 P := by
  refine met_of_ex (by decide +kernel) (Nat.le_of_ble_eq_true rfl) ?_
  show EX mX10_takesKind 0 [some (vr 0), some (vi x1), none] [] (hM m0) (0, 0) _
  refine ex_iload_n 1 dX10_takesKind_0 rfl rfl ?_
  refine ex_bipush 3 dX10_takesKind_1 rfl ⟨by decide, by decide⟩ ?_
  obtain ⟨o1, hyp⟩ := hyp
  obtain ⟨ht, hf⟩ := hyp
  refine ex_icmp_eq 18 6 dX10_takesKind_3 (by decide) rfl o1 ⟨by decide, by decide⟩ (fun c6 => ?_) (fun c6 => ?_)
  · have hyp := ht c6
    clear ht hf
    exact hyp
  · have hyp := hf c6
    clear ht hf
    refine ex_iload_n 7 dX10_takesKind_6 rfl rfl ?_
    refine ex_bipush 9 dX10_takesKind_7 rfl ⟨by decide, by decide⟩ ?_
    obtain ⟨ht, hf⟩ := hyp
    refine ex_icmp_eq 18 12 dX10_takesKind_9 (by decide) rfl o1 ⟨by decide, by decide⟩ (fun c5 => ?_) (fun c5 => ?_)
    · have hyp := ht c5
      clear ht hf
      exact hyp
    · have hyp := hf c5
      clear ht hf
      refine ex_iload_n 13 dX10_takesKind_12 rfl rfl ?_
      refine ex_bipush 15 dX10_takesKind_13 rfl ⟨by decide, by decide⟩ ?_
      obtain ⟨ht, hf⟩ := hyp
      refine ex_icmp_ne 22 18 dX10_takesKind_15 (by decide) rfl o1 ⟨by decide, by decide⟩ (fun c4 => ?_) (fun c4 => ?_)
      · have hyp := ht c4
        clear ht hf
        refine ex_iconst 23 dX10_takesKind_22 rfl ?_
        refine q_istore_n [some (vr 0), some (vi x1), some (vi 0)] 24 dX10_takesKind_23 rfl (Nat.le_of_ble_eq_true rfl) rfl rfl ?_
        refine ex_iload_n 25 dX10_takesKind_24 rfl rfl ?_
        refine ex_if_eq 98 28 dX10_takesKind_25 (by decide) rfl ⟨by decide, by decide⟩ (fun _ => ?_) (fun c => absurd c (by decide))
        refine ex_aload_n 99 dX10_takesKind_98 rfl rfl ?_
        refine ex_iload_n 100 dX10_takesKind_99 rfl rfl ?_
        refine ex_iconst 101 dX10_takesKind_100 rfl ?_
        refine s_callVi [vi 0, vi 1] 104 dX10_takesKind_101 rfl cvX10_90 rfl rfl ⟨Nat.le_of_ble_eq_true rfl, Nat.le_of_ble_eq_true rfl⟩ (Nat.le_of_ble_eq_true rfl) ⟨_, rfl⟩ hyp (fun y3 h1 hq => ?_)
        obtain ⟨m2, rfl, hyp⟩ := hq
        exact ex_iret dX10_takesKind_104 (Or.inr ⟨rfl, hyp.1⟩) ⟨_, rfl, _, rfl, hyp.2⟩
      · have hyp := hf c4
        clear ht hf
        exact hyp
set_option maxRecDepth 4000 in
theorem uX10_takesKind_18 {P : Int → MS → Prop} (m0 : MS) (x1 : Int) (hyp : rng x1 ∧ (¬ x1 = 98 → ((¬ x1 = 119 → (0 ≤ m0 0 13 ∧ m0 0 13 < 18 ∧ ∀ m5 : MS, m5 = mI m0 9 (m0 0 13).toNat 2 → (0 ≤ m5 0 13 ∧ m5 0 13 < 18 ∧ ∀ m10 : MS, m10 = mI m5 10 (m5 0 13).toNat 0 → (0 ≤ m10 0 13 ∧ m10 0 13 < 18 ∧ ∀ m15 : MS, m15 = mI m10 11 (m10 0 13).toNat (-1) → (0 ≤ m15 0 13 ∧ m15 0 13 < 18 ∧ ∀ m20 : MS, m20 = mI m15 12 (m15 0 13).toNat 0 → (∀ m23 : MS, m23 = mI m20 0 13 ((m20 0 13) + 1) → (MMi mX10_goes [vr 0, vi 1, vi 1] m23 (fun y26 m25 => (y26 = 0 ∨ y26 = 1) ∧ P y26 m25)))))))) ∧ (x1 = 119 → (0 ≤ m0 0 13 ∧ m0 0 13 < 18 ∧ ∀ m30 : MS, m30 = mI m0 9 (m0 0 13).toNat 1 → (0 ≤ m30 0 13 ∧ m30 0 13 < 18 ∧ ∀ m35 : MS, m35 = mI m30 10 (m30 0 13).toNat 0 → (0 ≤ m35 0 13 ∧ m35 0 13 < 18 ∧ ∀ m40 : MS, m40 = mI m35 11 (m35 0 13).toNat (-1) → (0 ≤ m40 0 13 ∧ m40 0 13 < 18 ∧ ∀ m45 : MS, m45 = mI m40 12 (m40 0 13).toNat 0 → (∀ m48 : MS, m48 = mI m45 0 13 ((m45 0 13) + 1) → (MMi mX10_goes [vr 0, vi 1, vi 1] m48 (fun y51 m50 => (y51 = 0 ∨ y51 = 1) ∧ P y51 m50)))))))))) ∧ (x1 = 98 → (0 ≤ m0 0 13 ∧ m0 0 13 < 18 ∧ ∀ m56 : MS, m56 = mI m0 9 (m0 0 13).toNat 0 → (0 ≤ m56 0 13 ∧ m56 0 13 < 18 ∧ ∀ m61 : MS, m61 = mI m56 10 (m56 0 13).toNat 0 → (0 ≤ m61 0 13 ∧ m61 0 13 < 18 ∧ ∀ m66 : MS, m66 = mI m61 11 (m61 0 13).toNat (-1) → (0 ≤ m66 0 13 ∧ m66 0 13 < 18 ∧ ∀ m71 : MS, m71 = mI m66 12 (m66 0 13).toNat 0 → (∀ m74 : MS, m74 = mI m71 0 13 ((m71 0 13) + 1) → (MMi mX10_goes [vr 0, vi 1, vi 1] m74 (fun y77 m76 => (y77 = 0 ∨ y77 = 1) ∧ P y77 m76))))))))) : YYi mX10_takesKind 18 [some (vr 0), some (vi x1), none] [] m0 P := by
  refine ex_iconst 19 dX10_takesKind_18 rfl ?_
  refine ex_goto 23 dX10_takesKind_19 (by decide) ?_
  refine q_istore_n [some (vr 0), some (vi x1), some (vi 1)] 24 dX10_takesKind_23 rfl (Nat.le_of_ble_eq_true rfl) rfl rfl ?_
  refine ex_iload_n 25 dX10_takesKind_24 rfl rfl ?_
  refine ex_if_eq 98 28 dX10_takesKind_25 (by decide) rfl ⟨by decide, by decide⟩ (fun c => absurd c (by decide)) (fun _ => ?_)
  refine ex_aload_n 29 dX10_takesKind_28 rfl rfl ?_
  refine q_getR (a := 9) 10 14 32 dX10_takesKind_29 rfl fiX10_34 rfl ⟨_, rfl⟩ rfl ?_
  refine ex_aload_n 33 dX10_takesKind_32 rfl rfl ?_
  refine q_getI 10 13 36 dX10_takesKind_33 rfl fiX10_87 (Or.inl rfl) ⟨_, rfl⟩ ?_
  refine ex_iload_n 37 dX10_takesKind_36 rfl rfl ?_
  refine ex_bipush 39 dX10_takesKind_37 rfl ⟨by decide, by decide⟩ ?_
  obtain ⟨o1, hyp⟩ := hyp
  obtain ⟨ht, hf⟩ := hyp
  refine ex_icmp_ne 46 42 dX10_takesKind_39 (by decide) rfl o1 ⟨by decide, by decide⟩ (fun c78 => ?_) (fun c78 => ?_)
  · have hyp := ht c78
    clear ht hf
    refine ex_iload_n 47 dX10_takesKind_46 rfl rfl ?_
    refine ex_bipush 49 dX10_takesKind_47 rfl ⟨by decide, by decide⟩ ?_
    obtain ⟨ht, hf⟩ := hyp
    refine ex_icmp_ne 56 52 dX10_takesKind_49 (by decide) rfl o1 ⟨by decide, by decide⟩ (fun c52 => ?_) (fun c52 => ?_)
    · have hyp := ht c52
      clear ht hf
      refine ex_iconst 57 dX10_takesKind_56 rfl ?_
      obtain ⟨o2, hyp⟩ := hyp
      obtain ⟨o3, hyp⟩ := hyp
      refine ex_iast 58 dX10_takesKind_57 rfl (ai_of (n := 18) rfl o2 o3 (by decide)) (fun h1 e4 => ?_)
      obtain ⟨m5, eg6⟩ : ∃ z : MS, z = mI m0 9 (m0 0 13).toNat 2 := ⟨_, rfl⟩
      have hyp := hyp m5 eg6
      obtain rfl : h1 = hM m5 := by rw [e4, eg6]; exact rfl
      clear e4
      refine ex_aload_n 59 dX10_takesKind_58 rfl rfl ?_
      refine q_getR (a := 10) 10 15 62 dX10_takesKind_59 rfl fiX10_37 rfl ⟨_, rfl⟩ rfl ?_
      refine ex_aload_n 63 dX10_takesKind_62 rfl rfl ?_
      refine q_getI 10 13 66 dX10_takesKind_63 rfl fiX10_87 (Or.inl rfl) ⟨_, rfl⟩ ?_
      refine ex_iconst 67 dX10_takesKind_66 rfl ?_
      obtain ⟨o7, hyp⟩ := hyp
      obtain ⟨o8, hyp⟩ := hyp
      refine ex_iast 68 dX10_takesKind_67 rfl (ai_of (n := 18) rfl o7 o8 (by decide)) (fun h1 e9 => ?_)
      obtain ⟨m10, eg11⟩ : ∃ z : MS, z = mI m5 10 (m5 0 13).toNat 0 := ⟨_, rfl⟩
      have hyp := hyp m10 eg11
      obtain rfl : h1 = hM m10 := by rw [e9, eg11]; exact rfl
      clear e9
      refine ex_aload_n 69 dX10_takesKind_68 rfl rfl ?_
      refine q_getR (a := 11) 10 16 72 dX10_takesKind_69 rfl fiX10_40 rfl ⟨_, rfl⟩ rfl ?_
      refine ex_aload_n 73 dX10_takesKind_72 rfl rfl ?_
      refine q_getI 10 13 76 dX10_takesKind_73 rfl fiX10_87 (Or.inl rfl) ⟨_, rfl⟩ ?_
      refine ex_iconst 77 dX10_takesKind_76 rfl ?_
      obtain ⟨o12, hyp⟩ := hyp
      obtain ⟨o13, hyp⟩ := hyp
      refine ex_iast 78 dX10_takesKind_77 rfl (ai_of (n := 18) rfl o12 o13 (by decide)) (fun h1 e14 => ?_)
      obtain ⟨m15, eg16⟩ : ∃ z : MS, z = mI m10 11 (m10 0 13).toNat (-1) := ⟨_, rfl⟩
      have hyp := hyp m15 eg16
      obtain rfl : h1 = hM m15 := by rw [e14, eg16]; exact rfl
      clear e14
      refine ex_aload_n 79 dX10_takesKind_78 rfl rfl ?_
      refine q_getR (a := 12) 10 17 82 dX10_takesKind_79 rfl fiX10_43 rfl ⟨_, rfl⟩ rfl ?_
      refine ex_aload_n 83 dX10_takesKind_82 rfl rfl ?_
      refine q_getI 10 13 86 dX10_takesKind_83 rfl fiX10_87 (Or.inl rfl) ⟨_, rfl⟩ ?_
      refine ex_iconst 87 dX10_takesKind_86 rfl ?_
      obtain ⟨o17, hyp⟩ := hyp
      obtain ⟨o18, hyp⟩ := hyp
      refine ex_iast 88 dX10_takesKind_87 rfl (ai_of (n := 18) rfl o17 o18 (by decide)) (fun h1 e19 => ?_)
      obtain ⟨m20, eg21⟩ : ∃ z : MS, z = mI m15 12 (m15 0 13).toNat 0 := ⟨_, rfl⟩
      have hyp := hyp m20 eg21
      obtain rfl : h1 = hM m20 := by rw [e19, eg21]; exact rfl
      clear e19
      refine ex_aload_n 89 dX10_takesKind_88 rfl rfl ?_
      refine ex_dup 90 dX10_takesKind_89 rfl rfl ?_
      refine q_getI 10 13 93 dX10_takesKind_90 rfl fiX10_87 (Or.inl rfl) ⟨_, rfl⟩ ?_
      refine ex_iconst 94 dX10_takesKind_93 rfl ?_
      refine ex_iadd 95 dX10_takesKind_94 rfl ?_
      refine q_putI 10 13 98 dX10_takesKind_95 rfl fiX10_87 ff10_13 rfl ⟨_, rfl⟩ (fun h1 e22 => ?_)
      obtain ⟨m23, eg24⟩ : ∃ z : MS, z = mI m20 0 13 ((m20 0 13) + 1) := ⟨_, rfl⟩
      have hyp := hyp m23 eg24
      obtain rfl : h1 = hM m23 := by rw [e22, eg24]; exact rfl
      clear e22
      refine ex_aload_n 99 dX10_takesKind_98 rfl rfl ?_
      refine ex_iload_n 100 dX10_takesKind_99 rfl rfl ?_
      refine ex_iconst 101 dX10_takesKind_100 rfl ?_
      refine s_callVi [vi 1, vi 1] 104 dX10_takesKind_101 rfl cvX10_90 rfl rfl ⟨Nat.le_of_ble_eq_true rfl, Nat.le_of_ble_eq_true rfl⟩ (Nat.le_of_ble_eq_true rfl) ⟨_, rfl⟩ hyp (fun y26 h1 hq => ?_)
      obtain ⟨m25, rfl, hyp⟩ := hq
      exact ex_iret dX10_takesKind_104 (Or.inr ⟨rfl, hyp.1⟩) ⟨_, rfl, _, rfl, hyp.2⟩
    · have hyp := hf c52
      clear ht hf
      refine ex_iconst 53 dX10_takesKind_52 rfl ?_
      refine ex_goto 57 dX10_takesKind_53 (by decide) ?_
      obtain ⟨o27, hyp⟩ := hyp
      obtain ⟨o28, hyp⟩ := hyp
      refine ex_iast 58 dX10_takesKind_57 rfl (ai_of (n := 18) rfl o27 o28 (by decide)) (fun h1 e29 => ?_)
      obtain ⟨m30, eg31⟩ : ∃ z : MS, z = mI m0 9 (m0 0 13).toNat 1 := ⟨_, rfl⟩
      have hyp := hyp m30 eg31
      obtain rfl : h1 = hM m30 := by rw [e29, eg31]; exact rfl
      clear e29
      refine ex_aload_n 59 dX10_takesKind_58 rfl rfl ?_
      refine q_getR (a := 10) 10 15 62 dX10_takesKind_59 rfl fiX10_37 rfl ⟨_, rfl⟩ rfl ?_
      refine ex_aload_n 63 dX10_takesKind_62 rfl rfl ?_
      refine q_getI 10 13 66 dX10_takesKind_63 rfl fiX10_87 (Or.inl rfl) ⟨_, rfl⟩ ?_
      refine ex_iconst 67 dX10_takesKind_66 rfl ?_
      obtain ⟨o32, hyp⟩ := hyp
      obtain ⟨o33, hyp⟩ := hyp
      refine ex_iast 68 dX10_takesKind_67 rfl (ai_of (n := 18) rfl o32 o33 (by decide)) (fun h1 e34 => ?_)
      obtain ⟨m35, eg36⟩ : ∃ z : MS, z = mI m30 10 (m30 0 13).toNat 0 := ⟨_, rfl⟩
      have hyp := hyp m35 eg36
      obtain rfl : h1 = hM m35 := by rw [e34, eg36]; exact rfl
      clear e34
      refine ex_aload_n 69 dX10_takesKind_68 rfl rfl ?_
      refine q_getR (a := 11) 10 16 72 dX10_takesKind_69 rfl fiX10_40 rfl ⟨_, rfl⟩ rfl ?_
      refine ex_aload_n 73 dX10_takesKind_72 rfl rfl ?_
      refine q_getI 10 13 76 dX10_takesKind_73 rfl fiX10_87 (Or.inl rfl) ⟨_, rfl⟩ ?_
      refine ex_iconst 77 dX10_takesKind_76 rfl ?_
      obtain ⟨o37, hyp⟩ := hyp
      obtain ⟨o38, hyp⟩ := hyp
      refine ex_iast 78 dX10_takesKind_77 rfl (ai_of (n := 18) rfl o37 o38 (by decide)) (fun h1 e39 => ?_)
      obtain ⟨m40, eg41⟩ : ∃ z : MS, z = mI m35 11 (m35 0 13).toNat (-1) := ⟨_, rfl⟩
      have hyp := hyp m40 eg41
      obtain rfl : h1 = hM m40 := by rw [e39, eg41]; exact rfl
      clear e39
      refine ex_aload_n 79 dX10_takesKind_78 rfl rfl ?_
      refine q_getR (a := 12) 10 17 82 dX10_takesKind_79 rfl fiX10_43 rfl ⟨_, rfl⟩ rfl ?_
      refine ex_aload_n 83 dX10_takesKind_82 rfl rfl ?_
      refine q_getI 10 13 86 dX10_takesKind_83 rfl fiX10_87 (Or.inl rfl) ⟨_, rfl⟩ ?_
      refine ex_iconst 87 dX10_takesKind_86 rfl ?_
      obtain ⟨o42, hyp⟩ := hyp
      obtain ⟨o43, hyp⟩ := hyp
      refine ex_iast 88 dX10_takesKind_87 rfl (ai_of (n := 18) rfl o42 o43 (by decide)) (fun h1 e44 => ?_)
      obtain ⟨m45, eg46⟩ : ∃ z : MS, z = mI m40 12 (m40 0 13).toNat 0 := ⟨_, rfl⟩
      have hyp := hyp m45 eg46
      obtain rfl : h1 = hM m45 := by rw [e44, eg46]; exact rfl
      clear e44
      refine ex_aload_n 89 dX10_takesKind_88 rfl rfl ?_
      refine ex_dup 90 dX10_takesKind_89 rfl rfl ?_
      refine q_getI 10 13 93 dX10_takesKind_90 rfl fiX10_87 (Or.inl rfl) ⟨_, rfl⟩ ?_
      refine ex_iconst 94 dX10_takesKind_93 rfl ?_
      refine ex_iadd 95 dX10_takesKind_94 rfl ?_
      refine q_putI 10 13 98 dX10_takesKind_95 rfl fiX10_87 ff10_13 rfl ⟨_, rfl⟩ (fun h1 e47 => ?_)
      obtain ⟨m48, eg49⟩ : ∃ z : MS, z = mI m45 0 13 ((m45 0 13) + 1) := ⟨_, rfl⟩
      have hyp := hyp m48 eg49
      obtain rfl : h1 = hM m48 := by rw [e47, eg49]; exact rfl
      clear e47
      refine ex_aload_n 99 dX10_takesKind_98 rfl rfl ?_
      refine ex_iload_n 100 dX10_takesKind_99 rfl rfl ?_
      refine ex_iconst 101 dX10_takesKind_100 rfl ?_
      refine s_callVi [vi 1, vi 1] 104 dX10_takesKind_101 rfl cvX10_90 rfl rfl ⟨Nat.le_of_ble_eq_true rfl, Nat.le_of_ble_eq_true rfl⟩ (Nat.le_of_ble_eq_true rfl) ⟨_, rfl⟩ hyp (fun y51 h1 hq => ?_)
      obtain ⟨m50, rfl, hyp⟩ := hq
      exact ex_iret dX10_takesKind_104 (Or.inr ⟨rfl, hyp.1⟩) ⟨_, rfl, _, rfl, hyp.2⟩
  · have hyp := hf c78
    clear ht hf
    refine ex_iconst 43 dX10_takesKind_42 rfl ?_
    refine ex_goto 57 dX10_takesKind_43 (by decide) ?_
    obtain ⟨o53, hyp⟩ := hyp
    obtain ⟨o54, hyp⟩ := hyp
    refine ex_iast 58 dX10_takesKind_57 rfl (ai_of (n := 18) rfl o53 o54 (by decide)) (fun h1 e55 => ?_)
    obtain ⟨m56, eg57⟩ : ∃ z : MS, z = mI m0 9 (m0 0 13).toNat 0 := ⟨_, rfl⟩
    have hyp := hyp m56 eg57
    obtain rfl : h1 = hM m56 := by rw [e55, eg57]; exact rfl
    clear e55
    refine ex_aload_n 59 dX10_takesKind_58 rfl rfl ?_
    refine q_getR (a := 10) 10 15 62 dX10_takesKind_59 rfl fiX10_37 rfl ⟨_, rfl⟩ rfl ?_
    refine ex_aload_n 63 dX10_takesKind_62 rfl rfl ?_
    refine q_getI 10 13 66 dX10_takesKind_63 rfl fiX10_87 (Or.inl rfl) ⟨_, rfl⟩ ?_
    refine ex_iconst 67 dX10_takesKind_66 rfl ?_
    obtain ⟨o58, hyp⟩ := hyp
    obtain ⟨o59, hyp⟩ := hyp
    refine ex_iast 68 dX10_takesKind_67 rfl (ai_of (n := 18) rfl o58 o59 (by decide)) (fun h1 e60 => ?_)
    obtain ⟨m61, eg62⟩ : ∃ z : MS, z = mI m56 10 (m56 0 13).toNat 0 := ⟨_, rfl⟩
    have hyp := hyp m61 eg62
    obtain rfl : h1 = hM m61 := by rw [e60, eg62]; exact rfl
    clear e60
    refine ex_aload_n 69 dX10_takesKind_68 rfl rfl ?_
    refine q_getR (a := 11) 10 16 72 dX10_takesKind_69 rfl fiX10_40 rfl ⟨_, rfl⟩ rfl ?_
    refine ex_aload_n 73 dX10_takesKind_72 rfl rfl ?_
    refine q_getI 10 13 76 dX10_takesKind_73 rfl fiX10_87 (Or.inl rfl) ⟨_, rfl⟩ ?_
    refine ex_iconst 77 dX10_takesKind_76 rfl ?_
    obtain ⟨o63, hyp⟩ := hyp
    obtain ⟨o64, hyp⟩ := hyp
    refine ex_iast 78 dX10_takesKind_77 rfl (ai_of (n := 18) rfl o63 o64 (by decide)) (fun h1 e65 => ?_)
    obtain ⟨m66, eg67⟩ : ∃ z : MS, z = mI m61 11 (m61 0 13).toNat (-1) := ⟨_, rfl⟩
    have hyp := hyp m66 eg67
    obtain rfl : h1 = hM m66 := by rw [e65, eg67]; exact rfl
    clear e65
    refine ex_aload_n 79 dX10_takesKind_78 rfl rfl ?_
    refine q_getR (a := 12) 10 17 82 dX10_takesKind_79 rfl fiX10_43 rfl ⟨_, rfl⟩ rfl ?_
    refine ex_aload_n 83 dX10_takesKind_82 rfl rfl ?_
    refine q_getI 10 13 86 dX10_takesKind_83 rfl fiX10_87 (Or.inl rfl) ⟨_, rfl⟩ ?_
    refine ex_iconst 87 dX10_takesKind_86 rfl ?_
    obtain ⟨o68, hyp⟩ := hyp
    obtain ⟨o69, hyp⟩ := hyp
    refine ex_iast 88 dX10_takesKind_87 rfl (ai_of (n := 18) rfl o68 o69 (by decide)) (fun h1 e70 => ?_)
    obtain ⟨m71, eg72⟩ : ∃ z : MS, z = mI m66 12 (m66 0 13).toNat 0 := ⟨_, rfl⟩
    have hyp := hyp m71 eg72
    obtain rfl : h1 = hM m71 := by rw [e70, eg72]; exact rfl
    clear e70
    refine ex_aload_n 89 dX10_takesKind_88 rfl rfl ?_
    refine ex_dup 90 dX10_takesKind_89 rfl rfl ?_
    refine q_getI 10 13 93 dX10_takesKind_90 rfl fiX10_87 (Or.inl rfl) ⟨_, rfl⟩ ?_
    refine ex_iconst 94 dX10_takesKind_93 rfl ?_
    refine ex_iadd 95 dX10_takesKind_94 rfl ?_
    refine q_putI 10 13 98 dX10_takesKind_95 rfl fiX10_87 ff10_13 rfl ⟨_, rfl⟩ (fun h1 e73 => ?_)
    obtain ⟨m74, eg75⟩ : ∃ z : MS, z = mI m71 0 13 ((m71 0 13) + 1) := ⟨_, rfl⟩
    have hyp := hyp m74 eg75
    obtain rfl : h1 = hM m74 := by rw [e73, eg75]; exact rfl
    clear e73
    refine ex_aload_n 99 dX10_takesKind_98 rfl rfl ?_
    refine ex_iload_n 100 dX10_takesKind_99 rfl rfl ?_
    refine ex_iconst 101 dX10_takesKind_100 rfl ?_
    refine s_callVi [vi 1, vi 1] 104 dX10_takesKind_101 rfl cvX10_90 rfl rfl ⟨Nat.le_of_ble_eq_true rfl, Nat.le_of_ble_eq_true rfl⟩ (Nat.le_of_ble_eq_true rfl) ⟨_, rfl⟩ hyp (fun y77 h1 hq => ?_)
    obtain ⟨m76, rfl, hyp⟩ := hq
    exact ex_iret dX10_takesKind_104 (Or.inr ⟨rfl, hyp.1⟩) ⟨_, rfl, _, rfl, hyp.2⟩
set_option maxRecDepth 4000 in
theorem uX10_takesName {P : Int → MS → Prop} (m0 : MS) (x1 : Int) (x2 : Int) (hyp : rng x1 ∧ (¬ x1 = 58 → (YYi mX10_takesName 21 [some (vr 0), some (vi x1), some (vi x2), none] [] m0 P)) ∧ (x1 = 58 → (rng (m0 0 12) ∧ (¬ m0 0 12 = 2 → (YYi mX10_takesName 21 [some (vr 0), some (vi x1), some (vi x2), none] [] m0 P)) ∧ (m0 0 12 = 2 → (MMi mX10_goes [vr 0, vi 1, vi 3] m0 (fun y4 m3 => (y4 = 0 ∨ y4 = 1) ∧ P y4 m3)))))) : MMi mX10_takesName [vr 0, vi x1, vi x2] m0 P := by
  refine met_of_ex (by decide +kernel) (Nat.le_of_ble_eq_true rfl) ?_
  show EX mX10_takesName 0 [some (vr 0), some (vi x1), some (vi x2), none] [] (hM m0) (0, 0) _
  refine ex_iload_n 1 dX10_takesName_0 rfl rfl ?_
  refine ex_bipush 3 dX10_takesName_1 rfl ⟨by decide, by decide⟩ ?_
  obtain ⟨o1, hyp⟩ := hyp
  obtain ⟨ht, hf⟩ := hyp
  refine ex_icmp_ne 21 6 dX10_takesName_3 (by decide) rfl o1 ⟨by decide, by decide⟩ (fun c6 => ?_) (fun c6 => ?_)
  · have hyp := ht c6
    clear ht hf
    exact hyp
  · have hyp := hf c6
    clear ht hf
    refine ex_aload_n 7 dX10_takesName_6 rfl rfl ?_
    refine q_getI 10 12 10 dX10_takesName_7 rfl fiX10_84 (Or.inl rfl) ⟨_, rfl⟩ ?_
    refine ex_iconst 11 dX10_takesName_10 rfl ?_
    obtain ⟨o2, hyp⟩ := hyp
    obtain ⟨ht, hf⟩ := hyp
    refine ex_icmp_ne 21 14 dX10_takesName_11 (by decide) rfl o2 ⟨by decide, by decide⟩ (fun c5 => ?_) (fun c5 => ?_)
    · have hyp := ht c5
      clear ht hf
      exact hyp
    · have hyp := hf c5
      clear ht hf
      refine ex_aload_n 15 dX10_takesName_14 rfl rfl ?_
      refine ex_iconst 16 dX10_takesName_15 rfl ?_
      refine ex_iconst 17 dX10_takesName_16 rfl ?_
      refine s_callVi [vi 1, vi 3] 20 dX10_takesName_17 rfl cvX10_90 rfl rfl ⟨Nat.le_of_ble_eq_true rfl, Nat.le_of_ble_eq_true rfl⟩ (Nat.le_of_ble_eq_true rfl) ⟨_, rfl⟩ hyp (fun y4 h1 hq => ?_)
      obtain ⟨m3, rfl, hyp⟩ := hq
      exact ex_iret dX10_takesName_20 (Or.inr ⟨rfl, hyp.1⟩) ⟨_, rfl, _, rfl, hyp.2⟩
set_option maxRecDepth 4000 in
theorem uX10_takesName_21 {P : Int → MS → Prop} (m0 : MS) (x1 : Int) (x2 : Int) (hyp : MMi mX10_within [vi x1, vi 97, vi 122] m0 (fun y2 m1 => rng y2 ∧ (y2 = 0 → (MMi mX10_goes [vr 0, vi 0, vi 2] m1 (fun y5 m4 => (y5 = 0 ∨ y5 = 1) ∧ P y5 m4))) ∧ (¬ y2 = 0 → (0 ≤ x2 ∧ x2 < 18 ∧ rng (m1 12 (x2).toNat) ∧ (8 ≤ m1 12 (x2).toNat → (MMi mX10_goes [vr 0, vi 0, vi 2] m1 (fun y10 m9 => (y10 = 0 ∨ y10 = 1) ∧ P y10 m9))) ∧ (m1 12 (x2).toNat < 8 → (0 ≤ (8 * x2) + (m1 12 (x2).toNat) ∧ (8 * x2) + (m1 12 (x2).toNat) < 144 ∧ ∀ m14 : MS, m14 = mI m1 13 ((8 * x2) + (m1 12 (x2).toNat)).toNat x1 → (∀ m17 : MS, m17 = mI m14 12 (x2).toNat ((m14 12 (x2).toNat) + 1) → (MMi mX10_goes [vr 0, vi 1, vi 2] m17 (fun y20 m19 => (y20 = 0 ∨ y20 = 1) ∧ P y20 m19))))))))) : YYi mX10_takesName 21 [some (vr 0), some (vi x1), some (vi x2), none] [] m0 P := by
  refine ex_iload_n 22 dX10_takesName_21 rfl rfl ?_
  refine ex_bipush 24 dX10_takesName_22 rfl ⟨by decide, by decide⟩ ?_
  refine ex_bipush 26 dX10_takesName_24 rfl ⟨by decide, by decide⟩ ?_
  refine s_callSi [vi x1, vi 97, vi 122] 29 dX10_takesName_26 rfl cvX10_76 rfl rfl ⟨Nat.le_of_ble_eq_true rfl, Nat.le_of_ble_eq_true rfl⟩ (Nat.le_of_ble_eq_true rfl) hyp (fun y2 h1 hq => ?_)
  obtain ⟨m1, rfl, hyp⟩ := hq
  obtain ⟨o3, hyp⟩ := hyp
  obtain ⟨ht, hf⟩ := hyp
  refine ex_if_eq 47 32 dX10_takesName_29 (by decide) rfl o3 (fun c22 => ?_) (fun c22 => ?_)
  · have hyp := ht c22
    clear ht hf
    refine ex_iconst 48 dX10_takesName_47 rfl ?_
    refine q_istore_n [some (vr 0), some (vi x1), some (vi x2), some (vi 0)] 49 dX10_takesName_48 rfl (Nat.le_of_ble_eq_true rfl) rfl rfl ?_
    refine ex_iload_n 50 dX10_takesName_49 rfl rfl ?_
    refine ex_if_eq 80 53 dX10_takesName_50 (by decide) rfl ⟨by decide, by decide⟩ (fun _ => ?_) (fun c => absurd c (by decide))
    refine ex_aload_n 81 dX10_takesName_80 rfl rfl ?_
    refine ex_iload_n 82 dX10_takesName_81 rfl rfl ?_
    refine ex_iconst 83 dX10_takesName_82 rfl ?_
    refine s_callVi [vi 0, vi 2] 86 dX10_takesName_83 rfl cvX10_90 rfl rfl ⟨Nat.le_of_ble_eq_true rfl, Nat.le_of_ble_eq_true rfl⟩ (Nat.le_of_ble_eq_true rfl) ⟨_, rfl⟩ hyp (fun y5 h1 hq => ?_)
    obtain ⟨m4, rfl, hyp⟩ := hq
    exact ex_iret dX10_takesName_86 (Or.inr ⟨rfl, hyp.1⟩) ⟨_, rfl, _, rfl, hyp.2⟩
  · have hyp := hf c22
    clear ht hf
    refine ex_aload_n 33 dX10_takesName_32 rfl rfl ?_
    refine q_getR (a := 12) 10 17 36 dX10_takesName_33 rfl fiX10_43 rfl ⟨_, rfl⟩ rfl ?_
    refine ex_iload_n 37 dX10_takesName_36 rfl rfl ?_
    obtain ⟨o6, hyp⟩ := hyp
    obtain ⟨o7, hyp⟩ := hyp
    refine ex_iald 38 dX10_takesName_37 rfl (ai_of (n := 18) rfl o6 o7 (by decide)) ?_
    refine ex_bipush 40 dX10_takesName_38 rfl ⟨by decide, by decide⟩ ?_
    obtain ⟨o8, hyp⟩ := hyp
    obtain ⟨ht, hf⟩ := hyp
    refine ex_icmp_ge 47 43 dX10_takesName_40 (by decide) rfl o8 ⟨by decide, by decide⟩ (fun c21 => ?_) (fun c21 => ?_)
    · have hyp := ht c21
      clear ht hf
      refine ex_iconst 48 dX10_takesName_47 rfl ?_
      refine q_istore_n [some (vr 0), some (vi x1), some (vi x2), some (vi 0)] 49 dX10_takesName_48 rfl (Nat.le_of_ble_eq_true rfl) rfl rfl ?_
      refine ex_iload_n 50 dX10_takesName_49 rfl rfl ?_
      refine ex_if_eq 80 53 dX10_takesName_50 (by decide) rfl ⟨by decide, by decide⟩ (fun _ => ?_) (fun c => absurd c (by decide))
      refine ex_aload_n 81 dX10_takesName_80 rfl rfl ?_
      refine ex_iload_n 82 dX10_takesName_81 rfl rfl ?_
      refine ex_iconst 83 dX10_takesName_82 rfl ?_
      refine s_callVi [vi 0, vi 2] 86 dX10_takesName_83 rfl cvX10_90 rfl rfl ⟨Nat.le_of_ble_eq_true rfl, Nat.le_of_ble_eq_true rfl⟩ (Nat.le_of_ble_eq_true rfl) ⟨_, rfl⟩ hyp (fun y10 h1 hq => ?_)
      obtain ⟨m9, rfl, hyp⟩ := hq
      exact ex_iret dX10_takesName_86 (Or.inr ⟨rfl, hyp.1⟩) ⟨_, rfl, _, rfl, hyp.2⟩
    · have hyp := hf c21
      clear ht hf
      refine ex_iconst 44 dX10_takesName_43 rfl ?_
      refine ex_goto 48 dX10_takesName_44 (by decide) ?_
      refine q_istore_n [some (vr 0), some (vi x1), some (vi x2), some (vi 1)] 49 dX10_takesName_48 rfl (Nat.le_of_ble_eq_true rfl) rfl rfl ?_
      refine ex_iload_n 50 dX10_takesName_49 rfl rfl ?_
      refine ex_if_eq 80 53 dX10_takesName_50 (by decide) rfl ⟨by decide, by decide⟩ (fun c => absurd c (by decide)) (fun _ => ?_)
      refine ex_aload_n 54 dX10_takesName_53 rfl rfl ?_
      refine q_getR (a := 13) 10 18 57 dX10_takesName_54 rfl fiX10_46 rfl ⟨_, rfl⟩ rfl ?_
      refine ex_bipush 59 dX10_takesName_57 rfl ⟨by decide, by decide⟩ ?_
      refine ex_iload_n 60 dX10_takesName_59 rfl rfl ?_
      refine ex_imul 61 dX10_takesName_60 rfl ?_
      refine ex_aload_n 62 dX10_takesName_61 rfl rfl ?_
      refine q_getR (a := 12) 10 17 65 dX10_takesName_62 rfl fiX10_43 rfl ⟨_, rfl⟩ rfl ?_
      refine ex_iload_n 66 dX10_takesName_65 rfl rfl ?_
      refine ex_iald 67 dX10_takesName_66 rfl (ai_of (n := 18) rfl o6 o7 (by decide)) ?_
      refine ex_iadd 68 dX10_takesName_67 rfl ?_
      refine ex_iload_n 69 dX10_takesName_68 rfl rfl ?_
      obtain ⟨o11, hyp⟩ := hyp
      obtain ⟨o12, hyp⟩ := hyp
      refine ex_iast 70 dX10_takesName_69 rfl (ai_of (n := 144) rfl o11 o12 (by decide)) (fun h1 e13 => ?_)
      obtain ⟨m14, eg15⟩ : ∃ z : MS, z = mI m1 13 ((8 * x2) + (m1 12 (x2).toNat)).toNat x1 := ⟨_, rfl⟩
      have hyp := hyp m14 eg15
      obtain rfl : h1 = hM m14 := by rw [e13, eg15]; exact rfl
      clear e13
      refine ex_aload_n 71 dX10_takesName_70 rfl rfl ?_
      refine q_getR (a := 12) 10 17 74 dX10_takesName_71 rfl fiX10_43 rfl ⟨_, rfl⟩ rfl ?_
      refine ex_iload_n 75 dX10_takesName_74 rfl rfl ?_
      refine ex_dup2 76 dX10_takesName_75 rfl rfl rfl ?_
      refine ex_iald 77 dX10_takesName_76 rfl (ai_of (n := 18) rfl o6 o7 (by decide)) ?_
      refine ex_iconst 78 dX10_takesName_77 rfl ?_
      refine ex_iadd 79 dX10_takesName_78 rfl ?_
      refine ex_iast 80 dX10_takesName_79 rfl (ai_of (n := 18) rfl o6 o7 (by decide)) (fun h1 e16 => ?_)
      obtain ⟨m17, eg18⟩ : ∃ z : MS, z = mI m14 12 (x2).toNat ((m14 12 (x2).toNat) + 1) := ⟨_, rfl⟩
      have hyp := hyp m17 eg18
      obtain rfl : h1 = hM m17 := by rw [e16, eg18]; exact rfl
      clear e16
      refine ex_aload_n 81 dX10_takesName_80 rfl rfl ?_
      refine ex_iload_n 82 dX10_takesName_81 rfl rfl ?_
      refine ex_iconst 83 dX10_takesName_82 rfl ?_
      refine s_callVi [vi 1, vi 2] 86 dX10_takesName_83 rfl cvX10_90 rfl rfl ⟨Nat.le_of_ble_eq_true rfl, Nat.le_of_ble_eq_true rfl⟩ (Nat.le_of_ble_eq_true rfl) ⟨_, rfl⟩ hyp (fun y20 h1 hq => ?_)
      obtain ⟨m19, rfl, hyp⟩ := hq
      exact ex_iret dX10_takesName_86 (Or.inr ⟨rfl, hyp.1⟩) ⟨_, rfl, _, rfl, hyp.2⟩
set_option maxRecDepth 4000 in
theorem uX10_takesYear {P : Int → MS → Prop} (m0 : MS) (x1 : Int) (x2 : Int) (hyp : rng (m0 0 12) ∧ (¬ m0 0 12 = 3 → ((¬ m0 0 12 = 4 → (MMi mX10_within [vi (x1 - 48), vi 0, vi 9] m0 (fun y3 m2 => 0 ≤ x2 ∧ x2 < 18 ∧ ∀ m7 : MS, m7 = mI m2 10 (x2).toNat ((10 * (m2 10 (x2).toNat)) + (x1 - 48)) → (MMi mX10_goes [vr 0, vi y3, vi ((m7 0 12) + 1)] m7 (fun y10 m9 => (y10 = 0 ∨ y10 = 1) ∧ P y10 m9))))) ∧ (m0 0 12 = 4 → (MMi mX10_within [vi (x1 - 48), vi 6, vi 8] m0 (fun y12 m11 => 0 ≤ x2 ∧ x2 < 18 ∧ ∀ m16 : MS, m16 = mI m11 10 (x2).toNat ((10 * (m11 10 (x2).toNat)) + (x1 - 48)) → (MMi mX10_goes [vr 0, vi y12, vi ((m16 0 12) + 1)] m16 (fun y19 m18 => (y19 = 0 ∨ y19 = 1) ∧ P y19 m18))))))) ∧ (m0 0 12 = 3 → (rng (x1 - 48) ∧ (¬ x1 - 48 = 1 → (0 ≤ x2 ∧ x2 < 18 ∧ ∀ m25 : MS, m25 = mI m0 10 (x2).toNat ((10 * (m0 10 (x2).toNat)) + (x1 - 48)) → (MMi mX10_goes [vr 0, vi 0, vi ((m25 0 12) + 1)] m25 (fun y28 m27 => (y28 = 0 ∨ y28 = 1) ∧ P y28 m27)))) ∧ (x1 - 48 = 1 → (0 ≤ x2 ∧ x2 < 18 ∧ ∀ m32 : MS, m32 = mI m0 10 (x2).toNat ((10 * (m0 10 (x2).toNat)) + (x1 - 48)) → (MMi mX10_goes [vr 0, vi 1, vi ((m32 0 12) + 1)] m32 (fun y35 m34 => (y35 = 0 ∨ y35 = 1) ∧ P y35 m34))))))) : MMi mX10_takesYear [vr 0, vi x1, vi x2] m0 P := by
  refine met_of_ex (by decide +kernel) (Nat.le_of_ble_eq_true rfl) ?_
  show EX mX10_takesYear 0 [some (vr 0), some (vi x1), some (vi x2), none, none] [] (hM m0) (0, 0) _
  refine ex_iload_n 1 dX10_takesYear_0 rfl rfl ?_
  refine ex_bipush 3 dX10_takesYear_1 rfl ⟨by decide, by decide⟩ ?_
  refine ex_isub 4 dX10_takesYear_3 rfl ?_
  refine q_istore_n [some (vr 0), some (vi x1), some (vi x2), some (vi (x1 - 48)), none] 5 dX10_takesYear_4 rfl (Nat.le_of_ble_eq_true rfl) rfl rfl ?_
  refine ex_aload_n 6 dX10_takesYear_5 rfl rfl ?_
  refine q_getI 10 12 9 dX10_takesYear_6 rfl fiX10_84 (Or.inl rfl) ⟨_, rfl⟩ ?_
  refine ex_iconst 10 dX10_takesYear_9 rfl ?_
  obtain ⟨o1, hyp⟩ := hyp
  obtain ⟨ht, hf⟩ := hyp
  refine ex_icmp_ne 26 13 dX10_takesYear_10 (by decide) rfl o1 ⟨by decide, by decide⟩ (fun c37 => ?_) (fun c37 => ?_)
  · have hyp := ht c37
    clear ht hf
    refine ex_aload_n 27 dX10_takesYear_26 rfl rfl ?_
    refine q_getI 10 12 30 dX10_takesYear_27 rfl fiX10_84 (Or.inl rfl) ⟨_, rfl⟩ ?_
    refine ex_iconst 31 dX10_takesYear_30 rfl ?_
    obtain ⟨ht, hf⟩ := hyp
    refine ex_icmp_ne 45 34 dX10_takesYear_31 (by decide) rfl o1 ⟨by decide, by decide⟩ (fun c20 => ?_) (fun c20 => ?_)
    · have hyp := ht c20
      clear ht hf
      refine ex_iload_n 46 dX10_takesYear_45 rfl rfl ?_
      refine ex_iconst 47 dX10_takesYear_46 rfl ?_
      refine ex_bipush 49 dX10_takesYear_47 rfl ⟨by decide, by decide⟩ ?_
      refine s_callSi [vi (x1 - 48), vi 0, vi 9] 52 dX10_takesYear_49 rfl cvX10_76 rfl rfl ⟨Nat.le_of_ble_eq_true rfl, Nat.le_of_ble_eq_true rfl⟩ (Nat.le_of_ble_eq_true rfl) hyp (fun y3 h1 hq => ?_)
      obtain ⟨m2, rfl, hyp⟩ := hq
      refine q_istore [some (vr 0), some (vi x1), some (vi x2), some (vi (x1 - 48)), some (vi y3)] 54 dX10_takesYear_52 rfl (Nat.le_of_ble_eq_true rfl) rfl rfl ?_
      refine ex_aload_n 55 dX10_takesYear_54 rfl rfl ?_
      refine q_getR (a := 10) 10 15 58 dX10_takesYear_55 rfl fiX10_37 rfl ⟨_, rfl⟩ rfl ?_
      refine ex_iload_n 59 dX10_takesYear_58 rfl rfl ?_
      refine ex_bipush 61 dX10_takesYear_59 rfl ⟨by decide, by decide⟩ ?_
      refine ex_aload_n 62 dX10_takesYear_61 rfl rfl ?_
      refine q_getR (a := 10) 10 15 65 dX10_takesYear_62 rfl fiX10_37 rfl ⟨_, rfl⟩ rfl ?_
      refine ex_iload_n 66 dX10_takesYear_65 rfl rfl ?_
      obtain ⟨o4, hyp⟩ := hyp
      obtain ⟨o5, hyp⟩ := hyp
      refine ex_iald 67 dX10_takesYear_66 rfl (ai_of (n := 18) rfl o4 o5 (by decide)) ?_
      refine ex_imul 68 dX10_takesYear_67 rfl ?_
      refine ex_iload_n 69 dX10_takesYear_68 rfl rfl ?_
      refine ex_iadd 70 dX10_takesYear_69 rfl ?_
      refine ex_iast 71 dX10_takesYear_70 rfl (ai_of (n := 18) rfl o4 o5 (by decide)) (fun h1 e6 => ?_)
      obtain ⟨m7, eg8⟩ : ∃ z : MS, z = mI m2 10 (x2).toNat ((10 * (m2 10 (x2).toNat)) + (x1 - 48)) := ⟨_, rfl⟩
      have hyp := hyp m7 eg8
      obtain rfl : h1 = hM m7 := by rw [e6, eg8]; exact rfl
      clear e6
      refine ex_aload_n 72 dX10_takesYear_71 rfl rfl ?_
      refine ex_iload 74 dX10_takesYear_72 rfl rfl ?_
      refine ex_aload_n 75 dX10_takesYear_74 rfl rfl ?_
      refine q_getI 10 12 78 dX10_takesYear_75 rfl fiX10_84 (Or.inl rfl) ⟨_, rfl⟩ ?_
      refine ex_iconst 79 dX10_takesYear_78 rfl ?_
      refine ex_iadd 80 dX10_takesYear_79 rfl ?_
      refine s_callVi [vi y3, vi ((m7 0 12) + 1)] 83 dX10_takesYear_80 rfl cvX10_90 rfl rfl ⟨Nat.le_of_ble_eq_true rfl, Nat.le_of_ble_eq_true rfl⟩ (Nat.le_of_ble_eq_true rfl) ⟨_, rfl⟩ hyp (fun y10 h1 hq => ?_)
      obtain ⟨m9, rfl, hyp⟩ := hq
      exact ex_iret dX10_takesYear_83 (Or.inr ⟨rfl, hyp.1⟩) ⟨_, rfl, _, rfl, hyp.2⟩
    · have hyp := hf c20
      clear ht hf
      refine ex_iload_n 35 dX10_takesYear_34 rfl rfl ?_
      refine ex_bipush 37 dX10_takesYear_35 rfl ⟨by decide, by decide⟩ ?_
      refine ex_bipush 39 dX10_takesYear_37 rfl ⟨by decide, by decide⟩ ?_
      refine s_callSi [vi (x1 - 48), vi 6, vi 8] 42 dX10_takesYear_39 rfl cvX10_76 rfl rfl ⟨Nat.le_of_ble_eq_true rfl, Nat.le_of_ble_eq_true rfl⟩ (Nat.le_of_ble_eq_true rfl) hyp (fun y12 h1 hq => ?_)
      obtain ⟨m11, rfl, hyp⟩ := hq
      refine ex_goto 52 dX10_takesYear_42 (by decide) ?_
      refine q_istore [some (vr 0), some (vi x1), some (vi x2), some (vi (x1 - 48)), some (vi y12)] 54 dX10_takesYear_52 rfl (Nat.le_of_ble_eq_true rfl) rfl rfl ?_
      refine ex_aload_n 55 dX10_takesYear_54 rfl rfl ?_
      refine q_getR (a := 10) 10 15 58 dX10_takesYear_55 rfl fiX10_37 rfl ⟨_, rfl⟩ rfl ?_
      refine ex_iload_n 59 dX10_takesYear_58 rfl rfl ?_
      refine ex_bipush 61 dX10_takesYear_59 rfl ⟨by decide, by decide⟩ ?_
      refine ex_aload_n 62 dX10_takesYear_61 rfl rfl ?_
      refine q_getR (a := 10) 10 15 65 dX10_takesYear_62 rfl fiX10_37 rfl ⟨_, rfl⟩ rfl ?_
      refine ex_iload_n 66 dX10_takesYear_65 rfl rfl ?_
      obtain ⟨o13, hyp⟩ := hyp
      obtain ⟨o14, hyp⟩ := hyp
      refine ex_iald 67 dX10_takesYear_66 rfl (ai_of (n := 18) rfl o13 o14 (by decide)) ?_
      refine ex_imul 68 dX10_takesYear_67 rfl ?_
      refine ex_iload_n 69 dX10_takesYear_68 rfl rfl ?_
      refine ex_iadd 70 dX10_takesYear_69 rfl ?_
      refine ex_iast 71 dX10_takesYear_70 rfl (ai_of (n := 18) rfl o13 o14 (by decide)) (fun h1 e15 => ?_)
      obtain ⟨m16, eg17⟩ : ∃ z : MS, z = mI m11 10 (x2).toNat ((10 * (m11 10 (x2).toNat)) + (x1 - 48)) := ⟨_, rfl⟩
      have hyp := hyp m16 eg17
      obtain rfl : h1 = hM m16 := by rw [e15, eg17]; exact rfl
      clear e15
      refine ex_aload_n 72 dX10_takesYear_71 rfl rfl ?_
      refine ex_iload 74 dX10_takesYear_72 rfl rfl ?_
      refine ex_aload_n 75 dX10_takesYear_74 rfl rfl ?_
      refine q_getI 10 12 78 dX10_takesYear_75 rfl fiX10_84 (Or.inl rfl) ⟨_, rfl⟩ ?_
      refine ex_iconst 79 dX10_takesYear_78 rfl ?_
      refine ex_iadd 80 dX10_takesYear_79 rfl ?_
      refine s_callVi [vi y12, vi ((m16 0 12) + 1)] 83 dX10_takesYear_80 rfl cvX10_90 rfl rfl ⟨Nat.le_of_ble_eq_true rfl, Nat.le_of_ble_eq_true rfl⟩ (Nat.le_of_ble_eq_true rfl) ⟨_, rfl⟩ hyp (fun y19 h1 hq => ?_)
      obtain ⟨m18, rfl, hyp⟩ := hq
      exact ex_iret dX10_takesYear_83 (Or.inr ⟨rfl, hyp.1⟩) ⟨_, rfl, _, rfl, hyp.2⟩
  · have hyp := hf c37
    clear ht hf
    refine ex_iload_n 14 dX10_takesYear_13 rfl rfl ?_
    refine ex_iconst 15 dX10_takesYear_14 rfl ?_
    obtain ⟨o21, hyp⟩ := hyp
    obtain ⟨ht, hf⟩ := hyp
    refine ex_icmp_ne 22 18 dX10_takesYear_15 (by decide) rfl o21 ⟨by decide, by decide⟩ (fun c36 => ?_) (fun c36 => ?_)
    · have hyp := ht c36
      clear ht hf
      refine ex_iconst 23 dX10_takesYear_22 rfl ?_
      refine ex_goto 52 dX10_takesYear_23 (by decide) ?_
      refine q_istore [some (vr 0), some (vi x1), some (vi x2), some (vi (x1 - 48)), some (vi 0)] 54 dX10_takesYear_52 rfl (Nat.le_of_ble_eq_true rfl) rfl rfl ?_
      refine ex_aload_n 55 dX10_takesYear_54 rfl rfl ?_
      refine q_getR (a := 10) 10 15 58 dX10_takesYear_55 rfl fiX10_37 rfl ⟨_, rfl⟩ rfl ?_
      refine ex_iload_n 59 dX10_takesYear_58 rfl rfl ?_
      refine ex_bipush 61 dX10_takesYear_59 rfl ⟨by decide, by decide⟩ ?_
      refine ex_aload_n 62 dX10_takesYear_61 rfl rfl ?_
      refine q_getR (a := 10) 10 15 65 dX10_takesYear_62 rfl fiX10_37 rfl ⟨_, rfl⟩ rfl ?_
      refine ex_iload_n 66 dX10_takesYear_65 rfl rfl ?_
      obtain ⟨o22, hyp⟩ := hyp
      obtain ⟨o23, hyp⟩ := hyp
      refine ex_iald 67 dX10_takesYear_66 rfl (ai_of (n := 18) rfl o22 o23 (by decide)) ?_
      refine ex_imul 68 dX10_takesYear_67 rfl ?_
      refine ex_iload_n 69 dX10_takesYear_68 rfl rfl ?_
      refine ex_iadd 70 dX10_takesYear_69 rfl ?_
      refine ex_iast 71 dX10_takesYear_70 rfl (ai_of (n := 18) rfl o22 o23 (by decide)) (fun h1 e24 => ?_)
      obtain ⟨m25, eg26⟩ : ∃ z : MS, z = mI m0 10 (x2).toNat ((10 * (m0 10 (x2).toNat)) + (x1 - 48)) := ⟨_, rfl⟩
      have hyp := hyp m25 eg26
      obtain rfl : h1 = hM m25 := by rw [e24, eg26]; exact rfl
      clear e24
      refine ex_aload_n 72 dX10_takesYear_71 rfl rfl ?_
      refine ex_iload 74 dX10_takesYear_72 rfl rfl ?_
      refine ex_aload_n 75 dX10_takesYear_74 rfl rfl ?_
      refine q_getI 10 12 78 dX10_takesYear_75 rfl fiX10_84 (Or.inl rfl) ⟨_, rfl⟩ ?_
      refine ex_iconst 79 dX10_takesYear_78 rfl ?_
      refine ex_iadd 80 dX10_takesYear_79 rfl ?_
      refine s_callVi [vi 0, vi ((m25 0 12) + 1)] 83 dX10_takesYear_80 rfl cvX10_90 rfl rfl ⟨Nat.le_of_ble_eq_true rfl, Nat.le_of_ble_eq_true rfl⟩ (Nat.le_of_ble_eq_true rfl) ⟨_, rfl⟩ hyp (fun y28 h1 hq => ?_)
      obtain ⟨m27, rfl, hyp⟩ := hq
      exact ex_iret dX10_takesYear_83 (Or.inr ⟨rfl, hyp.1⟩) ⟨_, rfl, _, rfl, hyp.2⟩
    · have hyp := hf c36
      clear ht hf
      refine ex_iconst 19 dX10_takesYear_18 rfl ?_
      refine ex_goto 52 dX10_takesYear_19 (by decide) ?_
      refine q_istore [some (vr 0), some (vi x1), some (vi x2), some (vi (x1 - 48)), some (vi 1)] 54 dX10_takesYear_52 rfl (Nat.le_of_ble_eq_true rfl) rfl rfl ?_
      refine ex_aload_n 55 dX10_takesYear_54 rfl rfl ?_
      refine q_getR (a := 10) 10 15 58 dX10_takesYear_55 rfl fiX10_37 rfl ⟨_, rfl⟩ rfl ?_
      refine ex_iload_n 59 dX10_takesYear_58 rfl rfl ?_
      refine ex_bipush 61 dX10_takesYear_59 rfl ⟨by decide, by decide⟩ ?_
      refine ex_aload_n 62 dX10_takesYear_61 rfl rfl ?_
      refine q_getR (a := 10) 10 15 65 dX10_takesYear_62 rfl fiX10_37 rfl ⟨_, rfl⟩ rfl ?_
      refine ex_iload_n 66 dX10_takesYear_65 rfl rfl ?_
      obtain ⟨o29, hyp⟩ := hyp
      obtain ⟨o30, hyp⟩ := hyp
      refine ex_iald 67 dX10_takesYear_66 rfl (ai_of (n := 18) rfl o29 o30 (by decide)) ?_
      refine ex_imul 68 dX10_takesYear_67 rfl ?_
      refine ex_iload_n 69 dX10_takesYear_68 rfl rfl ?_
      refine ex_iadd 70 dX10_takesYear_69 rfl ?_
      refine ex_iast 71 dX10_takesYear_70 rfl (ai_of (n := 18) rfl o29 o30 (by decide)) (fun h1 e31 => ?_)
      obtain ⟨m32, eg33⟩ : ∃ z : MS, z = mI m0 10 (x2).toNat ((10 * (m0 10 (x2).toNat)) + (x1 - 48)) := ⟨_, rfl⟩
      have hyp := hyp m32 eg33
      obtain rfl : h1 = hM m32 := by rw [e31, eg33]; exact rfl
      clear e31
      refine ex_aload_n 72 dX10_takesYear_71 rfl rfl ?_
      refine ex_iload 74 dX10_takesYear_72 rfl rfl ?_
      refine ex_aload_n 75 dX10_takesYear_74 rfl rfl ?_
      refine q_getI 10 12 78 dX10_takesYear_75 rfl fiX10_84 (Or.inl rfl) ⟨_, rfl⟩ ?_
      refine ex_iconst 79 dX10_takesYear_78 rfl ?_
      refine ex_iadd 80 dX10_takesYear_79 rfl ?_
      refine s_callVi [vi 1, vi ((m32 0 12) + 1)] 83 dX10_takesYear_80 rfl cvX10_90 rfl rfl ⟨Nat.le_of_ble_eq_true rfl, Nat.le_of_ble_eq_true rfl⟩ (Nat.le_of_ble_eq_true rfl) ⟨_, rfl⟩ hyp (fun y35 h1 hq => ?_)
      obtain ⟨m34, rfl, hyp⟩ := hq
      exact ex_iret dX10_takesYear_83 (Or.inr ⟨rfl, hyp.1⟩) ⟨_, rfl, _, rfl, hyp.2⟩
set_option maxRecDepth 4000 in
theorem uX10_takesAge {P : Int → MS → Prop} (m0 : MS) (x1 : Int) (x2 : Int) (hyp : rng (m0 0 12) ∧ (¬ m0 0 12 = 8 → (0 ≤ x2 ∧ x2 < 18 ∧ MMi mX10_within [vi (x1 - 48), vi 0, vi 9] m0 (fun y5 m4 => rng y5 ∧ (y5 = 0 → (∀ m8 : MS, m8 = mI m4 11 (x2).toNat (m4 11 (x2).toNat) → (MMi mX10_goes [vr 0, vi 0, vi 10] m8 (fun y11 m10 => (y11 = 0 ∨ y11 = 1) ∧ P y11 m10)))) ∧ (¬ y5 = 0 → (rng (m4 9 (x2).toNat) ∧ (m4 9 (x2).toNat = 2 → (∀ m14 : MS, m14 = mI m4 11 (x2).toNat ((10 * (m0 11 (x2).toNat)) + (x1 - 48)) → (MMi mX10_goes [vr 0, vi 1, vi 10] m14 (fun y17 m16 => (y17 = 0 ∨ y17 = 1) ∧ P y17 m16)))) ∧ (¬ m4 9 (x2).toNat = 2 → (rng ((10 * (m0 11 (x2).toNat)) + (x1 - 48)) ∧ ((10 * (m0 11 (x2).toNat)) + (x1 - 48) < 14 → (∀ m20 : MS, m20 = mI m4 11 (x2).toNat (m4 11 (x2).toNat) → (MMi mX10_goes [vr 0, vi 0, vi 10] m20 (fun y23 m22 => (y23 = 0 ∨ y23 = 1) ∧ P y23 m22)))) ∧ (14 ≤ (10 * (m0 11 (x2).toNat)) + (x1 - 48) → (∀ m25 : MS, m25 = mI m4 11 (x2).toNat ((10 * (m0 11 (x2).toNat)) + (x1 - 48)) → (MMi mX10_goes [vr 0, vi 1, vi 10] m25 (fun y28 m27 => (y28 = 0 ∨ y28 = 1) ∧ P y28 m27))))))))))) ∧ (m0 0 12 = 8 → (0 ≤ x2 ∧ x2 < 18 ∧ ∀ m35 : MS, m35 = mI m0 11 (x2).toNat (x1 - 48) → (rng (m35 9 (x2).toNat) ∧ (¬ m35 9 (x2).toNat = 1 → (YYi mX10_takesAge 36 [some (vr 0), none, none, some (vi (x1 - 48)), none, none] [vi 0] m35 P)) ∧ (m35 9 (x2).toNat = 1 → (YYi mX10_takesAge 36 [some (vr 0), none, none, some (vi (x1 - 48)), none, none] [vi 1] m35 P)))))) : MMi mX10_takesAge [vr 0, vi x1, vi x2] m0 P := by
  refine met_of_ex (by decide +kernel) (Nat.le_of_ble_eq_true rfl) ?_
  show EX mX10_takesAge 0 [some (vr 0), some (vi x1), some (vi x2), none, none, none] [] (hM m0) (0, 0) _
  refine ex_iload_n 1 dX10_takesAge_0 rfl rfl ?_
  refine ex_bipush 3 dX10_takesAge_1 rfl ⟨by decide, by decide⟩ ?_
  refine ex_isub 4 dX10_takesAge_3 rfl ?_
  refine q_istore_n [some (vr 0), some (vi x1), some (vi x2), some (vi (x1 - 48)), none, none] 5 dX10_takesAge_4 rfl (Nat.le_of_ble_eq_true rfl) rfl rfl ?_
  refine ex_aload_n 6 dX10_takesAge_5 rfl rfl ?_
  refine q_getI 10 12 9 dX10_takesAge_6 rfl fiX10_84 (Or.inl rfl) ⟨_, rfl⟩ ?_
  refine ex_bipush 11 dX10_takesAge_9 rfl ⟨by decide, by decide⟩ ?_
  obtain ⟨o1, hyp⟩ := hyp
  obtain ⟨ht, hf⟩ := hyp
  refine ex_icmp_ne 80 14 dX10_takesAge_11 (by decide) rfl o1 ⟨by decide, by decide⟩ (fun c39 => ?_) (fun c39 => ?_)
  · have hyp := ht c39
    clear ht hf
    refine ex_bipush 82 dX10_takesAge_80 rfl ⟨by decide, by decide⟩ ?_
    refine ex_aload_n 83 dX10_takesAge_82 rfl rfl ?_
    refine q_getR (a := 11) 10 16 86 dX10_takesAge_83 rfl fiX10_40 rfl ⟨_, rfl⟩ rfl ?_
    refine ex_iload_n 87 dX10_takesAge_86 rfl rfl ?_
    obtain ⟨o2, hyp⟩ := hyp
    obtain ⟨o3, hyp⟩ := hyp
    refine ex_iald 88 dX10_takesAge_87 rfl (ai_of (n := 18) rfl o2 o3 (by decide)) ?_
    refine ex_imul 89 dX10_takesAge_88 rfl ?_
    refine ex_iload_n 90 dX10_takesAge_89 rfl rfl ?_
    refine ex_iadd 91 dX10_takesAge_90 rfl ?_
    refine q_istore [some (vr 0), some (vi x1), some (vi x2), some (vi (x1 - 48)), some (vi ((10 * (m0 11 (x2).toNat)) + (x1 - 48))), none] 93 dX10_takesAge_91 rfl (Nat.le_of_ble_eq_true rfl) rfl rfl ?_
    refine ex_iload_n 94 dX10_takesAge_93 rfl rfl ?_
    refine ex_iconst 95 dX10_takesAge_94 rfl ?_
    refine ex_bipush 97 dX10_takesAge_95 rfl ⟨by decide, by decide⟩ ?_
    refine s_callSi [vi (x1 - 48), vi 0, vi 9] 100 dX10_takesAge_97 rfl cvX10_76 rfl rfl ⟨Nat.le_of_ble_eq_true rfl, Nat.le_of_ble_eq_true rfl⟩ (Nat.le_of_ble_eq_true rfl) hyp (fun y5 h1 hq => ?_)
    obtain ⟨m4, rfl, hyp⟩ := hq
    obtain ⟨o6, hyp⟩ := hyp
    obtain ⟨ht, hf⟩ := hyp
    refine ex_if_eq 124 103 dX10_takesAge_100 (by decide) rfl o6 (fun c31 => ?_) (fun c31 => ?_)
    · have hyp := ht c31
      clear ht hf
      refine ex_iconst 125 dX10_takesAge_124 rfl ?_
      refine q_istore [some (vr 0), some (vi x1), some (vi x2), some (vi (x1 - 48)), some (vi ((10 * (m0 11 (x2).toNat)) + (x1 - 48))), some (vi 0)] 127 dX10_takesAge_125 rfl (Nat.le_of_ble_eq_true rfl) rfl rfl ?_
      refine ex_aload_n 128 dX10_takesAge_127 rfl rfl ?_
      refine q_getR (a := 11) 10 16 131 dX10_takesAge_128 rfl fiX10_40 rfl ⟨_, rfl⟩ rfl ?_
      refine ex_iload_n 132 dX10_takesAge_131 rfl rfl ?_
      refine ex_iload 134 dX10_takesAge_132 rfl rfl ?_
      refine ex_if_eq 142 137 dX10_takesAge_134 (by decide) rfl ⟨by decide, by decide⟩ (fun _ => ?_) (fun c => absurd c (by decide))
      refine ex_aload_n 143 dX10_takesAge_142 rfl rfl ?_
      refine q_getR (a := 11) 10 16 146 dX10_takesAge_143 rfl fiX10_40 rfl ⟨_, rfl⟩ rfl ?_
      refine ex_iload_n 147 dX10_takesAge_146 rfl rfl ?_
      refine ex_iald 148 dX10_takesAge_147 rfl (ai_of (n := 18) rfl o2 o3 (by decide)) ?_
      refine ex_iast 149 dX10_takesAge_148 rfl (ai_of (n := 18) rfl o2 o3 (by decide)) (fun h1 e7 => ?_)
      obtain ⟨m8, eg9⟩ : ∃ z : MS, z = mI m4 11 (x2).toNat (m4 11 (x2).toNat) := ⟨_, rfl⟩
      have hyp := hyp m8 eg9
      obtain rfl : h1 = hM m8 := by rw [e7, eg9]; exact rfl
      clear e7
      refine ex_aload_n 150 dX10_takesAge_149 rfl rfl ?_
      refine ex_iload 152 dX10_takesAge_150 rfl rfl ?_
      refine ex_bipush 154 dX10_takesAge_152 rfl ⟨by decide, by decide⟩ ?_
      refine s_callVi [vi 0, vi 10] 157 dX10_takesAge_154 rfl cvX10_90 rfl rfl ⟨Nat.le_of_ble_eq_true rfl, Nat.le_of_ble_eq_true rfl⟩ (Nat.le_of_ble_eq_true rfl) ⟨_, rfl⟩ hyp (fun y11 h1 hq => ?_)
      obtain ⟨m10, rfl, hyp⟩ := hq
      exact ex_iret dX10_takesAge_157 (Or.inr ⟨rfl, hyp.1⟩) ⟨_, rfl, _, rfl, hyp.2⟩
    · have hyp := hf c31
      clear ht hf
      refine ex_aload_n 104 dX10_takesAge_103 rfl rfl ?_
      refine q_getR (a := 9) 10 14 107 dX10_takesAge_104 rfl fiX10_34 rfl ⟨_, rfl⟩ rfl ?_
      refine ex_iload_n 108 dX10_takesAge_107 rfl rfl ?_
      refine ex_iald 109 dX10_takesAge_108 rfl (ai_of (n := 18) rfl o2 o3 (by decide)) ?_
      refine ex_iconst 110 dX10_takesAge_109 rfl ?_
      obtain ⟨o12, hyp⟩ := hyp
      obtain ⟨ht, hf⟩ := hyp
      refine ex_icmp_eq 120 113 dX10_takesAge_110 (by decide) rfl o12 ⟨by decide, by decide⟩ (fun c30 => ?_) (fun c30 => ?_)
      · have hyp := ht c30
        clear ht hf
        refine ex_iconst 121 dX10_takesAge_120 rfl ?_
        refine ex_goto 125 dX10_takesAge_121 (by decide) ?_
        refine q_istore [some (vr 0), some (vi x1), some (vi x2), some (vi (x1 - 48)), some (vi ((10 * (m0 11 (x2).toNat)) + (x1 - 48))), some (vi 1)] 127 dX10_takesAge_125 rfl (Nat.le_of_ble_eq_true rfl) rfl rfl ?_
        refine ex_aload_n 128 dX10_takesAge_127 rfl rfl ?_
        refine q_getR (a := 11) 10 16 131 dX10_takesAge_128 rfl fiX10_40 rfl ⟨_, rfl⟩ rfl ?_
        refine ex_iload_n 132 dX10_takesAge_131 rfl rfl ?_
        refine ex_iload 134 dX10_takesAge_132 rfl rfl ?_
        refine ex_if_eq 142 137 dX10_takesAge_134 (by decide) rfl ⟨by decide, by decide⟩ (fun c => absurd c (by decide)) (fun _ => ?_)
        refine ex_iload 139 dX10_takesAge_137 rfl rfl ?_
        refine ex_goto 148 dX10_takesAge_139 (by decide) ?_
        refine ex_iast 149 dX10_takesAge_148 rfl (ai_of (n := 18) rfl o2 o3 (by decide)) (fun h1 e13 => ?_)
        obtain ⟨m14, eg15⟩ : ∃ z : MS, z = mI m4 11 (x2).toNat ((10 * (m0 11 (x2).toNat)) + (x1 - 48)) := ⟨_, rfl⟩
        have hyp := hyp m14 eg15
        obtain rfl : h1 = hM m14 := by rw [e13, eg15]; exact rfl
        clear e13
        refine ex_aload_n 150 dX10_takesAge_149 rfl rfl ?_
        refine ex_iload 152 dX10_takesAge_150 rfl rfl ?_
        refine ex_bipush 154 dX10_takesAge_152 rfl ⟨by decide, by decide⟩ ?_
        refine s_callVi [vi 1, vi 10] 157 dX10_takesAge_154 rfl cvX10_90 rfl rfl ⟨Nat.le_of_ble_eq_true rfl, Nat.le_of_ble_eq_true rfl⟩ (Nat.le_of_ble_eq_true rfl) ⟨_, rfl⟩ hyp (fun y17 h1 hq => ?_)
        obtain ⟨m16, rfl, hyp⟩ := hq
        exact ex_iret dX10_takesAge_157 (Or.inr ⟨rfl, hyp.1⟩) ⟨_, rfl, _, rfl, hyp.2⟩
      · have hyp := hf c30
        clear ht hf
        refine ex_iload 115 dX10_takesAge_113 rfl rfl ?_
        refine ex_bipush 117 dX10_takesAge_115 rfl ⟨by decide, by decide⟩ ?_
        obtain ⟨o18, hyp⟩ := hyp
        obtain ⟨ht, hf⟩ := hyp
        refine ex_icmp_lt 124 120 dX10_takesAge_117 (by decide) rfl o18 ⟨by decide, by decide⟩ (fun c29 => ?_) (fun c29 => ?_)
        · have hyp := ht c29
          clear ht hf
          refine ex_iconst 125 dX10_takesAge_124 rfl ?_
          refine q_istore [some (vr 0), some (vi x1), some (vi x2), some (vi (x1 - 48)), some (vi ((10 * (m0 11 (x2).toNat)) + (x1 - 48))), some (vi 0)] 127 dX10_takesAge_125 rfl (Nat.le_of_ble_eq_true rfl) rfl rfl ?_
          refine ex_aload_n 128 dX10_takesAge_127 rfl rfl ?_
          refine q_getR (a := 11) 10 16 131 dX10_takesAge_128 rfl fiX10_40 rfl ⟨_, rfl⟩ rfl ?_
          refine ex_iload_n 132 dX10_takesAge_131 rfl rfl ?_
          refine ex_iload 134 dX10_takesAge_132 rfl rfl ?_
          refine ex_if_eq 142 137 dX10_takesAge_134 (by decide) rfl ⟨by decide, by decide⟩ (fun _ => ?_) (fun c => absurd c (by decide))
          refine ex_aload_n 143 dX10_takesAge_142 rfl rfl ?_
          refine q_getR (a := 11) 10 16 146 dX10_takesAge_143 rfl fiX10_40 rfl ⟨_, rfl⟩ rfl ?_
          refine ex_iload_n 147 dX10_takesAge_146 rfl rfl ?_
          refine ex_iald 148 dX10_takesAge_147 rfl (ai_of (n := 18) rfl o2 o3 (by decide)) ?_
          refine ex_iast 149 dX10_takesAge_148 rfl (ai_of (n := 18) rfl o2 o3 (by decide)) (fun h1 e19 => ?_)
          obtain ⟨m20, eg21⟩ : ∃ z : MS, z = mI m4 11 (x2).toNat (m4 11 (x2).toNat) := ⟨_, rfl⟩
          have hyp := hyp m20 eg21
          obtain rfl : h1 = hM m20 := by rw [e19, eg21]; exact rfl
          clear e19
          refine ex_aload_n 150 dX10_takesAge_149 rfl rfl ?_
          refine ex_iload 152 dX10_takesAge_150 rfl rfl ?_
          refine ex_bipush 154 dX10_takesAge_152 rfl ⟨by decide, by decide⟩ ?_
          refine s_callVi [vi 0, vi 10] 157 dX10_takesAge_154 rfl cvX10_90 rfl rfl ⟨Nat.le_of_ble_eq_true rfl, Nat.le_of_ble_eq_true rfl⟩ (Nat.le_of_ble_eq_true rfl) ⟨_, rfl⟩ hyp (fun y23 h1 hq => ?_)
          obtain ⟨m22, rfl, hyp⟩ := hq
          exact ex_iret dX10_takesAge_157 (Or.inr ⟨rfl, hyp.1⟩) ⟨_, rfl, _, rfl, hyp.2⟩
        · have hyp := hf c29
          clear ht hf
          refine ex_iconst 121 dX10_takesAge_120 rfl ?_
          refine ex_goto 125 dX10_takesAge_121 (by decide) ?_
          refine q_istore [some (vr 0), some (vi x1), some (vi x2), some (vi (x1 - 48)), some (vi ((10 * (m0 11 (x2).toNat)) + (x1 - 48))), some (vi 1)] 127 dX10_takesAge_125 rfl (Nat.le_of_ble_eq_true rfl) rfl rfl ?_
          refine ex_aload_n 128 dX10_takesAge_127 rfl rfl ?_
          refine q_getR (a := 11) 10 16 131 dX10_takesAge_128 rfl fiX10_40 rfl ⟨_, rfl⟩ rfl ?_
          refine ex_iload_n 132 dX10_takesAge_131 rfl rfl ?_
          refine ex_iload 134 dX10_takesAge_132 rfl rfl ?_
          refine ex_if_eq 142 137 dX10_takesAge_134 (by decide) rfl ⟨by decide, by decide⟩ (fun c => absurd c (by decide)) (fun _ => ?_)
          refine ex_iload 139 dX10_takesAge_137 rfl rfl ?_
          refine ex_goto 148 dX10_takesAge_139 (by decide) ?_
          refine ex_iast 149 dX10_takesAge_148 rfl (ai_of (n := 18) rfl o2 o3 (by decide)) (fun h1 e24 => ?_)
          obtain ⟨m25, eg26⟩ : ∃ z : MS, z = mI m4 11 (x2).toNat ((10 * (m0 11 (x2).toNat)) + (x1 - 48)) := ⟨_, rfl⟩
          have hyp := hyp m25 eg26
          obtain rfl : h1 = hM m25 := by rw [e24, eg26]; exact rfl
          clear e24
          refine ex_aload_n 150 dX10_takesAge_149 rfl rfl ?_
          refine ex_iload 152 dX10_takesAge_150 rfl rfl ?_
          refine ex_bipush 154 dX10_takesAge_152 rfl ⟨by decide, by decide⟩ ?_
          refine s_callVi [vi 1, vi 10] 157 dX10_takesAge_154 rfl cvX10_90 rfl rfl ⟨Nat.le_of_ble_eq_true rfl, Nat.le_of_ble_eq_true rfl⟩ (Nat.le_of_ble_eq_true rfl) ⟨_, rfl⟩ hyp (fun y28 h1 hq => ?_)
          obtain ⟨m27, rfl, hyp⟩ := hq
          exact ex_iret dX10_takesAge_157 (Or.inr ⟨rfl, hyp.1⟩) ⟨_, rfl, _, rfl, hyp.2⟩
  · have hyp := hf c39
    clear ht hf
    refine ex_aload_n 15 dX10_takesAge_14 rfl rfl ?_
    refine q_getR (a := 11) 10 16 18 dX10_takesAge_15 rfl fiX10_40 rfl ⟨_, rfl⟩ rfl ?_
    refine ex_iload_n 19 dX10_takesAge_18 rfl rfl ?_
    refine ex_iload_n 20 dX10_takesAge_19 rfl rfl ?_
    obtain ⟨o32, hyp⟩ := hyp
    obtain ⟨o33, hyp⟩ := hyp
    refine ex_iast 21 dX10_takesAge_20 rfl (ai_of (n := 18) rfl o32 o33 (by decide)) (fun h1 e34 => ?_)
    obtain ⟨m35, eg36⟩ : ∃ z : MS, z = mI m0 11 (x2).toNat (x1 - 48) := ⟨_, rfl⟩
    have hyp := hyp m35 eg36
    obtain rfl : h1 = hM m35 := by rw [e34, eg36]; exact rfl
    clear e34
    refine ex_aload_n 22 dX10_takesAge_21 rfl rfl ?_
    refine q_getR (a := 9) 10 14 25 dX10_takesAge_22 rfl fiX10_34 rfl ⟨_, rfl⟩ rfl ?_
    refine ex_iload_n 26 dX10_takesAge_25 rfl rfl ?_
    refine ex_iald 27 dX10_takesAge_26 rfl (ai_of (n := 18) rfl o32 o33 (by decide)) ?_
    refine ex_iconst 28 dX10_takesAge_27 rfl ?_
    obtain ⟨o37, hyp⟩ := hyp
    obtain ⟨ht, hf⟩ := hyp
    refine ex_icmp_ne 35 31 dX10_takesAge_28 (by decide) rfl o37 ⟨by decide, by decide⟩ (fun c38 => ?_) (fun c38 => ?_)
    · have hyp := ht c38
      clear ht hf
      refine ex_iconst 36 dX10_takesAge_35 rfl ?_
      refine ex_dropL (ls' := [some (vr 0), none, some (vi x2), some (vi (x1 - 48)), none, none]) 1 rfl ?_
      refine ex_dropL (ls' := [some (vr 0), none, none, some (vi (x1 - 48)), none, none]) 2 rfl ?_
      exact hyp
    · have hyp := hf c38
      clear ht hf
      refine ex_iconst 32 dX10_takesAge_31 rfl ?_
      refine ex_goto 36 dX10_takesAge_32 (by decide) ?_
      refine ex_dropL (ls' := [some (vr 0), none, some (vi x2), some (vi (x1 - 48)), none, none]) 1 rfl ?_
      refine ex_dropL (ls' := [some (vr 0), none, none, some (vi (x1 - 48)), none, none]) 2 rfl ?_
      exact hyp
set_option maxRecDepth 4000 in
theorem uX10_takesAge_36 {P : Int → MS → Prop} (m0 : MS) (x3 : Int) (xs0 : Int) (hyp : rng xs0 ∧ (xs0 = 0 → (MMi mX10_within [vi x3, vi 0, vi 9] m0 (fun y3 m2 => (xs0 = 0 → (rng x3 ∧ (¬ x3 = 0 → (MMi mX10_goes [vr 0, vi y3, vi 11] m2 (fun y6 m5 => (y6 = 0 ∨ y6 = 1) ∧ P y6 m5))) ∧ (x3 = 0 → (MMi mX10_goes [vr 0, vi y3, vi 10] m2 (fun y8 m7 => (y8 = 0 ∨ y8 = 1) ∧ P y8 m7))))) ∧ (¬ xs0 = 0 → (MMi mX10_goes [vr 0, vi y3, vi 9] m2 (fun y11 m10 => (y11 = 0 ∨ y11 = 1) ∧ P y11 m10)))))) ∧ (¬ xs0 = 0 → (MMi mX10_within [vi x3, vi 1, vi 9] m0 (fun y14 m13 => (xs0 = 0 → (rng x3 ∧ (¬ x3 = 0 → (MMi mX10_goes [vr 0, vi y14, vi 11] m13 (fun y17 m16 => (y17 = 0 ∨ y17 = 1) ∧ P y17 m16))) ∧ (x3 = 0 → (MMi mX10_goes [vr 0, vi y14, vi 10] m13 (fun y19 m18 => (y19 = 0 ∨ y19 = 1) ∧ P y19 m18))))) ∧ (¬ xs0 = 0 → (MMi mX10_goes [vr 0, vi y14, vi 9] m13 (fun y22 m21 => (y22 = 0 ∨ y22 = 1) ∧ P y22 m21))))))) : YYi mX10_takesAge 36 [some (vr 0), none, none, some (vi x3), none, none] [vi xs0] m0 P := by
  refine q_istore [some (vr 0), none, none, some (vi x3), some (vi xs0), none] 38 dX10_takesAge_36 rfl (Nat.le_of_ble_eq_true rfl) rfl rfl ?_
  refine ex_aload_n 39 dX10_takesAge_38 rfl rfl ?_
  refine ex_iload_n 40 dX10_takesAge_39 rfl rfl ?_
  refine ex_iload 42 dX10_takesAge_40 rfl rfl ?_
  obtain ⟨o1, hyp⟩ := hyp
  obtain ⟨ht, hf⟩ := hyp
  refine ex_if_eq 49 45 dX10_takesAge_42 (by decide) rfl o1 (fun c24 => ?_) (fun c24 => ?_)
  · have hyp := ht c24
    clear ht hf
    refine ex_iconst 50 dX10_takesAge_49 rfl ?_
    refine ex_bipush 52 dX10_takesAge_50 rfl ⟨by decide, by decide⟩ ?_
    refine s_callSi [vi x3, vi 0, vi 9] 55 dX10_takesAge_52 rfl cvX10_76 rfl rfl ⟨Nat.le_of_ble_eq_true rfl, Nat.le_of_ble_eq_true rfl⟩ (Nat.le_of_ble_eq_true rfl) hyp (fun y3 h1 hq => ?_)
    obtain ⟨m2, rfl, hyp⟩ := hq
    refine ex_iload 57 dX10_takesAge_55 rfl rfl ?_
    obtain ⟨ht, hf⟩ := hyp
    refine ex_if_eq 65 60 dX10_takesAge_57 (by decide) rfl o1 (fun c12 => ?_) (fun c12 => ?_)
    · have hyp := ht c12
      clear ht hf
      refine ex_iload_n 66 dX10_takesAge_65 rfl rfl ?_
      obtain ⟨o4, hyp⟩ := hyp
      obtain ⟨ht, hf⟩ := hyp
      refine ex_if_ne 74 69 dX10_takesAge_66 (by decide) rfl o4 (fun c9 => ?_) (fun c9 => ?_)
      · have hyp := ht c9
        clear ht hf
        refine ex_bipush 76 dX10_takesAge_74 rfl ⟨by decide, by decide⟩ ?_
        refine s_callVi [vi y3, vi 11] 79 dX10_takesAge_76 rfl cvX10_90 rfl rfl ⟨Nat.le_of_ble_eq_true rfl, Nat.le_of_ble_eq_true rfl⟩ (Nat.le_of_ble_eq_true rfl) ⟨_, rfl⟩ hyp (fun y6 h1 hq => ?_)
        obtain ⟨m5, rfl, hyp⟩ := hq
        exact ex_iret dX10_takesAge_79 (Or.inr ⟨rfl, hyp.1⟩) ⟨_, rfl, _, rfl, hyp.2⟩
      · have hyp := hf c9
        clear ht hf
        refine ex_bipush 71 dX10_takesAge_69 rfl ⟨by decide, by decide⟩ ?_
        refine ex_goto 76 dX10_takesAge_71 (by decide) ?_
        refine s_callVi [vi y3, vi 10] 79 dX10_takesAge_76 rfl cvX10_90 rfl rfl ⟨Nat.le_of_ble_eq_true rfl, Nat.le_of_ble_eq_true rfl⟩ (Nat.le_of_ble_eq_true rfl) ⟨_, rfl⟩ hyp (fun y8 h1 hq => ?_)
        obtain ⟨m7, rfl, hyp⟩ := hq
        exact ex_iret dX10_takesAge_79 (Or.inr ⟨rfl, hyp.1⟩) ⟨_, rfl, _, rfl, hyp.2⟩
    · have hyp := hf c12
      clear ht hf
      refine ex_bipush 62 dX10_takesAge_60 rfl ⟨by decide, by decide⟩ ?_
      refine ex_goto 76 dX10_takesAge_62 (by decide) ?_
      refine s_callVi [vi y3, vi 9] 79 dX10_takesAge_76 rfl cvX10_90 rfl rfl ⟨Nat.le_of_ble_eq_true rfl, Nat.le_of_ble_eq_true rfl⟩ (Nat.le_of_ble_eq_true rfl) ⟨_, rfl⟩ hyp (fun y11 h1 hq => ?_)
      obtain ⟨m10, rfl, hyp⟩ := hq
      exact ex_iret dX10_takesAge_79 (Or.inr ⟨rfl, hyp.1⟩) ⟨_, rfl, _, rfl, hyp.2⟩
  · have hyp := hf c24
    clear ht hf
    refine ex_iconst 46 dX10_takesAge_45 rfl ?_
    refine ex_goto 50 dX10_takesAge_46 (by decide) ?_
    refine ex_bipush 52 dX10_takesAge_50 rfl ⟨by decide, by decide⟩ ?_
    refine s_callSi [vi x3, vi 1, vi 9] 55 dX10_takesAge_52 rfl cvX10_76 rfl rfl ⟨Nat.le_of_ble_eq_true rfl, Nat.le_of_ble_eq_true rfl⟩ (Nat.le_of_ble_eq_true rfl) hyp (fun y14 h1 hq => ?_)
    obtain ⟨m13, rfl, hyp⟩ := hq
    refine ex_iload 57 dX10_takesAge_55 rfl rfl ?_
    obtain ⟨ht, hf⟩ := hyp
    refine ex_if_eq 65 60 dX10_takesAge_57 (by decide) rfl o1 (fun c23 => ?_) (fun c23 => ?_)
    · have hyp := ht c23
      clear ht hf
      refine ex_iload_n 66 dX10_takesAge_65 rfl rfl ?_
      obtain ⟨o15, hyp⟩ := hyp
      obtain ⟨ht, hf⟩ := hyp
      refine ex_if_ne 74 69 dX10_takesAge_66 (by decide) rfl o15 (fun c20 => ?_) (fun c20 => ?_)
      · have hyp := ht c20
        clear ht hf
        refine ex_bipush 76 dX10_takesAge_74 rfl ⟨by decide, by decide⟩ ?_
        refine s_callVi [vi y14, vi 11] 79 dX10_takesAge_76 rfl cvX10_90 rfl rfl ⟨Nat.le_of_ble_eq_true rfl, Nat.le_of_ble_eq_true rfl⟩ (Nat.le_of_ble_eq_true rfl) ⟨_, rfl⟩ hyp (fun y17 h1 hq => ?_)
        obtain ⟨m16, rfl, hyp⟩ := hq
        exact ex_iret dX10_takesAge_79 (Or.inr ⟨rfl, hyp.1⟩) ⟨_, rfl, _, rfl, hyp.2⟩
      · have hyp := hf c20
        clear ht hf
        refine ex_bipush 71 dX10_takesAge_69 rfl ⟨by decide, by decide⟩ ?_
        refine ex_goto 76 dX10_takesAge_71 (by decide) ?_
        refine s_callVi [vi y14, vi 10] 79 dX10_takesAge_76 rfl cvX10_90 rfl rfl ⟨Nat.le_of_ble_eq_true rfl, Nat.le_of_ble_eq_true rfl⟩ (Nat.le_of_ble_eq_true rfl) ⟨_, rfl⟩ hyp (fun y19 h1 hq => ?_)
        obtain ⟨m18, rfl, hyp⟩ := hq
        exact ex_iret dX10_takesAge_79 (Or.inr ⟨rfl, hyp.1⟩) ⟨_, rfl, _, rfl, hyp.2⟩
    · have hyp := hf c23
      clear ht hf
      refine ex_bipush 62 dX10_takesAge_60 rfl ⟨by decide, by decide⟩ ?_
      refine ex_goto 76 dX10_takesAge_62 (by decide) ?_
      refine s_callVi [vi y14, vi 9] 79 dX10_takesAge_76 rfl cvX10_90 rfl rfl ⟨Nat.le_of_ble_eq_true rfl, Nat.le_of_ble_eq_true rfl⟩ (Nat.le_of_ble_eq_true rfl) ⟨_, rfl⟩ hyp (fun y22 h1 hq => ?_)
      obtain ⟨m21, rfl, hyp⟩ := hq
      exact ex_iret dX10_takesAge_79 (Or.inr ⟨rfl, hyp.1⟩) ⟨_, rfl, _, rfl, hyp.2⟩
set_option maxRecDepth 4000 in
theorem uX10_takesEnd {P : Int → MS → Prop} (m0 : MS) (x1 : Int) (x2 : Int) (hyp : rng x1 ∧ (¬ x1 = 59 → (rng (m0 0 12) ∧ (¬ m0 0 12 = 7 → ((¬ m0 0 12 = 11 → (P 0 m0)) ∧ (m0 0 12 = 11 → (MMi mX10_takesAge [vr 0, vi x1, vi x2] m0 (fun y4 m3 => rng y4 ∧ (y4 = 0 → (P 0 m3)) ∧ (¬ y4 = 0 → (P 1 m3))))))) ∧ (m0 0 12 = 7 → ((¬ x1 = 46 → (MMi mX10_goes [vr 0, vi 0, vi 8] m0 (fun y9 m8 => (y9 = 0 ∨ y9 = 1) ∧ P y9 m8))) ∧ (x1 = 46 → (0 ≤ x2 ∧ x2 < 18 ∧ rng (m0 9 (x2).toNat) ∧ (m0 9 (x2).toNat = 0 → (MMi mX10_goes [vr 0, vi 0, vi 8] m0 (fun y14 m13 => (y14 = 0 ∨ y14 = 1) ∧ P y14 m13))) ∧ (¬ m0 9 (x2).toNat = 0 → (MMi mX10_goes [vr 0, vi 1, vi 8] m0 (fun y16 m15 => (y16 = 0 ∨ y16 = 1) ∧ P y16 m15))))))))) ∧ (x1 = 59 → (MMi mX10_goes [vr 0, vi 1, vi 0] m0 (fun y21 m20 => (y21 = 0 ∨ y21 = 1) ∧ P y21 m20)))) : MMi mX10_takesEnd [vr 0, vi x1, vi x2] m0 P := by
  refine met_of_ex (by decide +kernel) (Nat.le_of_ble_eq_true rfl) ?_
  show EX mX10_takesEnd 0 [some (vr 0), some (vi x1), some (vi x2)] [] (hM m0) (0, 0) _
  refine ex_iload_n 1 dX10_takesEnd_0 rfl rfl ?_
  refine ex_bipush 3 dX10_takesEnd_1 rfl ⟨by decide, by decide⟩ ?_
  obtain ⟨o1, hyp⟩ := hyp
  obtain ⟨ht, hf⟩ := hyp
  refine ex_icmp_ne 13 6 dX10_takesEnd_3 (by decide) rfl o1 ⟨by decide, by decide⟩ (fun c22 => ?_) (fun c22 => ?_)
  · have hyp := ht c22
    clear ht hf
    refine ex_aload_n 14 dX10_takesEnd_13 rfl rfl ?_
    refine q_getI 10 12 17 dX10_takesEnd_14 rfl fiX10_84 (Or.inl rfl) ⟨_, rfl⟩ ?_
    refine ex_bipush 19 dX10_takesEnd_17 rfl ⟨by decide, by decide⟩ ?_
    obtain ⟨o2, hyp⟩ := hyp
    obtain ⟨ht, hf⟩ := hyp
    refine ex_icmp_ne 49 22 dX10_takesEnd_19 (by decide) rfl o2 ⟨by decide, by decide⟩ (fun c19 => ?_) (fun c19 => ?_)
    · have hyp := ht c19
      clear ht hf
      refine ex_aload_n 50 dX10_takesEnd_49 rfl rfl ?_
      refine q_getI 10 12 53 dX10_takesEnd_50 rfl fiX10_84 (Or.inl rfl) ⟨_, rfl⟩ ?_
      refine ex_bipush 55 dX10_takesEnd_53 rfl ⟨by decide, by decide⟩ ?_
      obtain ⟨ht, hf⟩ := hyp
      refine ex_icmp_ne 71 58 dX10_takesEnd_55 (by decide) rfl o2 ⟨by decide, by decide⟩ (fun c7 => ?_) (fun c7 => ?_)
      · have hyp := ht c7
        clear ht hf
        refine ex_iconst 72 dX10_takesEnd_71 rfl ?_
        exact ex_iret dX10_takesEnd_72 (Or.inr ⟨rfl, Or.inl rfl⟩) ⟨_, rfl, _, rfl, hyp⟩
      · have hyp := hf c7
        clear ht hf
        refine ex_aload_n 59 dX10_takesEnd_58 rfl rfl ?_
        refine ex_iload_n 60 dX10_takesEnd_59 rfl rfl ?_
        refine ex_iload_n 61 dX10_takesEnd_60 rfl rfl ?_
        refine s_callVi [vi x1, vi x2] 64 dX10_takesEnd_61 rfl cvX10_94 rfl rfl ⟨Nat.le_of_ble_eq_true rfl, Nat.le_of_ble_eq_true rfl⟩ (Nat.le_of_ble_eq_true rfl) ⟨_, rfl⟩ hyp (fun y4 h1 hq => ?_)
        obtain ⟨m3, rfl, hyp⟩ := hq
        obtain ⟨o5, hyp⟩ := hyp
        obtain ⟨ht, hf⟩ := hyp
        refine ex_if_eq 71 67 dX10_takesEnd_64 (by decide) rfl o5 (fun c6 => ?_) (fun c6 => ?_)
        · have hyp := ht c6
          clear ht hf
          refine ex_iconst 72 dX10_takesEnd_71 rfl ?_
          exact ex_iret dX10_takesEnd_72 (Or.inr ⟨rfl, Or.inl rfl⟩) ⟨_, rfl, _, rfl, hyp⟩
        · have hyp := hf c6
          clear ht hf
          refine ex_iconst 68 dX10_takesEnd_67 rfl ?_
          refine ex_goto 72 dX10_takesEnd_68 (by decide) ?_
          exact ex_iret dX10_takesEnd_72 (Or.inr ⟨rfl, Or.inr rfl⟩) ⟨_, rfl, _, rfl, hyp⟩
    · have hyp := hf c19
      clear ht hf
      refine ex_aload_n 23 dX10_takesEnd_22 rfl rfl ?_
      refine ex_iload_n 24 dX10_takesEnd_23 rfl rfl ?_
      refine ex_bipush 26 dX10_takesEnd_24 rfl ⟨by decide, by decide⟩ ?_
      obtain ⟨ht, hf⟩ := hyp
      refine ex_icmp_ne 42 29 dX10_takesEnd_26 (by decide) rfl o1 ⟨by decide, by decide⟩ (fun c18 => ?_) (fun c18 => ?_)
      · have hyp := ht c18
        clear ht hf
        refine ex_iconst 43 dX10_takesEnd_42 rfl ?_
        refine ex_bipush 45 dX10_takesEnd_43 rfl ⟨by decide, by decide⟩ ?_
        refine s_callVi [vi 0, vi 8] 48 dX10_takesEnd_45 rfl cvX10_90 rfl rfl ⟨Nat.le_of_ble_eq_true rfl, Nat.le_of_ble_eq_true rfl⟩ (Nat.le_of_ble_eq_true rfl) ⟨_, rfl⟩ hyp (fun y9 h1 hq => ?_)
        obtain ⟨m8, rfl, hyp⟩ := hq
        exact ex_iret dX10_takesEnd_48 (Or.inr ⟨rfl, hyp.1⟩) ⟨_, rfl, _, rfl, hyp.2⟩
      · have hyp := hf c18
        clear ht hf
        refine ex_aload_n 30 dX10_takesEnd_29 rfl rfl ?_
        refine q_getR (a := 9) 10 14 33 dX10_takesEnd_30 rfl fiX10_34 rfl ⟨_, rfl⟩ rfl ?_
        refine ex_iload_n 34 dX10_takesEnd_33 rfl rfl ?_
        obtain ⟨o10, hyp⟩ := hyp
        obtain ⟨o11, hyp⟩ := hyp
        refine ex_iald 35 dX10_takesEnd_34 rfl (ai_of (n := 18) rfl o10 o11 (by decide)) ?_
        obtain ⟨o12, hyp⟩ := hyp
        obtain ⟨ht, hf⟩ := hyp
        refine ex_if_eq 42 38 dX10_takesEnd_35 (by decide) rfl o12 (fun c17 => ?_) (fun c17 => ?_)
        · have hyp := ht c17
          clear ht hf
          refine ex_iconst 43 dX10_takesEnd_42 rfl ?_
          refine ex_bipush 45 dX10_takesEnd_43 rfl ⟨by decide, by decide⟩ ?_
          refine s_callVi [vi 0, vi 8] 48 dX10_takesEnd_45 rfl cvX10_90 rfl rfl ⟨Nat.le_of_ble_eq_true rfl, Nat.le_of_ble_eq_true rfl⟩ (Nat.le_of_ble_eq_true rfl) ⟨_, rfl⟩ hyp (fun y14 h1 hq => ?_)
          obtain ⟨m13, rfl, hyp⟩ := hq
          exact ex_iret dX10_takesEnd_48 (Or.inr ⟨rfl, hyp.1⟩) ⟨_, rfl, _, rfl, hyp.2⟩
        · have hyp := hf c17
          clear ht hf
          refine ex_iconst 39 dX10_takesEnd_38 rfl ?_
          refine ex_goto 43 dX10_takesEnd_39 (by decide) ?_
          refine ex_bipush 45 dX10_takesEnd_43 rfl ⟨by decide, by decide⟩ ?_
          refine s_callVi [vi 1, vi 8] 48 dX10_takesEnd_45 rfl cvX10_90 rfl rfl ⟨Nat.le_of_ble_eq_true rfl, Nat.le_of_ble_eq_true rfl⟩ (Nat.le_of_ble_eq_true rfl) ⟨_, rfl⟩ hyp (fun y16 h1 hq => ?_)
          obtain ⟨m15, rfl, hyp⟩ := hq
          exact ex_iret dX10_takesEnd_48 (Or.inr ⟨rfl, hyp.1⟩) ⟨_, rfl, _, rfl, hyp.2⟩
  · have hyp := hf c22
    clear ht hf
    refine ex_aload_n 7 dX10_takesEnd_6 rfl rfl ?_
    refine ex_iconst 8 dX10_takesEnd_7 rfl ?_
    refine ex_iconst 9 dX10_takesEnd_8 rfl ?_
    refine s_callVi [vi 1, vi 0] 12 dX10_takesEnd_9 rfl cvX10_90 rfl rfl ⟨Nat.le_of_ble_eq_true rfl, Nat.le_of_ble_eq_true rfl⟩ (Nat.le_of_ble_eq_true rfl) ⟨_, rfl⟩ hyp (fun y21 h1 hq => ?_)
    obtain ⟨m20, rfl, hyp⟩ := hq
    exact ex_iret dX10_takesEnd_12 (Or.inr ⟨rfl, hyp.1⟩) ⟨_, rfl, _, rfl, hyp.2⟩
set_option maxRecDepth 4000 in
theorem uX10_takes {P : Int → MS → Prop} (m0 : MS) (x1 : Int) (hyp : rng (m0 0 12) ∧ (m0 0 12 < 0 ∨ 9 < m0 0 12 → (MMi mX10_takesEnd [vr 0, vi x1, vi ((m0 0 13) - 1)] m0 (fun y3 m2 => (y3 = 0 ∨ y3 = 1) ∧ P y3 m2))) ∧ (m0 0 12 = 0 → (MMi mX10_takesKind [vr 0, vi x1] m0 (fun y5 m4 => (y5 = 0 ∨ y5 = 1) ∧ P y5 m4))) ∧ (m0 0 12 = 1 → (MMi mX10_takesName [vr 0, vi x1, vi ((m0 0 13) - 1)] m0 (fun y7 m6 => (y7 = 0 ∨ y7 = 1) ∧ P y7 m6))) ∧ (m0 0 12 = 2 → (MMi mX10_takesName [vr 0, vi x1, vi ((m0 0 13) - 1)] m0 (fun y9 m8 => (y9 = 0 ∨ y9 = 1) ∧ P y9 m8))) ∧ (m0 0 12 = 3 → (MMi mX10_takesYear [vr 0, vi x1, vi ((m0 0 13) - 1)] m0 (fun y11 m10 => (y11 = 0 ∨ y11 = 1) ∧ P y11 m10))) ∧ (m0 0 12 = 4 → (MMi mX10_takesYear [vr 0, vi x1, vi ((m0 0 13) - 1)] m0 (fun y13 m12 => (y13 = 0 ∨ y13 = 1) ∧ P y13 m12))) ∧ (m0 0 12 = 5 → (MMi mX10_takesYear [vr 0, vi x1, vi ((m0 0 13) - 1)] m0 (fun y15 m14 => (y15 = 0 ∨ y15 = 1) ∧ P y15 m14))) ∧ (m0 0 12 = 6 → (MMi mX10_takesYear [vr 0, vi x1, vi ((m0 0 13) - 1)] m0 (fun y17 m16 => (y17 = 0 ∨ y17 = 1) ∧ P y17 m16))) ∧ (m0 0 12 = 7 → (MMi mX10_takesEnd [vr 0, vi x1, vi ((m0 0 13) - 1)] m0 (fun y19 m18 => (y19 = 0 ∨ y19 = 1) ∧ P y19 m18))) ∧ (m0 0 12 = 8 → (MMi mX10_takesAge [vr 0, vi x1, vi ((m0 0 13) - 1)] m0 (fun y21 m20 => (y21 = 0 ∨ y21 = 1) ∧ P y21 m20))) ∧ (m0 0 12 = 9 → (MMi mX10_takesAge [vr 0, vi x1, vi ((m0 0 13) - 1)] m0 (fun y23 m22 => (y23 = 0 ∨ y23 = 1) ∧ P y23 m22)))) : MMi mX10_takes [vr 0, vi x1] m0 P := by
  refine met_of_ex (by decide +kernel) (Nat.le_of_ble_eq_true rfl) ?_
  show EX mX10_takes 0 [some (vr 0), some (vi x1), none] [] (hM m0) (0, 0) _
  refine ex_aload_n 1 dX10_takes_0 rfl rfl ?_
  refine q_getI 10 13 4 dX10_takes_1 rfl fiX10_87 (Or.inl rfl) ⟨_, rfl⟩ ?_
  refine ex_iconst 5 dX10_takes_4 rfl ?_
  refine ex_isub 6 dX10_takes_5 rfl ?_
  refine q_istore_n [some (vr 0), some (vi x1), some (vi ((m0 0 13) - 1))] 7 dX10_takes_6 rfl (Nat.le_of_ble_eq_true rfl) rfl rfl ?_
  refine ex_aload_n 8 dX10_takes_7 rfl rfl ?_
  refine q_getI 10 12 11 dX10_takes_8 rfl fiX10_84 (Or.inl rfl) ⟨_, rfl⟩ ?_
  obtain ⟨o1, hyp⟩ := hyp
  obtain ⟨hd, hv0, hv1, hv2, hv3, hv4, hv5, hv6, hv7, hv8, hv9⟩ := hyp
  rcases (show (m0 0 12 < 0 ∨ 9 < m0 0 12) ∨ m0 0 12 = 0 ∨ m0 0 12 = 1 ∨ m0 0 12 = 2 ∨ m0 0 12 = 3 ∨ m0 0 12 = 4 ∨ m0 0 12 = 5 ∨ m0 0 12 = 6 ∨ m0 0 12 = 7 ∨ m0 0 12 = 8 ∨ m0 0 12 = 9 by omega) with c | c | c | c | c | c | c | c | c | c | c
  · refine ex_tswOut 91 dX10_takes_11 o1 c (by decide) ?_
    have hyp := hd c
    refine ex_aload_n 92 dX10_takes_91 rfl rfl ?_
    refine ex_iload_n 93 dX10_takes_92 rfl rfl ?_
    refine ex_iload_n 94 dX10_takes_93 rfl rfl ?_
    refine s_callVi [vi x1, vi ((m0 0 13) - 1)] 97 dX10_takes_94 rfl cvX10_108 rfl rfl ⟨Nat.le_of_ble_eq_true rfl, Nat.le_of_ble_eq_true rfl⟩ (Nat.le_of_ble_eq_true rfl) ⟨_, rfl⟩ hyp (fun y3 h1 hq => ?_)
    obtain ⟨m2, rfl, hyp⟩ := hq
    exact ex_iret dX10_takes_97 (Or.inr ⟨rfl, hyp.1⟩) ⟨_, rfl, _, rfl, hyp.2⟩
  · refine ex_tswIn 0 64 dX10_takes_11 c ⟨by decide, by decide⟩ (by decide) (by decide) rfl (by decide) ?_
    have hyp := hv0 c
    refine ex_aload_n 65 dX10_takes_64 rfl rfl ?_
    refine ex_iload_n 66 dX10_takes_65 rfl rfl ?_
    refine s_callVi [vi x1] 69 dX10_takes_66 rfl cvX10_98 rfl rfl ⟨Nat.le_of_ble_eq_true rfl, Nat.le_of_ble_eq_true rfl⟩ (Nat.le_of_ble_eq_true rfl) ⟨_, rfl⟩ hyp (fun y5 h1 hq => ?_)
    obtain ⟨m4, rfl, hyp⟩ := hq
    exact ex_iret dX10_takes_69 (Or.inr ⟨rfl, hyp.1⟩) ⟨_, rfl, _, rfl, hyp.2⟩
  · refine ex_tswIn 1 70 dX10_takes_11 c ⟨by decide, by decide⟩ (by decide) (by decide) rfl (by decide) ?_
    have hyp := hv1 c
    refine ex_aload_n 71 dX10_takes_70 rfl rfl ?_
    refine ex_iload_n 72 dX10_takes_71 rfl rfl ?_
    refine ex_iload_n 73 dX10_takes_72 rfl rfl ?_
    refine s_callVi [vi x1, vi ((m0 0 13) - 1)] 76 dX10_takes_73 rfl cvX10_102 rfl rfl ⟨Nat.le_of_ble_eq_true rfl, Nat.le_of_ble_eq_true rfl⟩ (Nat.le_of_ble_eq_true rfl) ⟨_, rfl⟩ hyp (fun y7 h1 hq => ?_)
    obtain ⟨m6, rfl, hyp⟩ := hq
    exact ex_iret dX10_takes_76 (Or.inr ⟨rfl, hyp.1⟩) ⟨_, rfl, _, rfl, hyp.2⟩
  · refine ex_tswIn 2 70 dX10_takes_11 c ⟨by decide, by decide⟩ (by decide) (by decide) rfl (by decide) ?_
    have hyp := hv2 c
    refine ex_aload_n 71 dX10_takes_70 rfl rfl ?_
    refine ex_iload_n 72 dX10_takes_71 rfl rfl ?_
    refine ex_iload_n 73 dX10_takes_72 rfl rfl ?_
    refine s_callVi [vi x1, vi ((m0 0 13) - 1)] 76 dX10_takes_73 rfl cvX10_102 rfl rfl ⟨Nat.le_of_ble_eq_true rfl, Nat.le_of_ble_eq_true rfl⟩ (Nat.le_of_ble_eq_true rfl) ⟨_, rfl⟩ hyp (fun y9 h1 hq => ?_)
    obtain ⟨m8, rfl, hyp⟩ := hq
    exact ex_iret dX10_takes_76 (Or.inr ⟨rfl, hyp.1⟩) ⟨_, rfl, _, rfl, hyp.2⟩
  · refine ex_tswIn 3 77 dX10_takes_11 c ⟨by decide, by decide⟩ (by decide) (by decide) rfl (by decide) ?_
    have hyp := hv3 c
    refine ex_aload_n 78 dX10_takes_77 rfl rfl ?_
    refine ex_iload_n 79 dX10_takes_78 rfl rfl ?_
    refine ex_iload_n 80 dX10_takes_79 rfl rfl ?_
    refine s_callVi [vi x1, vi ((m0 0 13) - 1)] 83 dX10_takes_80 rfl cvX10_105 rfl rfl ⟨Nat.le_of_ble_eq_true rfl, Nat.le_of_ble_eq_true rfl⟩ (Nat.le_of_ble_eq_true rfl) ⟨_, rfl⟩ hyp (fun y11 h1 hq => ?_)
    obtain ⟨m10, rfl, hyp⟩ := hq
    exact ex_iret dX10_takes_83 (Or.inr ⟨rfl, hyp.1⟩) ⟨_, rfl, _, rfl, hyp.2⟩
  · refine ex_tswIn 4 77 dX10_takes_11 c ⟨by decide, by decide⟩ (by decide) (by decide) rfl (by decide) ?_
    have hyp := hv4 c
    refine ex_aload_n 78 dX10_takes_77 rfl rfl ?_
    refine ex_iload_n 79 dX10_takes_78 rfl rfl ?_
    refine ex_iload_n 80 dX10_takes_79 rfl rfl ?_
    refine s_callVi [vi x1, vi ((m0 0 13) - 1)] 83 dX10_takes_80 rfl cvX10_105 rfl rfl ⟨Nat.le_of_ble_eq_true rfl, Nat.le_of_ble_eq_true rfl⟩ (Nat.le_of_ble_eq_true rfl) ⟨_, rfl⟩ hyp (fun y13 h1 hq => ?_)
    obtain ⟨m12, rfl, hyp⟩ := hq
    exact ex_iret dX10_takes_83 (Or.inr ⟨rfl, hyp.1⟩) ⟨_, rfl, _, rfl, hyp.2⟩
  · refine ex_tswIn 5 77 dX10_takes_11 c ⟨by decide, by decide⟩ (by decide) (by decide) rfl (by decide) ?_
    have hyp := hv5 c
    refine ex_aload_n 78 dX10_takes_77 rfl rfl ?_
    refine ex_iload_n 79 dX10_takes_78 rfl rfl ?_
    refine ex_iload_n 80 dX10_takes_79 rfl rfl ?_
    refine s_callVi [vi x1, vi ((m0 0 13) - 1)] 83 dX10_takes_80 rfl cvX10_105 rfl rfl ⟨Nat.le_of_ble_eq_true rfl, Nat.le_of_ble_eq_true rfl⟩ (Nat.le_of_ble_eq_true rfl) ⟨_, rfl⟩ hyp (fun y15 h1 hq => ?_)
    obtain ⟨m14, rfl, hyp⟩ := hq
    exact ex_iret dX10_takes_83 (Or.inr ⟨rfl, hyp.1⟩) ⟨_, rfl, _, rfl, hyp.2⟩
  · refine ex_tswIn 6 77 dX10_takes_11 c ⟨by decide, by decide⟩ (by decide) (by decide) rfl (by decide) ?_
    have hyp := hv6 c
    refine ex_aload_n 78 dX10_takes_77 rfl rfl ?_
    refine ex_iload_n 79 dX10_takes_78 rfl rfl ?_
    refine ex_iload_n 80 dX10_takes_79 rfl rfl ?_
    refine s_callVi [vi x1, vi ((m0 0 13) - 1)] 83 dX10_takes_80 rfl cvX10_105 rfl rfl ⟨Nat.le_of_ble_eq_true rfl, Nat.le_of_ble_eq_true rfl⟩ (Nat.le_of_ble_eq_true rfl) ⟨_, rfl⟩ hyp (fun y17 h1 hq => ?_)
    obtain ⟨m16, rfl, hyp⟩ := hq
    exact ex_iret dX10_takes_83 (Or.inr ⟨rfl, hyp.1⟩) ⟨_, rfl, _, rfl, hyp.2⟩
  · refine ex_tswIn 7 91 dX10_takes_11 c ⟨by decide, by decide⟩ (by decide) (by decide) rfl (by decide) ?_
    have hyp := hv7 c
    refine ex_aload_n 92 dX10_takes_91 rfl rfl ?_
    refine ex_iload_n 93 dX10_takes_92 rfl rfl ?_
    refine ex_iload_n 94 dX10_takes_93 rfl rfl ?_
    refine s_callVi [vi x1, vi ((m0 0 13) - 1)] 97 dX10_takes_94 rfl cvX10_108 rfl rfl ⟨Nat.le_of_ble_eq_true rfl, Nat.le_of_ble_eq_true rfl⟩ (Nat.le_of_ble_eq_true rfl) ⟨_, rfl⟩ hyp (fun y19 h1 hq => ?_)
    obtain ⟨m18, rfl, hyp⟩ := hq
    exact ex_iret dX10_takes_97 (Or.inr ⟨rfl, hyp.1⟩) ⟨_, rfl, _, rfl, hyp.2⟩
  · refine ex_tswIn 8 84 dX10_takes_11 c ⟨by decide, by decide⟩ (by decide) (by decide) rfl (by decide) ?_
    have hyp := hv8 c
    refine ex_aload_n 85 dX10_takes_84 rfl rfl ?_
    refine ex_iload_n 86 dX10_takes_85 rfl rfl ?_
    refine ex_iload_n 87 dX10_takes_86 rfl rfl ?_
    refine s_callVi [vi x1, vi ((m0 0 13) - 1)] 90 dX10_takes_87 rfl cvX10_94 rfl rfl ⟨Nat.le_of_ble_eq_true rfl, Nat.le_of_ble_eq_true rfl⟩ (Nat.le_of_ble_eq_true rfl) ⟨_, rfl⟩ hyp (fun y21 h1 hq => ?_)
    obtain ⟨m20, rfl, hyp⟩ := hq
    exact ex_iret dX10_takes_90 (Or.inr ⟨rfl, hyp.1⟩) ⟨_, rfl, _, rfl, hyp.2⟩
  · refine ex_tswIn 9 84 dX10_takes_11 c ⟨by decide, by decide⟩ (by decide) (by decide) rfl (by decide) ?_
    have hyp := hv9 c
    refine ex_aload_n 85 dX10_takes_84 rfl rfl ?_
    refine ex_iload_n 86 dX10_takes_85 rfl rfl ?_
    refine ex_iload_n 87 dX10_takes_86 rfl rfl ?_
    refine s_callVi [vi x1, vi ((m0 0 13) - 1)] 90 dX10_takes_87 rfl cvX10_94 rfl rfl ⟨Nat.le_of_ble_eq_true rfl, Nat.le_of_ble_eq_true rfl⟩ (Nat.le_of_ble_eq_true rfl) ⟨_, rfl⟩ hyp (fun y23 h1 hq => ?_)
    obtain ⟨m22, rfl, hyp⟩ := hq
    exact ex_iret dX10_takes_90 (Or.inr ⟨rfl, hyp.1⟩) ⟨_, rfl, _, rfl, hyp.2⟩
set_option maxRecDepth 4000 in
theorem uX10_read {P : Int → MS → Prop} (m0 : MS)  (hyp : ∀ m2 : MS, m2 = mI m0 0 12 0 → (∀ m5 : MS, m5 = mI m2 0 13 0 → (YYi mX10_read 12 [some (vr 0), some (vi 0)] [] m5 P))) : MMi mX10_read [vr 0] m0 P := by
  refine met_of_ex (by decide +kernel) (Nat.le_of_ble_eq_true rfl) ?_
  show EX mX10_read 0 [some (vr 0), none] [] (hM m0) (0, 0) _
  refine ex_aload_n 1 dX10_read_0 rfl rfl ?_
  refine ex_iconst 2 dX10_read_1 rfl ?_
  refine q_putI 10 12 5 dX10_read_2 rfl fiX10_84 ff10_12 rfl ⟨_, rfl⟩ (fun h1 e1 => ?_)
  obtain ⟨m2, eg3⟩ : ∃ z : MS, z = mI m0 0 12 0 := ⟨_, rfl⟩
  have hyp := hyp m2 eg3
  obtain rfl : h1 = hM m2 := by rw [e1, eg3]; exact rfl
  clear e1
  refine ex_aload_n 6 dX10_read_5 rfl rfl ?_
  refine ex_iconst 7 dX10_read_6 rfl ?_
  refine q_putI 10 13 10 dX10_read_7 rfl fiX10_87 ff10_13 rfl ⟨_, rfl⟩ (fun h1 e4 => ?_)
  obtain ⟨m5, eg6⟩ : ∃ z : MS, z = mI m2 0 13 0 := ⟨_, rfl⟩
  have hyp := hyp m5 eg6
  obtain rfl : h1 = hM m5 := by rw [e4, eg6]; exact rfl
  clear e4
  refine ex_iconst 11 dX10_read_10 rfl ?_
  refine q_istore_n [some (vr 0), some (vi 0)] 12 dX10_read_11 rfl (Nat.le_of_ble_eq_true rfl) rfl rfl ?_
  exact hyp
set_option maxRecDepth 4000 in
theorem uX10_read_12 {P : Int → MS → Prop} (m0 : MS) (x1 : Int) (hyp : rng x1 ∧ rng (m0 0 0) ∧ (m0 0 0 ≤ x1 → (P x1 m0)) ∧ (x1 < m0 0 0 → (0 ≤ x1 ∧ x1 < 60 ∧ MMi mX10_takes [vr 0, vi (m0 1 (x1).toNat)] m0 (fun y6 m5 => rng y6 ∧ (y6 = 0 → (P x1 m5)) ∧ (¬ y6 = 0 → (YYi mX10_read 12 [some (vr 0), some (vi (x1 + 1))] [] m5 P)))))) : YYi mX10_read 12 [some (vr 0), some (vi x1)] [] m0 P := by
  refine ex_iload_n 13 dX10_read_12 rfl rfl ?_
  refine ex_aload_n 14 dX10_read_13 rfl rfl ?_
  refine q_getI 10 0 17 dX10_read_14 rfl fiX10_80 (Or.inl rfl) ⟨_, rfl⟩ ?_
  obtain ⟨o1, hyp⟩ := hyp
  obtain ⟨o2, hyp⟩ := hyp
  obtain ⟨ht, hf⟩ := hyp
  refine ex_icmp_ge 39 20 dX10_read_17 (by decide) rfl o1 o2 (fun c9 => ?_) (fun c9 => ?_)
  · have hyp := ht c9
    clear ht hf
    refine ex_iload_n 40 dX10_read_39 rfl rfl ?_
    exact ex_iret dX10_read_40 (Or.inl rfl) ⟨_, rfl, _, rfl, hyp⟩
  · have hyp := hf c9
    clear ht hf
    refine ex_aload_n 21 dX10_read_20 rfl rfl ?_
    refine ex_aload_n 22 dX10_read_21 rfl rfl ?_
    refine q_getR (a := 1) 10 1 25 dX10_read_22 rfl fiX10_7 rfl ⟨_, rfl⟩ rfl ?_
    refine ex_iload_n 26 dX10_read_25 rfl rfl ?_
    obtain ⟨o3, hyp⟩ := hyp
    obtain ⟨o4, hyp⟩ := hyp
    refine ex_iald 27 dX10_read_26 rfl (ai_of (n := 60) rfl o3 o4 (by decide)) ?_
    refine s_callVi [vi (m0 1 (x1).toNat)] 30 dX10_read_27 rfl cvX10_111 rfl rfl ⟨Nat.le_of_ble_eq_true rfl, Nat.le_of_ble_eq_true rfl⟩ (Nat.le_of_ble_eq_true rfl) ⟨_, rfl⟩ hyp (fun y6 h1 hq => ?_)
    obtain ⟨m5, rfl, hyp⟩ := hq
    obtain ⟨o7, hyp⟩ := hyp
    obtain ⟨ht, hf⟩ := hyp
    refine ex_if_eq 39 33 dX10_read_30 (by decide) rfl o7 (fun c8 => ?_) (fun c8 => ?_)
    · have hyp := ht c8
      clear ht hf
      refine ex_iload_n 40 dX10_read_39 rfl rfl ?_
      exact ex_iret dX10_read_40 (Or.inl rfl) ⟨_, rfl, _, rfl, hyp⟩
    · have hyp := hf c8
      clear ht hf
      refine q_iinc [some (vr 0), some (vi (x1 + 1))] 36 dX10_read_33 rfl rfl (Nat.le_of_ble_eq_true rfl) rfl rfl ?_
      refine ex_goto 12 dX10_read_36 (by decide) ?_
      exact hyp
set_option maxRecDepth 4000 in
theorem uX10_fault {P : Int → MS → Prop} (m0 : MS)  (hyp : MMi mX10_read [vr 0] m0 (fun y2 m1 => P y2 m1)) : MMi mX10_fault [vr 0] m0 P := by
  refine met_of_ex (by decide +kernel) (Nat.le_of_ble_eq_true rfl) ?_
  show EX mX10_fault 0 [some (vr 0)] [] (hM m0) (0, 0) _
  refine ex_aload_n 1 dX10_fault_0 rfl rfl ?_
  refine s_callVi [] 4 dX10_fault_1 rfl cvX10_114 rfl rfl ⟨Nat.le_of_ble_eq_true rfl, Nat.le_of_ble_eq_true rfl⟩ (Nat.le_of_ble_eq_true rfl) ⟨_, rfl⟩ hyp (fun y2 h1 hq => ?_)
  obtain ⟨m1, rfl, hyp⟩ := hq
  exact ex_iret dX10_fault_4 (Or.inl rfl) ⟨_, rfl, _, rfl, hyp⟩
set_option maxRecDepth 4000 in
theorem uX10_ofKind {P : Int → MS → Prop} (m0 : MS) (x1 : Int) (hyp : YYi mX10_ofKind 4 [some (vr 0), some (vi x1), some (vi 0), some (vi 0)] [] m0 P) : MMi mX10_ofKind [vr 0, vi x1] m0 P := by
  refine met_of_ex (by decide +kernel) (Nat.le_of_ble_eq_true rfl) ?_
  show EX mX10_ofKind 0 [some (vr 0), some (vi x1), none, none] [] (hM m0) (0, 0) _
  refine ex_iconst 1 dX10_ofKind_0 rfl ?_
  refine q_istore_n [some (vr 0), some (vi x1), some (vi 0), none] 2 dX10_ofKind_1 rfl (Nat.le_of_ble_eq_true rfl) rfl rfl ?_
  refine ex_iconst 3 dX10_ofKind_2 rfl ?_
  refine q_istore_n [some (vr 0), some (vi x1), some (vi 0), some (vi 0)] 4 dX10_ofKind_3 rfl (Nat.le_of_ble_eq_true rfl) rfl rfl ?_
  exact hyp
set_option maxRecDepth 4000 in
theorem uX10_ofKind_4 {P : Int → MS → Prop} (m0 : MS) (x1 : Int) (x2 : Int) (x3 : Int) (hyp : rng x3 ∧ rng (m0 0 2) ∧ (m0 0 2 ≤ x3 → (P x2 m0)) ∧ (x3 < m0 0 2 → (0 ≤ x3 ∧ x3 < 18 ∧ rng (m0 2 (x3).toNat) ∧ rng x1 ∧ (¬ m0 2 (x3).toNat = x1 → (YYi mX10_ofKind 4 [some (vr 0), some (vi x1), some (vi (x2 + 0)), some (vi (x3 + 1))] [] m0 P)) ∧ (m0 2 (x3).toNat = x1 → (YYi mX10_ofKind 4 [some (vr 0), some (vi x1), some (vi (x2 + 1)), some (vi (x3 + 1))] [] m0 P))))) : YYi mX10_ofKind 4 [some (vr 0), some (vi x1), some (vi x2), some (vi x3)] [] m0 P := by
  refine ex_iload_n 5 dX10_ofKind_4 rfl rfl ?_
  refine ex_aload_n 6 dX10_ofKind_5 rfl rfl ?_
  refine q_getI 10 2 9 dX10_ofKind_6 rfl fiX10_118 (Or.inl rfl) ⟨_, rfl⟩ ?_
  obtain ⟨o1, hyp⟩ := hyp
  obtain ⟨o2, hyp⟩ := hyp
  obtain ⟨ht, hf⟩ := hyp
  refine ex_icmp_ge 36 12 dX10_ofKind_9 (by decide) rfl o1 o2 (fun c8 => ?_) (fun c8 => ?_)
  · have hyp := ht c8
    clear ht hf
    refine ex_iload_n 37 dX10_ofKind_36 rfl rfl ?_
    exact ex_iret dX10_ofKind_37 (Or.inl rfl) ⟨_, rfl, _, rfl, hyp⟩
  · have hyp := hf c8
    clear ht hf
    refine ex_iload_n 13 dX10_ofKind_12 rfl rfl ?_
    refine ex_aload_n 14 dX10_ofKind_13 rfl rfl ?_
    refine q_getR (a := 2) 10 3 17 dX10_ofKind_14 rfl fiX10_13 rfl ⟨_, rfl⟩ rfl ?_
    refine ex_iload_n 18 dX10_ofKind_17 rfl rfl ?_
    obtain ⟨o3, hyp⟩ := hyp
    obtain ⟨o4, hyp⟩ := hyp
    refine ex_iald 19 dX10_ofKind_18 rfl (ai_of (n := 18) rfl o3 o4 (by decide)) ?_
    refine ex_iload_n 20 dX10_ofKind_19 rfl rfl ?_
    obtain ⟨o5, hyp⟩ := hyp
    obtain ⟨o6, hyp⟩ := hyp
    obtain ⟨ht, hf⟩ := hyp
    refine ex_icmp_ne 27 23 dX10_ofKind_20 (by decide) rfl o5 o6 (fun c7 => ?_) (fun c7 => ?_)
    · have hyp := ht c7
      clear ht hf
      refine ex_iconst 28 dX10_ofKind_27 rfl ?_
      refine ex_iadd 29 dX10_ofKind_28 rfl ?_
      refine q_istore_n [some (vr 0), some (vi x1), some (vi (x2 + 0)), some (vi x3)] 30 dX10_ofKind_29 rfl (Nat.le_of_ble_eq_true rfl) rfl rfl ?_
      refine q_iinc [some (vr 0), some (vi x1), some (vi (x2 + 0)), some (vi (x3 + 1))] 33 dX10_ofKind_30 rfl rfl (Nat.le_of_ble_eq_true rfl) rfl rfl ?_
      refine ex_goto 4 dX10_ofKind_33 (by decide) ?_
      exact hyp
    · have hyp := hf c7
      clear ht hf
      refine ex_iconst 24 dX10_ofKind_23 rfl ?_
      refine ex_goto 28 dX10_ofKind_24 (by decide) ?_
      refine ex_iadd 29 dX10_ofKind_28 rfl ?_
      refine q_istore_n [some (vr 0), some (vi x1), some (vi (x2 + 1)), some (vi x3)] 30 dX10_ofKind_29 rfl (Nat.le_of_ble_eq_true rfl) rfl rfl ?_
      refine q_iinc [some (vr 0), some (vi x1), some (vi (x2 + 1)), some (vi (x3 + 1))] 33 dX10_ofKind_30 rfl rfl (Nat.le_of_ble_eq_true rfl) rfl rfl ?_
      refine ex_goto 4 dX10_ofKind_33 (by decide) ?_
      exact hyp
set_option maxRecDepth 4000 in
theorem uX10_newOfKind {P : Int → MS → Prop} (m0 : MS) (x1 : Int) (hyp : YYi mX10_newOfKind 4 [some (vr 0), some (vi x1), some (vi 0), some (vi 0)] [] m0 P) : MMi mX10_newOfKind [vr 0, vi x1] m0 P := by
  refine met_of_ex (by decide +kernel) (Nat.le_of_ble_eq_true rfl) ?_
  show EX mX10_newOfKind 0 [some (vr 0), some (vi x1), none, none] [] (hM m0) (0, 0) _
  refine ex_iconst 1 dX10_newOfKind_0 rfl ?_
  refine q_istore_n [some (vr 0), some (vi x1), some (vi 0), none] 2 dX10_newOfKind_1 rfl (Nat.le_of_ble_eq_true rfl) rfl rfl ?_
  refine ex_iconst 3 dX10_newOfKind_2 rfl ?_
  refine q_istore_n [some (vr 0), some (vi x1), some (vi 0), some (vi 0)] 4 dX10_newOfKind_3 rfl (Nat.le_of_ble_eq_true rfl) rfl rfl ?_
  exact hyp
set_option maxRecDepth 4000 in
theorem uX10_newOfKind_4 {P : Int → MS → Prop} (m0 : MS) (x1 : Int) (x2 : Int) (x3 : Int) (hyp : rng x3 ∧ rng (m0 0 13) ∧ (m0 0 13 ≤ x3 → (P x2 m0)) ∧ (x3 < m0 0 13 → (0 ≤ x3 ∧ x3 < 18 ∧ rng (m0 9 (x3).toNat) ∧ rng x1 ∧ (¬ m0 9 (x3).toNat = x1 → (YYi mX10_newOfKind 4 [some (vr 0), some (vi x1), some (vi (x2 + 0)), some (vi (x3 + 1))] [] m0 P)) ∧ (m0 9 (x3).toNat = x1 → (YYi mX10_newOfKind 4 [some (vr 0), some (vi x1), some (vi (x2 + 1)), some (vi (x3 + 1))] [] m0 P))))) : YYi mX10_newOfKind 4 [some (vr 0), some (vi x1), some (vi x2), some (vi x3)] [] m0 P := by
  refine ex_iload_n 5 dX10_newOfKind_4 rfl rfl ?_
  refine ex_aload_n 6 dX10_newOfKind_5 rfl rfl ?_
  refine q_getI 10 13 9 dX10_newOfKind_6 rfl fiX10_87 (Or.inl rfl) ⟨_, rfl⟩ ?_
  obtain ⟨o1, hyp⟩ := hyp
  obtain ⟨o2, hyp⟩ := hyp
  obtain ⟨ht, hf⟩ := hyp
  refine ex_icmp_ge 36 12 dX10_newOfKind_9 (by decide) rfl o1 o2 (fun c8 => ?_) (fun c8 => ?_)
  · have hyp := ht c8
    clear ht hf
    refine ex_iload_n 37 dX10_newOfKind_36 rfl rfl ?_
    exact ex_iret dX10_newOfKind_37 (Or.inl rfl) ⟨_, rfl, _, rfl, hyp⟩
  · have hyp := hf c8
    clear ht hf
    refine ex_iload_n 13 dX10_newOfKind_12 rfl rfl ?_
    refine ex_aload_n 14 dX10_newOfKind_13 rfl rfl ?_
    refine q_getR (a := 9) 10 14 17 dX10_newOfKind_14 rfl fiX10_34 rfl ⟨_, rfl⟩ rfl ?_
    refine ex_iload_n 18 dX10_newOfKind_17 rfl rfl ?_
    obtain ⟨o3, hyp⟩ := hyp
    obtain ⟨o4, hyp⟩ := hyp
    refine ex_iald 19 dX10_newOfKind_18 rfl (ai_of (n := 18) rfl o3 o4 (by decide)) ?_
    refine ex_iload_n 20 dX10_newOfKind_19 rfl rfl ?_
    obtain ⟨o5, hyp⟩ := hyp
    obtain ⟨o6, hyp⟩ := hyp
    obtain ⟨ht, hf⟩ := hyp
    refine ex_icmp_ne 27 23 dX10_newOfKind_20 (by decide) rfl o5 o6 (fun c7 => ?_) (fun c7 => ?_)
    · have hyp := ht c7
      clear ht hf
      refine ex_iconst 28 dX10_newOfKind_27 rfl ?_
      refine ex_iadd 29 dX10_newOfKind_28 rfl ?_
      refine q_istore_n [some (vr 0), some (vi x1), some (vi (x2 + 0)), some (vi x3)] 30 dX10_newOfKind_29 rfl (Nat.le_of_ble_eq_true rfl) rfl rfl ?_
      refine q_iinc [some (vr 0), some (vi x1), some (vi (x2 + 0)), some (vi (x3 + 1))] 33 dX10_newOfKind_30 rfl rfl (Nat.le_of_ble_eq_true rfl) rfl rfl ?_
      refine ex_goto 4 dX10_newOfKind_33 (by decide) ?_
      exact hyp
    · have hyp := hf c7
      clear ht hf
      refine ex_iconst 24 dX10_newOfKind_23 rfl ?_
      refine ex_goto 28 dX10_newOfKind_24 (by decide) ?_
      refine ex_iadd 29 dX10_newOfKind_28 rfl ?_
      refine q_istore_n [some (vr 0), some (vi x1), some (vi (x2 + 1)), some (vi x3)] 30 dX10_newOfKind_29 rfl (Nat.le_of_ble_eq_true rfl) rfl rfl ?_
      refine q_iinc [some (vr 0), some (vi x1), some (vi (x2 + 1)), some (vi (x3 + 1))] 33 dX10_newOfKind_30 rfl rfl (Nat.le_of_ble_eq_true rfl) rfl rfl ?_
      refine ex_goto 4 dX10_newOfKind_33 (by decide) ?_
      exact hyp
set_option maxRecDepth 4000 in
theorem uX10_isRoom {P : Int → MS → Prop} (m0 : MS)  (hyp : rng ((m0 0 2) + (m0 0 13)) ∧ (18 < (m0 0 2) + (m0 0 13) → (YYi mX10_isRoom 22 [some (vr 0), some (vi 0), some (vi 0)] [] m0 P)) ∧ ((m0 0 2) + (m0 0 13) ≤ 18 → (YYi mX10_isRoom 22 [some (vr 0), some (vi 1), some (vi 0)] [] m0 P))) : MMi mX10_isRoom [vr 0] m0 P := by
  refine met_of_ex (by decide +kernel) (Nat.le_of_ble_eq_true rfl) ?_
  show EX mX10_isRoom 0 [some (vr 0), none, none] [] (hM m0) (0, 0) _
  refine ex_aload_n 1 dX10_isRoom_0 rfl rfl ?_
  refine q_getI 10 2 4 dX10_isRoom_1 rfl fiX10_118 (Or.inl rfl) ⟨_, rfl⟩ ?_
  refine ex_aload_n 5 dX10_isRoom_4 rfl rfl ?_
  refine q_getI 10 13 8 dX10_isRoom_5 rfl fiX10_87 (Or.inl rfl) ⟨_, rfl⟩ ?_
  refine ex_iadd 9 dX10_isRoom_8 rfl ?_
  refine ex_bipush 11 dX10_isRoom_9 rfl ⟨by decide, by decide⟩ ?_
  obtain ⟨o1, hyp⟩ := hyp
  obtain ⟨ht, hf⟩ := hyp
  refine ex_icmp_gt 18 14 dX10_isRoom_11 (by decide) rfl o1 ⟨by decide, by decide⟩ (fun c2 => ?_) (fun c2 => ?_)
  · have hyp := ht c2
    clear ht hf
    refine ex_iconst 19 dX10_isRoom_18 rfl ?_
    refine q_istore_n [some (vr 0), some (vi 0), none] 20 dX10_isRoom_19 rfl (Nat.le_of_ble_eq_true rfl) rfl rfl ?_
    refine ex_iconst 21 dX10_isRoom_20 rfl ?_
    refine q_istore_n [some (vr 0), some (vi 0), some (vi 0)] 22 dX10_isRoom_21 rfl (Nat.le_of_ble_eq_true rfl) rfl rfl ?_
    exact hyp
  · have hyp := hf c2
    clear ht hf
    refine ex_iconst 15 dX10_isRoom_14 rfl ?_
    refine ex_goto 19 dX10_isRoom_15 (by decide) ?_
    refine q_istore_n [some (vr 0), some (vi 1), none] 20 dX10_isRoom_19 rfl (Nat.le_of_ble_eq_true rfl) rfl rfl ?_
    refine ex_iconst 21 dX10_isRoom_20 rfl ?_
    refine q_istore_n [some (vr 0), some (vi 1), some (vi 0)] 22 dX10_isRoom_21 rfl (Nat.le_of_ble_eq_true rfl) rfl rfl ?_
    exact hyp
set_option maxRecDepth 4000 in
theorem uX10_isRoom_22 {P : Int → MS → Prop} (m0 : MS) (x1 : Int) (x2 : Int) (hyp : rng x2 ∧ (3 ≤ x2 → ((x1 = 0 ∨ x1 = 1) ∧ P x1 m0)) ∧ (x2 < 3 → (rng x1 ∧ (x1 = 0 → (YYi mX10_isRoom 22 [some (vr 0), some (vi 0), some (vi (x2 + 1))] [] m0 P)) ∧ (¬ x1 = 0 → (MMi mX10_ofKind [vr 0, vi x2] m0 (fun y4 m3 => MMi mX10_newOfKind [vr 0, vi x2] m3 (fun y6 m5 => rng (y4 + y6) ∧ (7 < y4 + y6 → (YYi mX10_isRoom 22 [some (vr 0), some (vi 0), some (vi (x2 + 1))] [] m5 P)) ∧ (y4 + y6 ≤ 7 → (YYi mX10_isRoom 22 [some (vr 0), some (vi 1), some (vi (x2 + 1))] [] m5 P))))))))) : YYi mX10_isRoom 22 [some (vr 0), some (vi x1), some (vi x2)] [] m0 P := by
  refine ex_iload_n 23 dX10_isRoom_22 rfl rfl ?_
  refine ex_iconst 24 dX10_isRoom_23 rfl ?_
  obtain ⟨o1, hyp⟩ := hyp
  obtain ⟨ht, hf⟩ := hyp
  refine ex_icmp_ge 59 27 dX10_isRoom_24 (by decide) rfl o1 ⟨by decide, by decide⟩ (fun c10 => ?_) (fun c10 => ?_)
  · have hyp := ht c10
    clear ht hf
    refine ex_iload_n 60 dX10_isRoom_59 rfl rfl ?_
    exact ex_iret dX10_isRoom_60 (Or.inr ⟨rfl, hyp.1⟩) ⟨_, rfl, _, rfl, hyp.2⟩
  · have hyp := hf c10
    clear ht hf
    refine ex_iload_n 28 dX10_isRoom_27 rfl rfl ?_
    obtain ⟨o2, hyp⟩ := hyp
    obtain ⟨ht, hf⟩ := hyp
    refine ex_if_eq 51 31 dX10_isRoom_28 (by decide) rfl o2 (fun c9 => ?_) (fun c9 => ?_)
    · have hyp := ht c9
      clear ht hf
      refine ex_iconst 52 dX10_isRoom_51 rfl ?_
      refine q_istore_n [some (vr 0), some (vi 0), some (vi x2)] 53 dX10_isRoom_52 rfl (Nat.le_of_ble_eq_true rfl) rfl rfl ?_
      refine q_iinc [some (vr 0), some (vi 0), some (vi (x2 + 1))] 56 dX10_isRoom_53 rfl rfl (Nat.le_of_ble_eq_true rfl) rfl rfl ?_
      refine ex_goto 22 dX10_isRoom_56 (by decide) ?_
      exact hyp
    · have hyp := hf c9
      clear ht hf
      refine ex_aload_n 32 dX10_isRoom_31 rfl rfl ?_
      refine ex_iload_n 33 dX10_isRoom_32 rfl rfl ?_
      refine s_callVi [vi x2] 36 dX10_isRoom_33 rfl cvX10_121 rfl rfl ⟨Nat.le_of_ble_eq_true rfl, Nat.le_of_ble_eq_true rfl⟩ (Nat.le_of_ble_eq_true rfl) ⟨_, rfl⟩ hyp (fun y4 h1 hq => ?_)
      obtain ⟨m3, rfl, hyp⟩ := hq
      refine ex_aload_n 37 dX10_isRoom_36 rfl rfl ?_
      refine ex_iload_n 38 dX10_isRoom_37 rfl rfl ?_
      refine s_callVi [vi x2] 41 dX10_isRoom_38 rfl cvX10_125 rfl rfl ⟨Nat.le_of_ble_eq_true rfl, Nat.le_of_ble_eq_true rfl⟩ (Nat.le_of_ble_eq_true rfl) ⟨_, rfl⟩ hyp (fun y6 h1 hq => ?_)
      obtain ⟨m5, rfl, hyp⟩ := hq
      refine ex_iadd 42 dX10_isRoom_41 rfl ?_
      refine ex_bipush 44 dX10_isRoom_42 rfl ⟨by decide, by decide⟩ ?_
      obtain ⟨o7, hyp⟩ := hyp
      obtain ⟨ht, hf⟩ := hyp
      refine ex_icmp_gt 51 47 dX10_isRoom_44 (by decide) rfl o7 ⟨by decide, by decide⟩ (fun c8 => ?_) (fun c8 => ?_)
      · have hyp := ht c8
        clear ht hf
        refine ex_iconst 52 dX10_isRoom_51 rfl ?_
        refine q_istore_n [some (vr 0), some (vi 0), some (vi x2)] 53 dX10_isRoom_52 rfl (Nat.le_of_ble_eq_true rfl) rfl rfl ?_
        refine q_iinc [some (vr 0), some (vi 0), some (vi (x2 + 1))] 56 dX10_isRoom_53 rfl rfl (Nat.le_of_ble_eq_true rfl) rfl rfl ?_
        refine ex_goto 22 dX10_isRoom_56 (by decide) ?_
        exact hyp
      · have hyp := hf c8
        clear ht hf
        refine ex_iconst 48 dX10_isRoom_47 rfl ?_
        refine ex_goto 52 dX10_isRoom_48 (by decide) ?_
        refine q_istore_n [some (vr 0), some (vi 1), some (vi x2)] 53 dX10_isRoom_52 rfl (Nat.le_of_ble_eq_true rfl) rfl rfl ?_
        refine q_iinc [some (vr 0), some (vi 1), some (vi (x2 + 1))] 56 dX10_isRoom_53 rfl rfl (Nat.le_of_ble_eq_true rfl) rfl rfl ?_
        refine ex_goto 22 dX10_isRoom_56 (by decide) ?_
        exact hyp
set_option maxRecDepth 4000 in
theorem uX10_enter {P : Int → MS → Prop} (m0 : MS)  (hyp : MMi mX10_read [vr 0] m0 (fun y2 m1 => rng y2 ∧ rng (m1 0 0) ∧ (¬ y2 = m1 0 0 → (P (-103) m1)) ∧ (y2 = m1 0 0 → (rng (m1 0 12) ∧ (m1 0 12 = 7 → (MMi mX10_isRoom [vr 0] m1 (fun y7 m6 => rng y7 ∧ (¬ y7 = 0 → (YYi mX10_enter 54 [some (vr 0), none, some (vi 0), none, none] [] m6 P)) ∧ (y7 = 0 → (P (-104) m6))))) ∧ (¬ m1 0 12 = 7 → ((m1 0 12 ≤ 9 → (P (-103) m1)) ∧ (9 < m1 0 12 → (MMi mX10_isRoom [vr 0] m1 (fun y11 m10 => rng y11 ∧ (¬ y11 = 0 → (YYi mX10_enter 54 [some (vr 0), none, some (vi 0), none, none] [] m10 P)) ∧ (y11 = 0 → (P (-104) m10))))))))))) : MMi mX10_enter [vr 0] m0 P := by
  refine met_of_ex (by decide +kernel) (Nat.le_of_ble_eq_true rfl) ?_
  show EX mX10_enter 0 [some (vr 0), none, none, none, none] [] (hM m0) (0, 0) _
  refine ex_aload_n 1 dX10_enter_0 rfl rfl ?_
  refine s_callVi [] 4 dX10_enter_1 rfl cvX10_114 rfl rfl ⟨Nat.le_of_ble_eq_true rfl, Nat.le_of_ble_eq_true rfl⟩ (Nat.le_of_ble_eq_true rfl) ⟨_, rfl⟩ hyp (fun y2 h1 hq => ?_)
  obtain ⟨m1, rfl, hyp⟩ := hq
  refine ex_aload_n 5 dX10_enter_4 rfl rfl ?_
  refine q_getI 10 0 8 dX10_enter_5 rfl fiX10_80 (Or.inl rfl) ⟨_, rfl⟩ ?_
  obtain ⟨o3, hyp⟩ := hyp
  obtain ⟨o4, hyp⟩ := hyp
  obtain ⟨ht, hf⟩ := hyp
  refine ex_icmp_ne 33 11 dX10_enter_8 (by decide) rfl o3 o4 (fun c16 => ?_) (fun c16 => ?_)
  · have hyp := ht c16
    clear ht hf
    refine ex_iconst 34 dX10_enter_33 rfl ?_
    refine q_istore_n [some (vr 0), some (vi 0), none, none, none] 35 dX10_enter_34 rfl (Nat.le_of_ble_eq_true rfl) rfl rfl ?_
    refine ex_iload_n 36 dX10_enter_35 rfl rfl ?_
    refine ex_if_ne 42 39 dX10_enter_36 (by decide) rfl ⟨by decide, by decide⟩ (fun c => absurd c (by decide)) (fun _ => ?_)
    refine ex_bipush 41 dX10_enter_39 rfl ⟨by decide, by decide⟩ ?_
    exact ex_iret dX10_enter_41 (Or.inl rfl) ⟨_, rfl, _, rfl, hyp⟩
  · have hyp := hf c16
    clear ht hf
    refine ex_aload_n 12 dX10_enter_11 rfl rfl ?_
    refine q_getI 10 12 15 dX10_enter_12 rfl fiX10_84 (Or.inl rfl) ⟨_, rfl⟩ ?_
    refine ex_bipush 17 dX10_enter_15 rfl ⟨by decide, by decide⟩ ?_
    obtain ⟨o5, hyp⟩ := hyp
    obtain ⟨ht, hf⟩ := hyp
    refine ex_icmp_eq 29 20 dX10_enter_17 (by decide) rfl o5 ⟨by decide, by decide⟩ (fun c15 => ?_) (fun c15 => ?_)
    · have hyp := ht c15
      clear ht hf
      refine ex_iconst 30 dX10_enter_29 rfl ?_
      refine ex_goto 34 dX10_enter_30 (by decide) ?_
      refine q_istore_n [some (vr 0), some (vi 1), none, none, none] 35 dX10_enter_34 rfl (Nat.le_of_ble_eq_true rfl) rfl rfl ?_
      refine ex_iload_n 36 dX10_enter_35 rfl rfl ?_
      refine ex_if_ne 42 39 dX10_enter_36 (by decide) rfl ⟨by decide, by decide⟩ (fun _ => ?_) (fun c => absurd c (by decide))
      refine ex_aload_n 43 dX10_enter_42 rfl rfl ?_
      refine s_callVi [] 46 dX10_enter_43 rfl cvX10_128 rfl rfl ⟨Nat.le_of_ble_eq_true rfl, Nat.le_of_ble_eq_true rfl⟩ (Nat.le_of_ble_eq_true rfl) ⟨_, rfl⟩ hyp (fun y7 h1 hq => ?_)
      obtain ⟨m6, rfl, hyp⟩ := hq
      obtain ⟨o8, hyp⟩ := hyp
      obtain ⟨ht, hf⟩ := hyp
      refine ex_if_ne 52 49 dX10_enter_46 (by decide) rfl o8 (fun c9 => ?_) (fun c9 => ?_)
      · have hyp := ht c9
        clear ht hf
        refine ex_iconst 53 dX10_enter_52 rfl ?_
        refine q_istore_n [some (vr 0), some (vi 1), some (vi 0), none, none] 54 dX10_enter_53 rfl (Nat.le_of_ble_eq_true rfl) rfl rfl ?_
        refine ex_dropL (ls' := [some (vr 0), none, some (vi 0), none, none]) 1 rfl ?_
        exact hyp
      · have hyp := hf c9
        clear ht hf
        refine ex_bipush 51 dX10_enter_49 rfl ⟨by decide, by decide⟩ ?_
        exact ex_iret dX10_enter_51 (Or.inl rfl) ⟨_, rfl, _, rfl, hyp⟩
    · have hyp := hf c15
      clear ht hf
      refine ex_aload_n 21 dX10_enter_20 rfl rfl ?_
      refine q_getI 10 12 24 dX10_enter_21 rfl fiX10_84 (Or.inl rfl) ⟨_, rfl⟩ ?_
      refine ex_bipush 26 dX10_enter_24 rfl ⟨by decide, by decide⟩ ?_
      obtain ⟨ht, hf⟩ := hyp
      refine ex_icmp_le 33 29 dX10_enter_26 (by decide) rfl o5 ⟨by decide, by decide⟩ (fun c14 => ?_) (fun c14 => ?_)
      · have hyp := ht c14
        clear ht hf
        refine ex_iconst 34 dX10_enter_33 rfl ?_
        refine q_istore_n [some (vr 0), some (vi 0), none, none, none] 35 dX10_enter_34 rfl (Nat.le_of_ble_eq_true rfl) rfl rfl ?_
        refine ex_iload_n 36 dX10_enter_35 rfl rfl ?_
        refine ex_if_ne 42 39 dX10_enter_36 (by decide) rfl ⟨by decide, by decide⟩ (fun c => absurd c (by decide)) (fun _ => ?_)
        refine ex_bipush 41 dX10_enter_39 rfl ⟨by decide, by decide⟩ ?_
        exact ex_iret dX10_enter_41 (Or.inl rfl) ⟨_, rfl, _, rfl, hyp⟩
      · have hyp := hf c14
        clear ht hf
        refine ex_iconst 30 dX10_enter_29 rfl ?_
        refine ex_goto 34 dX10_enter_30 (by decide) ?_
        refine q_istore_n [some (vr 0), some (vi 1), none, none, none] 35 dX10_enter_34 rfl (Nat.le_of_ble_eq_true rfl) rfl rfl ?_
        refine ex_iload_n 36 dX10_enter_35 rfl rfl ?_
        refine ex_if_ne 42 39 dX10_enter_36 (by decide) rfl ⟨by decide, by decide⟩ (fun _ => ?_) (fun c => absurd c (by decide))
        refine ex_aload_n 43 dX10_enter_42 rfl rfl ?_
        refine s_callVi [] 46 dX10_enter_43 rfl cvX10_128 rfl rfl ⟨Nat.le_of_ble_eq_true rfl, Nat.le_of_ble_eq_true rfl⟩ (Nat.le_of_ble_eq_true rfl) ⟨_, rfl⟩ hyp (fun y11 h1 hq => ?_)
        obtain ⟨m10, rfl, hyp⟩ := hq
        obtain ⟨o12, hyp⟩ := hyp
        obtain ⟨ht, hf⟩ := hyp
        refine ex_if_ne 52 49 dX10_enter_46 (by decide) rfl o12 (fun c13 => ?_) (fun c13 => ?_)
        · have hyp := ht c13
          clear ht hf
          refine ex_iconst 53 dX10_enter_52 rfl ?_
          refine q_istore_n [some (vr 0), some (vi 1), some (vi 0), none, none] 54 dX10_enter_53 rfl (Nat.le_of_ble_eq_true rfl) rfl rfl ?_
          refine ex_dropL (ls' := [some (vr 0), none, some (vi 0), none, none]) 1 rfl ?_
          exact hyp
        · have hyp := hf c13
          clear ht hf
          refine ex_bipush 51 dX10_enter_49 rfl ⟨by decide, by decide⟩ ?_
          exact ex_iret dX10_enter_51 (Or.inl rfl) ⟨_, rfl, _, rfl, hyp⟩
set_option maxRecDepth 4000 in
theorem uX10_enter_54 {P : Int → MS → Prop} (m0 : MS) (x2 : Int) (hyp : rng x2 ∧ rng (m0 0 13) ∧ (m0 0 13 ≤ x2 → (∀ m4 : MS, m4 = mI m0 0 2 ((m0 0 2) + (m0 0 13)) → (∀ m7 : MS, m7 = mI m4 0 10 ((m4 0 10) + 1) → (∀ m10 : MS, m10 = mI m7 0 0 0 → (P (m10 0 13) m10))))) ∧ (x2 < m0 0 13 → (0 ≤ x2 ∧ x2 < 18 ∧ 0 ≤ (m0 0 2) + x2 ∧ (m0 0 2) + x2 < 18 ∧ ∀ m17 : MS, m17 = mI m0 2 ((m0 0 2) + x2).toNat (m0 9 (x2).toNat) → (∀ m20 : MS, m20 = mI m17 3 ((m0 0 2) + x2).toNat (m17 10 (x2).toNat) → (∀ m23 : MS, m23 = mI m20 4 ((m0 0 2) + x2).toNat (m20 11 (x2).toNat) → (∀ m26 : MS, m26 = mI m23 5 ((m0 0 2) + x2).toNat (m23 12 (x2).toNat) → (∀ m29 : MS, m29 = mI m26 7 ((m0 0 2) + x2).toNat 0 → (YYi mX10_enter 127 [some (vr 0), none, some (vi x2), some (vi ((m0 0 2) + x2)), some (vi 0)] [] m29 P)))))))) : YYi mX10_enter 54 [some (vr 0), none, some (vi x2), none, none] [] m0 P := by
  refine ex_iload_n 55 dX10_enter_54 rfl rfl ?_
  refine ex_aload_n 56 dX10_enter_55 rfl rfl ?_
  refine q_getI 10 13 59 dX10_enter_56 rfl fiX10_87 (Or.inl rfl) ⟨_, rfl⟩ ?_
  obtain ⟨o1, hyp⟩ := hyp
  obtain ⟨o2, hyp⟩ := hyp
  obtain ⟨ht, hf⟩ := hyp
  refine ex_icmp_ge 170 62 dX10_enter_59 (by decide) rfl o1 o2 (fun c31 => ?_) (fun c31 => ?_)
  · have hyp := ht c31
    clear ht hf
    refine ex_aload_n 171 dX10_enter_170 rfl rfl ?_
    refine ex_dup 172 dX10_enter_171 rfl rfl ?_
    refine q_getI 10 2 175 dX10_enter_172 rfl fiX10_118 (Or.inl rfl) ⟨_, rfl⟩ ?_
    refine ex_aload_n 176 dX10_enter_175 rfl rfl ?_
    refine q_getI 10 13 179 dX10_enter_176 rfl fiX10_87 (Or.inl rfl) ⟨_, rfl⟩ ?_
    refine ex_iadd 180 dX10_enter_179 rfl ?_
    refine q_putI 10 2 183 dX10_enter_180 rfl fiX10_118 ff10_2 rfl ⟨_, rfl⟩ (fun h1 e3 => ?_)
    obtain ⟨m4, eg5⟩ : ∃ z : MS, z = mI m0 0 2 ((m0 0 2) + (m0 0 13)) := ⟨_, rfl⟩
    have hyp := hyp m4 eg5
    obtain rfl : h1 = hM m4 := by rw [e3, eg5]; exact rfl
    clear e3
    refine ex_aload_n 184 dX10_enter_183 rfl rfl ?_
    refine ex_dup 185 dX10_enter_184 rfl rfl ?_
    refine q_getI 10 10 188 dX10_enter_185 rfl fiX10_132 (Or.inl rfl) ⟨_, rfl⟩ ?_
    refine ex_iconst 189 dX10_enter_188 rfl ?_
    refine ex_iadd 190 dX10_enter_189 rfl ?_
    refine q_putI 10 10 193 dX10_enter_190 rfl fiX10_132 ff10_10 rfl ⟨_, rfl⟩ (fun h1 e6 => ?_)
    obtain ⟨m7, eg8⟩ : ∃ z : MS, z = mI m4 0 10 ((m4 0 10) + 1) := ⟨_, rfl⟩
    have hyp := hyp m7 eg8
    obtain rfl : h1 = hM m7 := by rw [e6, eg8]; exact rfl
    clear e6
    refine ex_aload_n 194 dX10_enter_193 rfl rfl ?_
    refine ex_iconst 195 dX10_enter_194 rfl ?_
    refine q_putI 10 0 198 dX10_enter_195 rfl fiX10_80 ff10_0 rfl ⟨_, rfl⟩ (fun h1 e9 => ?_)
    obtain ⟨m10, eg11⟩ : ∃ z : MS, z = mI m7 0 0 0 := ⟨_, rfl⟩
    have hyp := hyp m10 eg11
    obtain rfl : h1 = hM m10 := by rw [e9, eg11]; exact rfl
    clear e9
    refine ex_aload_n 199 dX10_enter_198 rfl rfl ?_
    refine q_getI 10 13 202 dX10_enter_199 rfl fiX10_87 (Or.inl rfl) ⟨_, rfl⟩ ?_
    exact ex_iret dX10_enter_202 (Or.inl rfl) ⟨_, rfl, _, rfl, hyp⟩
  · have hyp := hf c31
    clear ht hf
    refine ex_aload_n 63 dX10_enter_62 rfl rfl ?_
    refine q_getI 10 2 66 dX10_enter_63 rfl fiX10_118 (Or.inl rfl) ⟨_, rfl⟩ ?_
    refine ex_iload_n 67 dX10_enter_66 rfl rfl ?_
    refine ex_iadd 68 dX10_enter_67 rfl ?_
    refine q_istore_n [some (vr 0), none, some (vi x2), some (vi ((m0 0 2) + x2)), none] 69 dX10_enter_68 rfl (Nat.le_of_ble_eq_true rfl) rfl rfl ?_
    refine ex_aload_n 70 dX10_enter_69 rfl rfl ?_
    refine q_getR (a := 2) 10 3 73 dX10_enter_70 rfl fiX10_13 rfl ⟨_, rfl⟩ rfl ?_
    refine ex_iload_n 74 dX10_enter_73 rfl rfl ?_
    refine ex_aload_n 75 dX10_enter_74 rfl rfl ?_
    refine q_getR (a := 9) 10 14 78 dX10_enter_75 rfl fiX10_34 rfl ⟨_, rfl⟩ rfl ?_
    refine ex_iload_n 79 dX10_enter_78 rfl rfl ?_
    obtain ⟨o12, hyp⟩ := hyp
    obtain ⟨o13, hyp⟩ := hyp
    refine ex_iald 80 dX10_enter_79 rfl (ai_of (n := 18) rfl o12 o13 (by decide)) ?_
    obtain ⟨o14, hyp⟩ := hyp
    obtain ⟨o15, hyp⟩ := hyp
    refine ex_iast 81 dX10_enter_80 rfl (ai_of (n := 18) rfl o14 o15 (by decide)) (fun h1 e16 => ?_)
    obtain ⟨m17, eg18⟩ : ∃ z : MS, z = mI m0 2 ((m0 0 2) + x2).toNat (m0 9 (x2).toNat) := ⟨_, rfl⟩
    have hyp := hyp m17 eg18
    obtain rfl : h1 = hM m17 := by rw [e16, eg18]; exact rfl
    clear e16
    refine ex_aload_n 82 dX10_enter_81 rfl rfl ?_
    refine q_getR (a := 3) 10 4 85 dX10_enter_82 rfl fiX10_16 rfl ⟨_, rfl⟩ rfl ?_
    refine ex_iload_n 86 dX10_enter_85 rfl rfl ?_
    refine ex_aload_n 87 dX10_enter_86 rfl rfl ?_
    refine q_getR (a := 10) 10 15 90 dX10_enter_87 rfl fiX10_37 rfl ⟨_, rfl⟩ rfl ?_
    refine ex_iload_n 91 dX10_enter_90 rfl rfl ?_
    refine ex_iald 92 dX10_enter_91 rfl (ai_of (n := 18) rfl o12 o13 (by decide)) ?_
    refine ex_iast 93 dX10_enter_92 rfl (ai_of (n := 18) rfl o14 o15 (by decide)) (fun h1 e19 => ?_)
    obtain ⟨m20, eg21⟩ : ∃ z : MS, z = mI m17 3 ((m0 0 2) + x2).toNat (m17 10 (x2).toNat) := ⟨_, rfl⟩
    have hyp := hyp m20 eg21
    obtain rfl : h1 = hM m20 := by rw [e19, eg21]; exact rfl
    clear e19
    refine ex_aload_n 94 dX10_enter_93 rfl rfl ?_
    refine q_getR (a := 4) 10 5 97 dX10_enter_94 rfl fiX10_19 rfl ⟨_, rfl⟩ rfl ?_
    refine ex_iload_n 98 dX10_enter_97 rfl rfl ?_
    refine ex_aload_n 99 dX10_enter_98 rfl rfl ?_
    refine q_getR (a := 11) 10 16 102 dX10_enter_99 rfl fiX10_40 rfl ⟨_, rfl⟩ rfl ?_
    refine ex_iload_n 103 dX10_enter_102 rfl rfl ?_
    refine ex_iald 104 dX10_enter_103 rfl (ai_of (n := 18) rfl o12 o13 (by decide)) ?_
    refine ex_iast 105 dX10_enter_104 rfl (ai_of (n := 18) rfl o14 o15 (by decide)) (fun h1 e22 => ?_)
    obtain ⟨m23, eg24⟩ : ∃ z : MS, z = mI m20 4 ((m0 0 2) + x2).toNat (m20 11 (x2).toNat) := ⟨_, rfl⟩
    have hyp := hyp m23 eg24
    obtain rfl : h1 = hM m23 := by rw [e22, eg24]; exact rfl
    clear e22
    refine ex_aload_n 106 dX10_enter_105 rfl rfl ?_
    refine q_getR (a := 5) 10 6 109 dX10_enter_106 rfl fiX10_22 rfl ⟨_, rfl⟩ rfl ?_
    refine ex_iload_n 110 dX10_enter_109 rfl rfl ?_
    refine ex_aload_n 111 dX10_enter_110 rfl rfl ?_
    refine q_getR (a := 12) 10 17 114 dX10_enter_111 rfl fiX10_43 rfl ⟨_, rfl⟩ rfl ?_
    refine ex_iload_n 115 dX10_enter_114 rfl rfl ?_
    refine ex_iald 116 dX10_enter_115 rfl (ai_of (n := 18) rfl o12 o13 (by decide)) ?_
    refine ex_iast 117 dX10_enter_116 rfl (ai_of (n := 18) rfl o14 o15 (by decide)) (fun h1 e25 => ?_)
    obtain ⟨m26, eg27⟩ : ∃ z : MS, z = mI m23 5 ((m0 0 2) + x2).toNat (m23 12 (x2).toNat) := ⟨_, rfl⟩
    have hyp := hyp m26 eg27
    obtain rfl : h1 = hM m26 := by rw [e25, eg27]; exact rfl
    clear e25
    refine ex_aload_n 118 dX10_enter_117 rfl rfl ?_
    refine q_getR (a := 7) 10 8 121 dX10_enter_118 rfl fiX10_28 rfl ⟨_, rfl⟩ rfl ?_
    refine ex_iload_n 122 dX10_enter_121 rfl rfl ?_
    refine ex_iconst 123 dX10_enter_122 rfl ?_
    refine ex_iast 124 dX10_enter_123 rfl (ai_of (n := 18) rfl o14 o15 (by decide)) (fun h1 e28 => ?_)
    obtain ⟨m29, eg30⟩ : ∃ z : MS, z = mI m26 7 ((m0 0 2) + x2).toNat 0 := ⟨_, rfl⟩
    have hyp := hyp m29 eg30
    obtain rfl : h1 = hM m29 := by rw [e28, eg30]; exact rfl
    clear e28
    refine ex_iconst 125 dX10_enter_124 rfl ?_
    refine q_istore [some (vr 0), none, some (vi x2), some (vi ((m0 0 2) + x2)), some (vi 0)] 127 dX10_enter_125 rfl (Nat.le_of_ble_eq_true rfl) rfl rfl ?_
    exact hyp
set_option maxRecDepth 4000 in
theorem uX10_enter_127 {P : Int → MS → Prop} (m0 : MS) (x2 : Int) (x3 : Int) (x4 : Int) (hyp : rng x4 ∧ (8 ≤ x4 → (YYi mX10_enter 54 [some (vr 0), none, some (vi (x2 + 1)), none, none] [] m0 P)) ∧ (x4 < 8 → (0 ≤ (8 * x2) + x4 ∧ (8 * x2) + x4 < 144 ∧ 0 ≤ (8 * x3) + x4 ∧ (8 * x3) + x4 < 144 ∧ ∀ m7 : MS, m7 = mI m0 6 ((8 * x3) + x4).toNat (m0 13 ((8 * x2) + x4).toNat) → (YYi mX10_enter 127 [some (vr 0), none, some (vi x2), some (vi x3), some (vi (x4 + 1))] [] m7 P)))) : YYi mX10_enter 127 [some (vr 0), none, some (vi x2), some (vi x3), some (vi x4)] [] m0 P := by
  refine ex_iload 129 dX10_enter_127 rfl rfl ?_
  refine ex_bipush 131 dX10_enter_129 rfl ⟨by decide, by decide⟩ ?_
  obtain ⟨o1, hyp⟩ := hyp
  obtain ⟨ht, hf⟩ := hyp
  refine ex_icmp_ge 164 134 dX10_enter_131 (by decide) rfl o1 ⟨by decide, by decide⟩ (fun c9 => ?_) (fun c9 => ?_)
  · have hyp := ht c9
    clear ht hf
    refine q_iinc [some (vr 0), none, some (vi (x2 + 1)), some (vi x3), some (vi x4)] 167 dX10_enter_164 rfl rfl (Nat.le_of_ble_eq_true rfl) rfl rfl ?_
    refine ex_goto 54 dX10_enter_167 (by decide) ?_
    refine ex_dropL (ls' := [some (vr 0), none, some (vi (x2 + 1)), none, some (vi x4)]) 3 rfl ?_
    refine ex_dropL (ls' := [some (vr 0), none, some (vi (x2 + 1)), none, none]) 4 rfl ?_
    exact hyp
  · have hyp := hf c9
    clear ht hf
    refine ex_aload_n 135 dX10_enter_134 rfl rfl ?_
    refine q_getR (a := 6) 10 7 138 dX10_enter_135 rfl fiX10_25 rfl ⟨_, rfl⟩ rfl ?_
    refine ex_bipush 140 dX10_enter_138 rfl ⟨by decide, by decide⟩ ?_
    refine ex_iload_n 141 dX10_enter_140 rfl rfl ?_
    refine ex_imul 142 dX10_enter_141 rfl ?_
    refine ex_iload 144 dX10_enter_142 rfl rfl ?_
    refine ex_iadd 145 dX10_enter_144 rfl ?_
    refine ex_aload_n 146 dX10_enter_145 rfl rfl ?_
    refine q_getR (a := 13) 10 18 149 dX10_enter_146 rfl fiX10_46 rfl ⟨_, rfl⟩ rfl ?_
    refine ex_bipush 151 dX10_enter_149 rfl ⟨by decide, by decide⟩ ?_
    refine ex_iload_n 152 dX10_enter_151 rfl rfl ?_
    refine ex_imul 153 dX10_enter_152 rfl ?_
    refine ex_iload 155 dX10_enter_153 rfl rfl ?_
    refine ex_iadd 156 dX10_enter_155 rfl ?_
    obtain ⟨o2, hyp⟩ := hyp
    obtain ⟨o3, hyp⟩ := hyp
    refine ex_iald 157 dX10_enter_156 rfl (ai_of (n := 144) rfl o2 o3 (by decide)) ?_
    obtain ⟨o4, hyp⟩ := hyp
    obtain ⟨o5, hyp⟩ := hyp
    refine ex_iast 158 dX10_enter_157 rfl (ai_of (n := 144) rfl o4 o5 (by decide)) (fun h1 e6 => ?_)
    obtain ⟨m7, eg8⟩ : ∃ z : MS, z = mI m0 6 ((8 * x3) + x4).toNat (m0 13 ((8 * x2) + x4).toNat) := ⟨_, rfl⟩
    have hyp := hyp m7 eg8
    obtain rfl : h1 = hM m7 := by rw [e6, eg8]; exact rfl
    clear e6
    refine q_iinc [some (vr 0), none, some (vi x2), some (vi x3), some (vi (x4 + 1))] 161 dX10_enter_158 rfl rfl (Nat.le_of_ble_eq_true rfl) rfl rfl ?_
    refine ex_goto 127 dX10_enter_161 (by decide) ?_
    exact hyp
set_option maxRecDepth 4000 in
theorem uX10_groupOf {P : Int → MS → Prop} (m0 : MS) (x0 : Int) (hyp : rng x0 ∧ (x0 < 97 ∨ 122 < x0 → (P x0 m0)) ∧ (x0 = 97 → (P 9 m0)) ∧ (x0 = 98 → (P 1 m0)) ∧ (x0 = 99 → (P 2 m0)) ∧ (x0 = 100 → (P 3 m0)) ∧ (x0 = 101 → (P 9 m0)) ∧ (x0 = 102 → (P 4 m0)) ∧ (x0 = 103 → (P 5 m0)) ∧ (x0 = 104 → (P x0 m0)) ∧ (x0 = 105 → (P 6 m0)) ∧ (x0 = 106 → (P 5 m0)) ∧ (x0 = 107 → (P 2 m0)) ∧ (x0 = 108 → (P x0 m0)) ∧ (x0 = 109 → (P 7 m0)) ∧ (x0 = 110 → (P 7 m0)) ∧ (x0 = 111 → (P 9 m0)) ∧ (x0 = 112 → (P 1 m0)) ∧ (x0 = 113 → (P 2 m0)) ∧ (x0 = 114 → (P x0 m0)) ∧ (x0 = 115 → (P 8 m0)) ∧ (x0 = 116 → (P 3 m0)) ∧ (x0 = 117 → (P 9 m0)) ∧ (x0 = 118 → (P 4 m0)) ∧ (x0 = 119 → (P 4 m0)) ∧ (x0 = 120 → (P 8 m0)) ∧ (x0 = 121 → (P 6 m0)) ∧ (x0 = 122 → (P 8 m0))) : MMi mX10_groupOf [vi x0] m0 P := by
  refine met_of_ex (by decide +kernel) (Nat.le_of_ble_eq_true rfl) ?_
  show EX mX10_groupOf 0 [some (vi x0)] [] (hM m0) (0, 0) _
  refine ex_iload_n 1 dX10_groupOf_0 rfl rfl ?_
  obtain ⟨o1, hyp⟩ := hyp
  obtain ⟨hd, hv0, hv1, hv2, hv3, hv4, hv5, hv6, hv7, hv8, hv9, hv10, hv11, hv12, hv13, hv14, hv15, hv16, hv17, hv18, hv19, hv20, hv21, hv22, hv23, hv24, hv25⟩ := hyp
  rcases (show (x0 < 97 ∨ 122 < x0) ∨ x0 = 97 ∨ x0 = 98 ∨ x0 = 99 ∨ x0 = 100 ∨ x0 = 101 ∨ x0 = 102 ∨ x0 = 103 ∨ x0 = 104 ∨ x0 = 105 ∨ x0 = 106 ∨ x0 = 107 ∨ x0 = 108 ∨ x0 = 109 ∨ x0 = 110 ∨ x0 = 111 ∨ x0 = 112 ∨ x0 = 113 ∨ x0 = 114 ∨ x0 = 115 ∨ x0 = 116 ∨ x0 = 117 ∨ x0 = 118 ∨ x0 = 119 ∨ x0 = 120 ∨ x0 = 121 ∨ x0 = 122 by omega) with c | c | c | c | c | c | c | c | c | c | c | c | c | c | c | c | c | c | c | c | c | c | c | c | c | c | c
  · refine ex_tswOut 142 dX10_groupOf_1 o1 c (by decide) ?_
    have hyp := hd c
    refine ex_iload_n 143 dX10_groupOf_142 rfl rfl ?_
    exact ex_iret dX10_groupOf_143 (Or.inl rfl) ⟨_, rfl, _, rfl, hyp⟩
  · refine ex_tswIn 97 139 dX10_groupOf_1 c ⟨by decide, by decide⟩ (by decide) (by decide) rfl (by decide) ?_
    have hyp := hv0 c
    refine ex_bipush 141 dX10_groupOf_139 rfl ⟨by decide, by decide⟩ ?_
    exact ex_iret dX10_groupOf_141 (Or.inl rfl) ⟨_, rfl, _, rfl, hyp⟩
  · refine ex_tswIn 98 120 dX10_groupOf_1 c ⟨by decide, by decide⟩ (by decide) (by decide) rfl (by decide) ?_
    have hyp := hv1 c
    refine ex_iconst 121 dX10_groupOf_120 rfl ?_
    exact ex_iret dX10_groupOf_121 (Or.inl rfl) ⟨_, rfl, _, rfl, hyp⟩
  · refine ex_tswIn 99 122 dX10_groupOf_1 c ⟨by decide, by decide⟩ (by decide) (by decide) rfl (by decide) ?_
    have hyp := hv2 c
    refine ex_iconst 123 dX10_groupOf_122 rfl ?_
    exact ex_iret dX10_groupOf_123 (Or.inl rfl) ⟨_, rfl, _, rfl, hyp⟩
  · refine ex_tswIn 100 124 dX10_groupOf_1 c ⟨by decide, by decide⟩ (by decide) (by decide) rfl (by decide) ?_
    have hyp := hv3 c
    refine ex_iconst 125 dX10_groupOf_124 rfl ?_
    exact ex_iret dX10_groupOf_125 (Or.inl rfl) ⟨_, rfl, _, rfl, hyp⟩
  · refine ex_tswIn 101 139 dX10_groupOf_1 c ⟨by decide, by decide⟩ (by decide) (by decide) rfl (by decide) ?_
    have hyp := hv4 c
    refine ex_bipush 141 dX10_groupOf_139 rfl ⟨by decide, by decide⟩ ?_
    exact ex_iret dX10_groupOf_141 (Or.inl rfl) ⟨_, rfl, _, rfl, hyp⟩
  · refine ex_tswIn 102 126 dX10_groupOf_1 c ⟨by decide, by decide⟩ (by decide) (by decide) rfl (by decide) ?_
    have hyp := hv5 c
    refine ex_iconst 127 dX10_groupOf_126 rfl ?_
    exact ex_iret dX10_groupOf_127 (Or.inl rfl) ⟨_, rfl, _, rfl, hyp⟩
  · refine ex_tswIn 103 128 dX10_groupOf_1 c ⟨by decide, by decide⟩ (by decide) (by decide) rfl (by decide) ?_
    have hyp := hv6 c
    refine ex_iconst 129 dX10_groupOf_128 rfl ?_
    exact ex_iret dX10_groupOf_129 (Or.inl rfl) ⟨_, rfl, _, rfl, hyp⟩
  · refine ex_tswIn 104 142 dX10_groupOf_1 c ⟨by decide, by decide⟩ (by decide) (by decide) rfl (by decide) ?_
    have hyp := hv7 c
    refine ex_iload_n 143 dX10_groupOf_142 rfl rfl ?_
    exact ex_iret dX10_groupOf_143 (Or.inl rfl) ⟨_, rfl, _, rfl, hyp⟩
  · refine ex_tswIn 105 130 dX10_groupOf_1 c ⟨by decide, by decide⟩ (by decide) (by decide) rfl (by decide) ?_
    have hyp := hv8 c
    refine ex_bipush 132 dX10_groupOf_130 rfl ⟨by decide, by decide⟩ ?_
    exact ex_iret dX10_groupOf_132 (Or.inl rfl) ⟨_, rfl, _, rfl, hyp⟩
  · refine ex_tswIn 106 128 dX10_groupOf_1 c ⟨by decide, by decide⟩ (by decide) (by decide) rfl (by decide) ?_
    have hyp := hv9 c
    refine ex_iconst 129 dX10_groupOf_128 rfl ?_
    exact ex_iret dX10_groupOf_129 (Or.inl rfl) ⟨_, rfl, _, rfl, hyp⟩
  · refine ex_tswIn 107 122 dX10_groupOf_1 c ⟨by decide, by decide⟩ (by decide) (by decide) rfl (by decide) ?_
    have hyp := hv10 c
    refine ex_iconst 123 dX10_groupOf_122 rfl ?_
    exact ex_iret dX10_groupOf_123 (Or.inl rfl) ⟨_, rfl, _, rfl, hyp⟩
  · refine ex_tswIn 108 142 dX10_groupOf_1 c ⟨by decide, by decide⟩ (by decide) (by decide) rfl (by decide) ?_
    have hyp := hv11 c
    refine ex_iload_n 143 dX10_groupOf_142 rfl rfl ?_
    exact ex_iret dX10_groupOf_143 (Or.inl rfl) ⟨_, rfl, _, rfl, hyp⟩
  · refine ex_tswIn 109 133 dX10_groupOf_1 c ⟨by decide, by decide⟩ (by decide) (by decide) rfl (by decide) ?_
    have hyp := hv12 c
    refine ex_bipush 135 dX10_groupOf_133 rfl ⟨by decide, by decide⟩ ?_
    exact ex_iret dX10_groupOf_135 (Or.inl rfl) ⟨_, rfl, _, rfl, hyp⟩
  · refine ex_tswIn 110 133 dX10_groupOf_1 c ⟨by decide, by decide⟩ (by decide) (by decide) rfl (by decide) ?_
    have hyp := hv13 c
    refine ex_bipush 135 dX10_groupOf_133 rfl ⟨by decide, by decide⟩ ?_
    exact ex_iret dX10_groupOf_135 (Or.inl rfl) ⟨_, rfl, _, rfl, hyp⟩
  · refine ex_tswIn 111 139 dX10_groupOf_1 c ⟨by decide, by decide⟩ (by decide) (by decide) rfl (by decide) ?_
    have hyp := hv14 c
    refine ex_bipush 141 dX10_groupOf_139 rfl ⟨by decide, by decide⟩ ?_
    exact ex_iret dX10_groupOf_141 (Or.inl rfl) ⟨_, rfl, _, rfl, hyp⟩
  · refine ex_tswIn 112 120 dX10_groupOf_1 c ⟨by decide, by decide⟩ (by decide) (by decide) rfl (by decide) ?_
    have hyp := hv15 c
    refine ex_iconst 121 dX10_groupOf_120 rfl ?_
    exact ex_iret dX10_groupOf_121 (Or.inl rfl) ⟨_, rfl, _, rfl, hyp⟩
  · refine ex_tswIn 113 122 dX10_groupOf_1 c ⟨by decide, by decide⟩ (by decide) (by decide) rfl (by decide) ?_
    have hyp := hv16 c
    refine ex_iconst 123 dX10_groupOf_122 rfl ?_
    exact ex_iret dX10_groupOf_123 (Or.inl rfl) ⟨_, rfl, _, rfl, hyp⟩
  · refine ex_tswIn 114 142 dX10_groupOf_1 c ⟨by decide, by decide⟩ (by decide) (by decide) rfl (by decide) ?_
    have hyp := hv17 c
    refine ex_iload_n 143 dX10_groupOf_142 rfl rfl ?_
    exact ex_iret dX10_groupOf_143 (Or.inl rfl) ⟨_, rfl, _, rfl, hyp⟩
  · refine ex_tswIn 115 136 dX10_groupOf_1 c ⟨by decide, by decide⟩ (by decide) (by decide) rfl (by decide) ?_
    have hyp := hv18 c
    refine ex_bipush 138 dX10_groupOf_136 rfl ⟨by decide, by decide⟩ ?_
    exact ex_iret dX10_groupOf_138 (Or.inl rfl) ⟨_, rfl, _, rfl, hyp⟩
  · refine ex_tswIn 116 124 dX10_groupOf_1 c ⟨by decide, by decide⟩ (by decide) (by decide) rfl (by decide) ?_
    have hyp := hv19 c
    refine ex_iconst 125 dX10_groupOf_124 rfl ?_
    exact ex_iret dX10_groupOf_125 (Or.inl rfl) ⟨_, rfl, _, rfl, hyp⟩
  · refine ex_tswIn 117 139 dX10_groupOf_1 c ⟨by decide, by decide⟩ (by decide) (by decide) rfl (by decide) ?_
    have hyp := hv20 c
    refine ex_bipush 141 dX10_groupOf_139 rfl ⟨by decide, by decide⟩ ?_
    exact ex_iret dX10_groupOf_141 (Or.inl rfl) ⟨_, rfl, _, rfl, hyp⟩
  · refine ex_tswIn 118 126 dX10_groupOf_1 c ⟨by decide, by decide⟩ (by decide) (by decide) rfl (by decide) ?_
    have hyp := hv21 c
    refine ex_iconst 127 dX10_groupOf_126 rfl ?_
    exact ex_iret dX10_groupOf_127 (Or.inl rfl) ⟨_, rfl, _, rfl, hyp⟩
  · refine ex_tswIn 119 126 dX10_groupOf_1 c ⟨by decide, by decide⟩ (by decide) (by decide) rfl (by decide) ?_
    have hyp := hv22 c
    refine ex_iconst 127 dX10_groupOf_126 rfl ?_
    exact ex_iret dX10_groupOf_127 (Or.inl rfl) ⟨_, rfl, _, rfl, hyp⟩
  · refine ex_tswIn 120 136 dX10_groupOf_1 c ⟨by decide, by decide⟩ (by decide) (by decide) rfl (by decide) ?_
    have hyp := hv23 c
    refine ex_bipush 138 dX10_groupOf_136 rfl ⟨by decide, by decide⟩ ?_
    exact ex_iret dX10_groupOf_138 (Or.inl rfl) ⟨_, rfl, _, rfl, hyp⟩
  · refine ex_tswIn 121 130 dX10_groupOf_1 c ⟨by decide, by decide⟩ (by decide) (by decide) rfl (by decide) ?_
    have hyp := hv24 c
    refine ex_bipush 132 dX10_groupOf_130 rfl ⟨by decide, by decide⟩ ?_
    exact ex_iret dX10_groupOf_132 (Or.inl rfl) ⟨_, rfl, _, rfl, hyp⟩
  · refine ex_tswIn 122 136 dX10_groupOf_1 c ⟨by decide, by decide⟩ (by decide) (by decide) rfl (by decide) ?_
    have hyp := hv25 c
    refine ex_bipush 138 dX10_groupOf_136 rfl ⟨by decide, by decide⟩ ?_
    exact ex_iret dX10_groupOf_138 (Or.inl rfl) ⟨_, rfl, _, rfl, hyp⟩
set_option maxRecDepth 4000 in
theorem uX10_changeOf {P : Int → MS → Prop} (m0 : MS) (x0 : Int) (x1 : Int) (hyp : rng x0 ∧ rng x1 ∧ (¬ x0 = x1 → (MMi mX10_groupOf [vi x0] m0 (fun y4 m3 => MMi mX10_groupOf [vi x1] m3 (fun y6 m5 => rng y4 ∧ rng y6 ∧ (¬ y4 = y6 → (P 2 m5)) ∧ (y4 = y6 → (P 1 m5)))))) ∧ (x0 = x1 → (P 0 m0))) : MMi mX10_changeOf [vi x0, vi x1] m0 P := by
  refine met_of_ex (by decide +kernel) (Nat.le_of_ble_eq_true rfl) ?_
  show EX mX10_changeOf 0 [some (vi x0), some (vi x1)] [] (hM m0) (0, 0) _
  refine ex_iload_n 1 dX10_changeOf_0 rfl rfl ?_
  refine ex_iload_n 2 dX10_changeOf_1 rfl rfl ?_
  obtain ⟨o1, hyp⟩ := hyp
  obtain ⟨o2, hyp⟩ := hyp
  obtain ⟨ht, hf⟩ := hyp
  refine ex_icmp_ne 9 5 dX10_changeOf_2 (by decide) rfl o1 o2 (fun c10 => ?_) (fun c10 => ?_)
  · have hyp := ht c10
    clear ht hf
    refine ex_iload_n 10 dX10_changeOf_9 rfl rfl ?_
    refine s_callSi [vi x0] 13 dX10_changeOf_10 rfl cvX10_135 rfl rfl ⟨Nat.le_of_ble_eq_true rfl, Nat.le_of_ble_eq_true rfl⟩ (Nat.le_of_ble_eq_true rfl) hyp (fun y4 h1 hq => ?_)
    obtain ⟨m3, rfl, hyp⟩ := hq
    refine ex_iload_n 14 dX10_changeOf_13 rfl rfl ?_
    refine s_callSi [vi x1] 17 dX10_changeOf_14 rfl cvX10_135 rfl rfl ⟨Nat.le_of_ble_eq_true rfl, Nat.le_of_ble_eq_true rfl⟩ (Nat.le_of_ble_eq_true rfl) hyp (fun y6 h1 hq => ?_)
    obtain ⟨m5, rfl, hyp⟩ := hq
    obtain ⟨o7, hyp⟩ := hyp
    obtain ⟨o8, hyp⟩ := hyp
    obtain ⟨ht, hf⟩ := hyp
    refine ex_icmp_ne 24 20 dX10_changeOf_17 (by decide) rfl o7 o8 (fun c9 => ?_) (fun c9 => ?_)
    · have hyp := ht c9
      clear ht hf
      refine ex_iconst 25 dX10_changeOf_24 rfl ?_
      exact ex_iret dX10_changeOf_25 (Or.inl rfl) ⟨_, rfl, _, rfl, hyp⟩
    · have hyp := hf c9
      clear ht hf
      refine ex_iconst 21 dX10_changeOf_20 rfl ?_
      refine ex_goto 25 dX10_changeOf_21 (by decide) ?_
      exact ex_iret dX10_changeOf_25 (Or.inl rfl) ⟨_, rfl, _, rfl, hyp⟩
  · have hyp := hf c10
    clear ht hf
    refine ex_iconst 6 dX10_changeOf_5 rfl ?_
    refine ex_goto 25 dX10_changeOf_6 (by decide) ?_
    exact ex_iret dX10_changeOf_25 (Or.inl rfl) ⟨_, rfl, _, rfl, hyp⟩
set_option maxRecDepth 4000 in
theorem uX10_lesser {P : Int → MS → Prop} (m0 : MS) (x0 : Int) (x1 : Int) (hyp : rng x0 ∧ rng x1 ∧ (x1 ≤ x0 → (P x1 m0)) ∧ (x0 < x1 → (P x0 m0))) : MMi mX10_lesser [vi x0, vi x1] m0 P := by
  refine met_of_ex (by decide +kernel) (Nat.le_of_ble_eq_true rfl) ?_
  show EX mX10_lesser 0 [some (vi x0), some (vi x1)] [] (hM m0) (0, 0) _
  refine ex_iload_n 1 dX10_lesser_0 rfl rfl ?_
  refine ex_iload_n 2 dX10_lesser_1 rfl rfl ?_
  obtain ⟨o1, hyp⟩ := hyp
  obtain ⟨o2, hyp⟩ := hyp
  obtain ⟨ht, hf⟩ := hyp
  refine ex_icmp_ge 9 5 dX10_lesser_2 (by decide) rfl o1 o2 (fun c3 => ?_) (fun c3 => ?_)
  · have hyp := ht c3
    clear ht hf
    refine ex_iload_n 10 dX10_lesser_9 rfl rfl ?_
    exact ex_iret dX10_lesser_10 (Or.inl rfl) ⟨_, rfl, _, rfl, hyp⟩
  · have hyp := hf c3
    clear ht hf
    refine ex_iload_n 6 dX10_lesser_5 rfl rfl ?_
    refine ex_goto 10 dX10_lesser_6 (by decide) ?_
    exact ex_iret dX10_lesser_10 (Or.inl rfl) ⟨_, rfl, _, rfl, hyp⟩
set_option maxRecDepth 4000 in
theorem uX10_greater {P : Int → MS → Prop} (m0 : MS) (x0 : Int) (x1 : Int) (hyp : rng x0 ∧ rng x1 ∧ (x0 ≤ x1 → (P x1 m0)) ∧ (x1 < x0 → (P x0 m0))) : MMi mX10_greater [vi x0, vi x1] m0 P := by
  refine met_of_ex (by decide +kernel) (Nat.le_of_ble_eq_true rfl) ?_
  show EX mX10_greater 0 [some (vi x0), some (vi x1)] [] (hM m0) (0, 0) _
  refine ex_iload_n 1 dX10_greater_0 rfl rfl ?_
  refine ex_iload_n 2 dX10_greater_1 rfl rfl ?_
  obtain ⟨o1, hyp⟩ := hyp
  obtain ⟨o2, hyp⟩ := hyp
  obtain ⟨ht, hf⟩ := hyp
  refine ex_icmp_le 9 5 dX10_greater_2 (by decide) rfl o1 o2 (fun c3 => ?_) (fun c3 => ?_)
  · have hyp := ht c3
    clear ht hf
    refine ex_iload_n 10 dX10_greater_9 rfl rfl ?_
    exact ex_iret dX10_greater_10 (Or.inl rfl) ⟨_, rfl, _, rfl, hyp⟩
  · have hyp := hf c3
    clear ht hf
    refine ex_iload_n 6 dX10_greater_5 rfl rfl ?_
    refine ex_goto 10 dX10_greater_6 (by decide) ?_
    exact ex_iret dX10_greater_10 (Or.inl rfl) ⟨_, rfl, _, rfl, hyp⟩
set_option maxRecDepth 4000 in
theorem uX10_distance {P : Int → MS → Prop} (m0 : MS) (x1 : Int) (x2 : Int) (hyp : YYi mX10_distance 2 [some (vr 0), some (vi x1), some (vi x2), some (vi 0), none, none, none] [] m0 P) : MMi mX10_distance [vr 0, vi x1, vi x2] m0 P := by
  refine met_of_ex (by decide +kernel) (Nat.le_of_ble_eq_true rfl) ?_
  show EX mX10_distance 0 [some (vr 0), some (vi x1), some (vi x2), none, none, none, none] [] (hM m0) (0, 0) _
  refine ex_iconst 1 dX10_distance_0 rfl ?_
  refine q_istore_n [some (vr 0), some (vi x1), some (vi x2), some (vi 0), none, none, none] 2 dX10_distance_1 rfl (Nat.le_of_ble_eq_true rfl) rfl rfl ?_
  exact hyp
set_option maxRecDepth 4000 in
theorem uX10_distance_2 {P : Int → MS → Prop} (m0 : MS) (x1 : Int) (x2 : Int) (x3 : Int) (hyp : 0 ≤ x1 ∧ x1 < 18 ∧ rng x3 ∧ rng (m0 5 (x1).toNat) ∧ (m0 5 (x1).toNat < x3 → (0 ≤ x2 ∧ x2 < 18 ∧ 0 ≤ (9 * (m0 5 (x1).toNat)) + (m0 5 (x2).toNat) ∧ (9 * (m0 5 (x1).toNat)) + (m0 5 (x2).toNat) < 81 ∧ P (m0 14 ((9 * (m0 5 (x1).toNat)) + (m0 5 (x2).toNat)).toNat) m0)) ∧ (x3 ≤ m0 5 (x1).toNat → (YYi mX10_distance 15 [some (vr 0), some (vi x1), some (vi x2), some (vi x3), some (vi 0), none, none] [] m0 P))) : YYi mX10_distance 2 [some (vr 0), some (vi x1), some (vi x2), some (vi x3), none, none, none] [] m0 P := by
  refine ex_iload_n 3 dX10_distance_2 rfl rfl ?_
  refine ex_aload_n 4 dX10_distance_3 rfl rfl ?_
  refine q_getR (a := 5) 10 6 7 dX10_distance_4 rfl fiX10_22 rfl ⟨_, rfl⟩ rfl ?_
  refine ex_iload_n 8 dX10_distance_7 rfl rfl ?_
  obtain ⟨o1, hyp⟩ := hyp
  obtain ⟨o2, hyp⟩ := hyp
  refine ex_iald 9 dX10_distance_8 rfl (ai_of (n := 18) rfl o1 o2 (by decide)) ?_
  obtain ⟨o3, hyp⟩ := hyp
  obtain ⟨o4, hyp⟩ := hyp
  obtain ⟨ht, hf⟩ := hyp
  refine ex_icmp_gt 177 12 dX10_distance_9 (by decide) rfl o3 o4 (fun c9 => ?_) (fun c9 => ?_)
  · have hyp := ht c9
    clear ht hf
    refine ex_aload_n 178 dX10_distance_177 rfl rfl ?_
    refine q_getR (a := 14) 10 19 181 dX10_distance_178 rfl fiX10_49 rfl ⟨_, rfl⟩ rfl ?_
    refine ex_bipush 183 dX10_distance_181 rfl ⟨by decide, by decide⟩ ?_
    refine ex_aload_n 184 dX10_distance_183 rfl rfl ?_
    refine q_getR (a := 5) 10 6 187 dX10_distance_184 rfl fiX10_22 rfl ⟨_, rfl⟩ rfl ?_
    refine ex_iload_n 188 dX10_distance_187 rfl rfl ?_
    refine ex_iald 189 dX10_distance_188 rfl (ai_of (n := 18) rfl o1 o2 (by decide)) ?_
    refine ex_imul 190 dX10_distance_189 rfl ?_
    refine ex_aload_n 191 dX10_distance_190 rfl rfl ?_
    refine q_getR (a := 5) 10 6 194 dX10_distance_191 rfl fiX10_22 rfl ⟨_, rfl⟩ rfl ?_
    refine ex_iload_n 195 dX10_distance_194 rfl rfl ?_
    obtain ⟨o5, hyp⟩ := hyp
    obtain ⟨o6, hyp⟩ := hyp
    refine ex_iald 196 dX10_distance_195 rfl (ai_of (n := 18) rfl o5 o6 (by decide)) ?_
    refine ex_iadd 197 dX10_distance_196 rfl ?_
    obtain ⟨o7, hyp⟩ := hyp
    obtain ⟨o8, hyp⟩ := hyp
    refine ex_iald 198 dX10_distance_197 rfl (ai_of (n := 81) rfl o7 o8 (by decide)) ?_
    exact ex_iret dX10_distance_198 (Or.inl rfl) ⟨_, rfl, _, rfl, hyp⟩
  · have hyp := hf c9
    clear ht hf
    refine ex_iconst 13 dX10_distance_12 rfl ?_
    refine q_istore [some (vr 0), some (vi x1), some (vi x2), some (vi x3), some (vi 0), none, none] 15 dX10_distance_13 rfl (Nat.le_of_ble_eq_true rfl) rfl rfl ?_
    exact hyp
set_option maxRecDepth 4000 in
theorem uX10_distance_15 {P : Int → MS → Prop} (m0 : MS) (x1 : Int) (x2 : Int) (x3 : Int) (x4 : Int) (hyp : 0 ≤ x2 ∧ x2 < 18 ∧ rng x4 ∧ rng (m0 5 (x2).toNat) ∧ (m0 5 (x2).toNat < x4 → (YYi mX10_distance 2 [some (vr 0), some (vi x1), some (vi x2), some (vi (x3 + 1)), none, none, none] [] m0 P)) ∧ (x4 ≤ m0 5 (x2).toNat → (rng x3 ∧ (¬ x3 = 0 → ((¬ x4 = 0 → (0 ≤ (9 * (x3 - 1)) + x4 ∧ (9 * (x3 - 1)) + x4 < 81 ∧ 0 ≤ ((9 * x3) + x4) - 1 ∧ ((9 * x3) + x4) - 1 < 81 ∧ MMi mX10_lesser [vi (m0 14 ((9 * (x3 - 1)) + x4).toNat), vi (m0 14 (((9 * x3) + x4) - 1).toNat)] m0 (fun y11 m10 => YYi mX10_distance 81 [some (vr 0), some (vi x1), some (vi x2), some (vi x3), some (vi x4), none, none] [vi (y11 + 2)] m10 P))) ∧ (x4 = 0 → (YYi mX10_distance 81 [some (vr 0), some (vi x1), some (vi x2), some (vi x3), some (vi x4), none, none] [vi (2 * x3)] m0 P)))) ∧ (x3 = 0 → (YYi mX10_distance 81 [some (vr 0), some (vi x1), some (vi x2), some (vi x3), some (vi x4), none, none] [vi (2 * x4)] m0 P))))) : YYi mX10_distance 15 [some (vr 0), some (vi x1), some (vi x2), some (vi x3), some (vi x4), none, none] [] m0 P := by
  refine ex_iload 17 dX10_distance_15 rfl rfl ?_
  refine ex_aload_n 18 dX10_distance_17 rfl rfl ?_
  refine q_getR (a := 5) 10 6 21 dX10_distance_18 rfl fiX10_22 rfl ⟨_, rfl⟩ rfl ?_
  refine ex_iload_n 22 dX10_distance_21 rfl rfl ?_
  obtain ⟨o1, hyp⟩ := hyp
  obtain ⟨o2, hyp⟩ := hyp
  refine ex_iald 23 dX10_distance_22 rfl (ai_of (n := 18) rfl o1 o2 (by decide)) ?_
  obtain ⟨o3, hyp⟩ := hyp
  obtain ⟨o4, hyp⟩ := hyp
  obtain ⟨ht, hf⟩ := hyp
  refine ex_icmp_gt 171 26 dX10_distance_23 (by decide) rfl o3 o4 (fun c14 => ?_) (fun c14 => ?_)
  · have hyp := ht c14
    clear ht hf
    refine q_iinc [some (vr 0), some (vi x1), some (vi x2), some (vi (x3 + 1)), some (vi x4), none, none] 174 dX10_distance_171 rfl rfl (Nat.le_of_ble_eq_true rfl) rfl rfl ?_
    refine ex_goto 2 dX10_distance_174 (by decide) ?_
    refine ex_dropL (ls' := [some (vr 0), some (vi x1), some (vi x2), some (vi (x3 + 1)), none, none, none]) 4 rfl ?_
    exact hyp
  · have hyp := hf c14
    clear ht hf
    refine ex_iload_n 27 dX10_distance_26 rfl rfl ?_
    obtain ⟨o5, hyp⟩ := hyp
    obtain ⟨ht, hf⟩ := hyp
    refine ex_if_ne 37 30 dX10_distance_27 (by decide) rfl o5 (fun c13 => ?_) (fun c13 => ?_)
    · have hyp := ht c13
      clear ht hf
      refine ex_iload 39 dX10_distance_37 rfl rfl ?_
      obtain ⟨ht, hf⟩ := hyp
      refine ex_if_ne 48 42 dX10_distance_39 (by decide) rfl o3 (fun c12 => ?_) (fun c12 => ?_)
      · have hyp := ht c12
        clear ht hf
        refine ex_aload_n 49 dX10_distance_48 rfl rfl ?_
        refine q_getR (a := 14) 10 19 52 dX10_distance_49 rfl fiX10_49 rfl ⟨_, rfl⟩ rfl ?_
        refine ex_bipush 54 dX10_distance_52 rfl ⟨by decide, by decide⟩ ?_
        refine ex_iload_n 55 dX10_distance_54 rfl rfl ?_
        refine ex_iconst 56 dX10_distance_55 rfl ?_
        refine ex_isub 57 dX10_distance_56 rfl ?_
        refine ex_imul 58 dX10_distance_57 rfl ?_
        refine ex_iload 60 dX10_distance_58 rfl rfl ?_
        refine ex_iadd 61 dX10_distance_60 rfl ?_
        obtain ⟨o6, hyp⟩ := hyp
        obtain ⟨o7, hyp⟩ := hyp
        refine ex_iald 62 dX10_distance_61 rfl (ai_of (n := 81) rfl o6 o7 (by decide)) ?_
        refine ex_aload_n 63 dX10_distance_62 rfl rfl ?_
        refine q_getR (a := 14) 10 19 66 dX10_distance_63 rfl fiX10_49 rfl ⟨_, rfl⟩ rfl ?_
        refine ex_bipush 68 dX10_distance_66 rfl ⟨by decide, by decide⟩ ?_
        refine ex_iload_n 69 dX10_distance_68 rfl rfl ?_
        refine ex_imul 70 dX10_distance_69 rfl ?_
        refine ex_iload 72 dX10_distance_70 rfl rfl ?_
        refine ex_iadd 73 dX10_distance_72 rfl ?_
        refine ex_iconst 74 dX10_distance_73 rfl ?_
        refine ex_isub 75 dX10_distance_74 rfl ?_
        obtain ⟨o8, hyp⟩ := hyp
        obtain ⟨o9, hyp⟩ := hyp
        refine ex_iald 76 dX10_distance_75 rfl (ai_of (n := 81) rfl o8 o9 (by decide)) ?_
        refine s_callSi [vi (m0 14 ((9 * (x3 - 1)) + x4).toNat), vi (m0 14 (((9 * x3) + x4) - 1).toNat)] 79 dX10_distance_76 rfl cvX10_138 rfl rfl ⟨Nat.le_of_ble_eq_true rfl, Nat.le_of_ble_eq_true rfl⟩ (Nat.le_of_ble_eq_true rfl) hyp (fun y11 h1 hq => ?_)
        obtain ⟨m10, rfl, hyp⟩ := hq
        refine ex_iconst 80 dX10_distance_79 rfl ?_
        refine ex_iadd 81 dX10_distance_80 rfl ?_
        exact hyp
      · have hyp := hf c12
        clear ht hf
        refine ex_iconst 43 dX10_distance_42 rfl ?_
        refine ex_iload_n 44 dX10_distance_43 rfl rfl ?_
        refine ex_imul 45 dX10_distance_44 rfl ?_
        refine ex_goto 81 dX10_distance_45 (by decide) ?_
        exact hyp
    · have hyp := hf c13
      clear ht hf
      refine ex_iconst 31 dX10_distance_30 rfl ?_
      refine ex_iload 33 dX10_distance_31 rfl rfl ?_
      refine ex_imul 34 dX10_distance_33 rfl ?_
      refine ex_goto 81 dX10_distance_34 (by decide) ?_
      exact hyp
set_option maxRecDepth 4000 in
theorem uX10_distance_81 {P : Int → MS → Prop} (m0 : MS) (x1 : Int) (x2 : Int) (x3 : Int) (x4 : Int) (xs0 : Int) (hyp : rng x3 ∧ (x3 ≤ 0 → (MMi mX10_lesser [vi xs0, vi xs0] m0 (fun y3 m2 => 0 ≤ (9 * x3) + x4 ∧ (9 * x3) + x4 < 81 ∧ ∀ m7 : MS, m7 = mI m2 14 ((9 * x3) + x4).toNat y3 → (YYi mX10_distance 15 [some (vr 0), some (vi x1), some (vi x2), some (vi x3), some (vi (x4 + 1)), none, none] [] m7 P)))) ∧ (0 < x3 → (rng x4 ∧ (x4 ≤ 0 → (MMi mX10_lesser [vi xs0, vi xs0] m0 (fun y11 m10 => 0 ≤ (9 * x3) + x4 ∧ (9 * x3) + x4 < 81 ∧ ∀ m15 : MS, m15 = mI m10 14 ((9 * x3) + x4).toNat y11 → (YYi mX10_distance 15 [some (vr 0), some (vi x1), some (vi x2), some (vi x3), some (vi (x4 + 1)), none, none] [] m15 P)))) ∧ (0 < x4 → (0 ≤ ((9 * (x3 - 1)) + x4) - 1 ∧ ((9 * (x3 - 1)) + x4) - 1 < 81 ∧ 0 ≤ ((8 * x1) + x3) - 1 ∧ ((8 * x1) + x3) - 1 < 144 ∧ 0 ≤ ((8 * x2) + x4) - 1 ∧ ((8 * x2) + x4) - 1 < 144 ∧ MMi mX10_changeOf [vi (m0 6 (((8 * x1) + x3) - 1).toNat), vi (m0 6 (((8 * x2) + x4) - 1).toNat)] m0 (fun y24 m23 => MMi mX10_lesser [vi xs0, vi ((m0 14 (((9 * (x3 - 1)) + x4) - 1).toNat) + y24)] m23 (fun y26 m25 => 0 ≤ (9 * x3) + x4 ∧ (9 * x3) + x4 < 81 ∧ ∀ m30 : MS, m30 = mI m25 14 ((9 * x3) + x4).toNat y26 → (YYi mX10_distance 15 [some (vr 0), some (vi x1), some (vi x2), some (vi x3), some (vi (x4 + 1)), none, none] [] m30 P)))))))) : YYi mX10_distance 81 [some (vr 0), some (vi x1), some (vi x2), some (vi x3), some (vi x4), none, none] [vi xs0] m0 P := by
  refine q_istore [some (vr 0), some (vi x1), some (vi x2), some (vi x3), some (vi x4), some (vi xs0), none] 83 dX10_distance_81 rfl (Nat.le_of_ble_eq_true rfl) rfl rfl ?_
  refine ex_iload_n 84 dX10_distance_83 rfl rfl ?_
  obtain ⟨o1, hyp⟩ := hyp
  obtain ⟨ht, hf⟩ := hyp
  refine ex_if_le 142 87 dX10_distance_84 (by decide) rfl o1 (fun c33 => ?_) (fun c33 => ?_)
  · have hyp := ht c33
    clear ht hf
    refine ex_iload 144 dX10_distance_142 rfl rfl ?_
    refine q_istore [some (vr 0), some (vi x1), some (vi x2), some (vi x3), some (vi x4), some (vi xs0), some (vi xs0)] 146 dX10_distance_144 rfl (Nat.le_of_ble_eq_true rfl) rfl rfl ?_
    refine ex_aload_n 147 dX10_distance_146 rfl rfl ?_
    refine q_getR (a := 14) 10 19 150 dX10_distance_147 rfl fiX10_49 rfl ⟨_, rfl⟩ rfl ?_
    refine ex_bipush 152 dX10_distance_150 rfl ⟨by decide, by decide⟩ ?_
    refine ex_iload_n 153 dX10_distance_152 rfl rfl ?_
    refine ex_imul 154 dX10_distance_153 rfl ?_
    refine ex_iload 156 dX10_distance_154 rfl rfl ?_
    refine ex_iadd 157 dX10_distance_156 rfl ?_
    refine ex_iload 159 dX10_distance_157 rfl rfl ?_
    refine ex_iload 161 dX10_distance_159 rfl rfl ?_
    refine s_callSi [vi xs0, vi xs0] 164 dX10_distance_161 rfl cvX10_138 rfl rfl ⟨Nat.le_of_ble_eq_true rfl, Nat.le_of_ble_eq_true rfl⟩ (Nat.le_of_ble_eq_true rfl) hyp (fun y3 h1 hq => ?_)
    obtain ⟨m2, rfl, hyp⟩ := hq
    obtain ⟨o4, hyp⟩ := hyp
    obtain ⟨o5, hyp⟩ := hyp
    refine ex_iast 165 dX10_distance_164 rfl (ai_of (n := 81) rfl o4 o5 (by decide)) (fun h1 e6 => ?_)
    obtain ⟨m7, eg8⟩ : ∃ z : MS, z = mI m2 14 ((9 * x3) + x4).toNat y3 := ⟨_, rfl⟩
    have hyp := hyp m7 eg8
    obtain rfl : h1 = hM m7 := by rw [e6, eg8]; exact rfl
    clear e6
    refine q_iinc [some (vr 0), some (vi x1), some (vi x2), some (vi x3), some (vi (x4 + 1)), some (vi xs0), some (vi xs0)] 168 dX10_distance_165 rfl rfl (Nat.le_of_ble_eq_true rfl) rfl rfl ?_
    refine ex_goto 15 dX10_distance_168 (by decide) ?_
    refine ex_dropL (ls' := [some (vr 0), some (vi x1), some (vi x2), some (vi x3), some (vi (x4 + 1)), none, some (vi xs0)]) 5 rfl ?_
    refine ex_dropL (ls' := [some (vr 0), some (vi x1), some (vi x2), some (vi x3), some (vi (x4 + 1)), none, none]) 6 rfl ?_
    exact hyp
  · have hyp := hf c33
    clear ht hf
    refine ex_iload 89 dX10_distance_87 rfl rfl ?_
    obtain ⟨o9, hyp⟩ := hyp
    obtain ⟨ht, hf⟩ := hyp
    refine ex_if_le 142 92 dX10_distance_89 (by decide) rfl o9 (fun c32 => ?_) (fun c32 => ?_)
    · have hyp := ht c32
      clear ht hf
      refine ex_iload 144 dX10_distance_142 rfl rfl ?_
      refine q_istore [some (vr 0), some (vi x1), some (vi x2), some (vi x3), some (vi x4), some (vi xs0), some (vi xs0)] 146 dX10_distance_144 rfl (Nat.le_of_ble_eq_true rfl) rfl rfl ?_
      refine ex_aload_n 147 dX10_distance_146 rfl rfl ?_
      refine q_getR (a := 14) 10 19 150 dX10_distance_147 rfl fiX10_49 rfl ⟨_, rfl⟩ rfl ?_
      refine ex_bipush 152 dX10_distance_150 rfl ⟨by decide, by decide⟩ ?_
      refine ex_iload_n 153 dX10_distance_152 rfl rfl ?_
      refine ex_imul 154 dX10_distance_153 rfl ?_
      refine ex_iload 156 dX10_distance_154 rfl rfl ?_
      refine ex_iadd 157 dX10_distance_156 rfl ?_
      refine ex_iload 159 dX10_distance_157 rfl rfl ?_
      refine ex_iload 161 dX10_distance_159 rfl rfl ?_
      refine s_callSi [vi xs0, vi xs0] 164 dX10_distance_161 rfl cvX10_138 rfl rfl ⟨Nat.le_of_ble_eq_true rfl, Nat.le_of_ble_eq_true rfl⟩ (Nat.le_of_ble_eq_true rfl) hyp (fun y11 h1 hq => ?_)
      obtain ⟨m10, rfl, hyp⟩ := hq
      obtain ⟨o12, hyp⟩ := hyp
      obtain ⟨o13, hyp⟩ := hyp
      refine ex_iast 165 dX10_distance_164 rfl (ai_of (n := 81) rfl o12 o13 (by decide)) (fun h1 e14 => ?_)
      obtain ⟨m15, eg16⟩ : ∃ z : MS, z = mI m10 14 ((9 * x3) + x4).toNat y11 := ⟨_, rfl⟩
      have hyp := hyp m15 eg16
      obtain rfl : h1 = hM m15 := by rw [e14, eg16]; exact rfl
      clear e14
      refine q_iinc [some (vr 0), some (vi x1), some (vi x2), some (vi x3), some (vi (x4 + 1)), some (vi xs0), some (vi xs0)] 168 dX10_distance_165 rfl rfl (Nat.le_of_ble_eq_true rfl) rfl rfl ?_
      refine ex_goto 15 dX10_distance_168 (by decide) ?_
      refine ex_dropL (ls' := [some (vr 0), some (vi x1), some (vi x2), some (vi x3), some (vi (x4 + 1)), none, some (vi xs0)]) 5 rfl ?_
      refine ex_dropL (ls' := [some (vr 0), some (vi x1), some (vi x2), some (vi x3), some (vi (x4 + 1)), none, none]) 6 rfl ?_
      exact hyp
    · have hyp := hf c32
      clear ht hf
      refine ex_aload_n 93 dX10_distance_92 rfl rfl ?_
      refine q_getR (a := 14) 10 19 96 dX10_distance_93 rfl fiX10_49 rfl ⟨_, rfl⟩ rfl ?_
      refine ex_bipush 98 dX10_distance_96 rfl ⟨by decide, by decide⟩ ?_
      refine ex_iload_n 99 dX10_distance_98 rfl rfl ?_
      refine ex_iconst 100 dX10_distance_99 rfl ?_
      refine ex_isub 101 dX10_distance_100 rfl ?_
      refine ex_imul 102 dX10_distance_101 rfl ?_
      refine ex_iload 104 dX10_distance_102 rfl rfl ?_
      refine ex_iadd 105 dX10_distance_104 rfl ?_
      refine ex_iconst 106 dX10_distance_105 rfl ?_
      refine ex_isub 107 dX10_distance_106 rfl ?_
      obtain ⟨o17, hyp⟩ := hyp
      obtain ⟨o18, hyp⟩ := hyp
      refine ex_iald 108 dX10_distance_107 rfl (ai_of (n := 81) rfl o17 o18 (by decide)) ?_
      refine ex_aload_n 109 dX10_distance_108 rfl rfl ?_
      refine q_getR (a := 6) 10 7 112 dX10_distance_109 rfl fiX10_25 rfl ⟨_, rfl⟩ rfl ?_
      refine ex_bipush 114 dX10_distance_112 rfl ⟨by decide, by decide⟩ ?_
      refine ex_iload_n 115 dX10_distance_114 rfl rfl ?_
      refine ex_imul 116 dX10_distance_115 rfl ?_
      refine ex_iload_n 117 dX10_distance_116 rfl rfl ?_
      refine ex_iadd 118 dX10_distance_117 rfl ?_
      refine ex_iconst 119 dX10_distance_118 rfl ?_
      refine ex_isub 120 dX10_distance_119 rfl ?_
      obtain ⟨o19, hyp⟩ := hyp
      obtain ⟨o20, hyp⟩ := hyp
      refine ex_iald 121 dX10_distance_120 rfl (ai_of (n := 144) rfl o19 o20 (by decide)) ?_
      refine ex_aload_n 122 dX10_distance_121 rfl rfl ?_
      refine q_getR (a := 6) 10 7 125 dX10_distance_122 rfl fiX10_25 rfl ⟨_, rfl⟩ rfl ?_
      refine ex_bipush 127 dX10_distance_125 rfl ⟨by decide, by decide⟩ ?_
      refine ex_iload_n 128 dX10_distance_127 rfl rfl ?_
      refine ex_imul 129 dX10_distance_128 rfl ?_
      refine ex_iload 131 dX10_distance_129 rfl rfl ?_
      refine ex_iadd 132 dX10_distance_131 rfl ?_
      refine ex_iconst 133 dX10_distance_132 rfl ?_
      refine ex_isub 134 dX10_distance_133 rfl ?_
      obtain ⟨o21, hyp⟩ := hyp
      obtain ⟨o22, hyp⟩ := hyp
      refine ex_iald 135 dX10_distance_134 rfl (ai_of (n := 144) rfl o21 o22 (by decide)) ?_
      refine s_callSi [vi (m0 6 (((8 * x1) + x3) - 1).toNat), vi (m0 6 (((8 * x2) + x4) - 1).toNat)] 138 dX10_distance_135 rfl cvX10_142 rfl rfl ⟨Nat.le_of_ble_eq_true rfl, Nat.le_of_ble_eq_true rfl⟩ (Nat.le_of_ble_eq_true rfl) hyp (fun y24 h1 hq => ?_)
      obtain ⟨m23, rfl, hyp⟩ := hq
      refine ex_iadd 139 dX10_distance_138 rfl ?_
      refine ex_goto 144 dX10_distance_139 (by decide) ?_
      refine q_istore [some (vr 0), some (vi x1), some (vi x2), some (vi x3), some (vi x4), some (vi xs0), some (vi ((m0 14 (((9 * (x3 - 1)) + x4) - 1).toNat) + y24))] 146 dX10_distance_144 rfl (Nat.le_of_ble_eq_true rfl) rfl rfl ?_
      refine ex_aload_n 147 dX10_distance_146 rfl rfl ?_
      refine q_getR (a := 14) 10 19 150 dX10_distance_147 rfl fiX10_49 rfl ⟨_, rfl⟩ rfl ?_
      refine ex_bipush 152 dX10_distance_150 rfl ⟨by decide, by decide⟩ ?_
      refine ex_iload_n 153 dX10_distance_152 rfl rfl ?_
      refine ex_imul 154 dX10_distance_153 rfl ?_
      refine ex_iload 156 dX10_distance_154 rfl rfl ?_
      refine ex_iadd 157 dX10_distance_156 rfl ?_
      refine ex_iload 159 dX10_distance_157 rfl rfl ?_
      refine ex_iload 161 dX10_distance_159 rfl rfl ?_
      refine s_callSi [vi xs0, vi ((m0 14 (((9 * (x3 - 1)) + x4) - 1).toNat) + y24)] 164 dX10_distance_161 rfl cvX10_138 rfl rfl ⟨Nat.le_of_ble_eq_true rfl, Nat.le_of_ble_eq_true rfl⟩ (Nat.le_of_ble_eq_true rfl) hyp (fun y26 h1 hq => ?_)
      obtain ⟨m25, rfl, hyp⟩ := hq
      obtain ⟨o27, hyp⟩ := hyp
      obtain ⟨o28, hyp⟩ := hyp
      refine ex_iast 165 dX10_distance_164 rfl (ai_of (n := 81) rfl o27 o28 (by decide)) (fun h1 e29 => ?_)
      obtain ⟨m30, eg31⟩ : ∃ z : MS, z = mI m25 14 ((9 * x3) + x4).toNat y26 := ⟨_, rfl⟩
      have hyp := hyp m30 eg31
      obtain rfl : h1 = hM m30 := by rw [e29, eg31]; exact rfl
      clear e29
      refine q_iinc [some (vr 0), some (vi x1), some (vi x2), some (vi x3), some (vi (x4 + 1)), some (vi xs0), some (vi ((m0 14 (((9 * (x3 - 1)) + x4) - 1).toNat) + y24))] 168 dX10_distance_165 rfl rfl (Nat.le_of_ble_eq_true rfl) rfl rfl ?_
      refine ex_goto 15 dX10_distance_168 (by decide) ?_
      refine ex_dropL (ls' := [some (vr 0), some (vi x1), some (vi x2), some (vi x3), some (vi (x4 + 1)), none, some (vi ((m0 14 (((9 * (x3 - 1)) + x4) - 1).toNat) + y24))]) 5 rfl ?_
      refine ex_dropL (ls' := [some (vr 0), some (vi x1), some (vi x2), some (vi x3), some (vi (x4 + 1)), none, none]) 6 rfl ?_
      exact hyp
set_option maxRecDepth 4000 in
theorem uX10_likeness {P : Int → MS → Prop} (m0 : MS) (x1 : Int) (x2 : Int) (hyp : MMi mX10_distance [vr 0, vi x1, vi x2] m0 (fun y2 m1 => 0 ≤ x1 ∧ x1 < 18 ∧ 0 ≤ x2 ∧ x2 < 18 ∧ MMi mX10_greater [vi (m1 5 (x1).toNat), vi (m1 5 (x2).toNat)] m1 (fun y8 m7 => rng (1000 * y2) ∧ rng (2 * y8) ∧ ¬ 2 * y8 = 0 ∧ P (1000 - (Int.tdiv (1000 * y2) (2 * y8))) m7))) : MMi mX10_likeness [vr 0, vi x1, vi x2] m0 P := by
  refine met_of_ex (by decide +kernel) (Nat.le_of_ble_eq_true rfl) ?_
  show EX mX10_likeness 0 [some (vr 0), some (vi x1), some (vi x2)] [] (hM m0) (0, 0) _
  refine ex_sipush 3 dX10_likeness_0 rfl ⟨by decide, by decide⟩ ?_
  refine ex_sipush 6 dX10_likeness_3 rfl ⟨by decide, by decide⟩ ?_
  refine ex_aload_n 7 dX10_likeness_6 rfl rfl ?_
  refine ex_iload_n 8 dX10_likeness_7 rfl rfl ?_
  refine ex_iload_n 9 dX10_likeness_8 rfl rfl ?_
  refine s_callVi [vi x1, vi x2] 12 dX10_likeness_9 rfl cvX10_145 rfl rfl ⟨Nat.le_of_ble_eq_true rfl, Nat.le_of_ble_eq_true rfl⟩ (Nat.le_of_ble_eq_true rfl) ⟨_, rfl⟩ hyp (fun y2 h1 hq => ?_)
  obtain ⟨m1, rfl, hyp⟩ := hq
  refine ex_imul 13 dX10_likeness_12 rfl ?_
  refine ex_iconst 14 dX10_likeness_13 rfl ?_
  refine ex_aload_n 15 dX10_likeness_14 rfl rfl ?_
  refine q_getR (a := 5) 10 6 18 dX10_likeness_15 rfl fiX10_22 rfl ⟨_, rfl⟩ rfl ?_
  refine ex_iload_n 19 dX10_likeness_18 rfl rfl ?_
  obtain ⟨o3, hyp⟩ := hyp
  obtain ⟨o4, hyp⟩ := hyp
  refine ex_iald 20 dX10_likeness_19 rfl (ai_of (n := 18) rfl o3 o4 (by decide)) ?_
  refine ex_aload_n 21 dX10_likeness_20 rfl rfl ?_
  refine q_getR (a := 5) 10 6 24 dX10_likeness_21 rfl fiX10_22 rfl ⟨_, rfl⟩ rfl ?_
  refine ex_iload_n 25 dX10_likeness_24 rfl rfl ?_
  obtain ⟨o5, hyp⟩ := hyp
  obtain ⟨o6, hyp⟩ := hyp
  refine ex_iald 26 dX10_likeness_25 rfl (ai_of (n := 18) rfl o5 o6 (by decide)) ?_
  refine s_callSi [vi (m1 5 (x1).toNat), vi (m1 5 (x2).toNat)] 29 dX10_likeness_26 rfl cvX10_148 rfl rfl ⟨Nat.le_of_ble_eq_true rfl, Nat.le_of_ble_eq_true rfl⟩ (Nat.le_of_ble_eq_true rfl) hyp (fun y8 h1 hq => ?_)
  obtain ⟨m7, rfl, hyp⟩ := hq
  refine ex_imul 30 dX10_likeness_29 rfl ?_
  obtain ⟨o9, hyp⟩ := hyp
  obtain ⟨o10, hyp⟩ := hyp
  obtain ⟨o11, hyp⟩ := hyp
  refine ex_idiv 31 dX10_likeness_30 rfl o9 o10 o11 ?_
  refine ex_isub 32 dX10_likeness_31 rfl ?_
  exact ex_iret dX10_likeness_32 (Or.inl rfl) ⟨_, rfl, _, rfl, hyp⟩
set_option maxRecDepth 4000 in
theorem uX10_firstBorn {P : Int → MS → Prop} (m0 : MS) (x1 : Int) (hyp : 0 ≤ x1 ∧ x1 < 18 ∧ rng (m0 2 (x1).toNat) ∧ (¬ m0 2 (x1).toNat = 0 → (rng (m0 4 (x1).toNat) ∧ (m0 4 (x1).toNat = (-1) → ((¬ m0 2 (x1).toNat = 1 → (P ((m0 3 (x1).toNat) - 100) m0)) ∧ (m0 2 (x1).toNat = 1 → (P ((m0 3 (x1).toNat) - 60) m0)))) ∧ (¬ m0 4 (x1).toNat = (-1) → (P ((((m0 3 (x1).toNat) - (m0 4 (x1).toNat)) - 1) - (m0 8 (1 : Int).toNat)) m0)))) ∧ (m0 2 (x1).toNat = 0 → (P (m0 3 (x1).toNat) m0))) : MMi mX10_firstBorn [vr 0, vi x1] m0 P := by
  refine met_of_ex (by decide +kernel) (Nat.le_of_ble_eq_true rfl) ?_
  show EX mX10_firstBorn 0 [some (vr 0), some (vi x1)] [] (hM m0) (0, 0) _
  refine ex_aload_n 1 dX10_firstBorn_0 rfl rfl ?_
  refine q_getR (a := 2) 10 3 4 dX10_firstBorn_1 rfl fiX10_13 rfl ⟨_, rfl⟩ rfl ?_
  refine ex_iload_n 5 dX10_firstBorn_4 rfl rfl ?_
  obtain ⟨o1, hyp⟩ := hyp
  obtain ⟨o2, hyp⟩ := hyp
  refine ex_iald 6 dX10_firstBorn_5 rfl (ai_of (n := 18) rfl o1 o2 (by decide)) ?_
  obtain ⟨o3, hyp⟩ := hyp
  obtain ⟨ht, hf⟩ := hyp
  refine ex_if_ne 16 9 dX10_firstBorn_6 (by decide) rfl o3 (fun c7 => ?_) (fun c7 => ?_)
  · have hyp := ht c7
    clear ht hf
    refine ex_aload_n 17 dX10_firstBorn_16 rfl rfl ?_
    refine q_getR (a := 4) 10 5 20 dX10_firstBorn_17 rfl fiX10_19 rfl ⟨_, rfl⟩ rfl ?_
    refine ex_iload_n 21 dX10_firstBorn_20 rfl rfl ?_
    refine ex_iald 22 dX10_firstBorn_21 rfl (ai_of (n := 18) rfl o1 o2 (by decide)) ?_
    refine ex_iconst 23 dX10_firstBorn_22 rfl ?_
    obtain ⟨o4, hyp⟩ := hyp
    obtain ⟨ht, hf⟩ := hyp
    refine ex_icmp_eq 49 26 dX10_firstBorn_23 (by decide) rfl o4 ⟨by decide, by decide⟩ (fun c6 => ?_) (fun c6 => ?_)
    · have hyp := ht c6
      clear ht hf
      refine ex_aload_n 50 dX10_firstBorn_49 rfl rfl ?_
      refine q_getR (a := 3) 10 4 53 dX10_firstBorn_50 rfl fiX10_16 rfl ⟨_, rfl⟩ rfl ?_
      refine ex_iload_n 54 dX10_firstBorn_53 rfl rfl ?_
      refine ex_iald 55 dX10_firstBorn_54 rfl (ai_of (n := 18) rfl o1 o2 (by decide)) ?_
      refine ex_aload_n 56 dX10_firstBorn_55 rfl rfl ?_
      refine q_getR (a := 2) 10 3 59 dX10_firstBorn_56 rfl fiX10_13 rfl ⟨_, rfl⟩ rfl ?_
      refine ex_iload_n 60 dX10_firstBorn_59 rfl rfl ?_
      refine ex_iald 61 dX10_firstBorn_60 rfl (ai_of (n := 18) rfl o1 o2 (by decide)) ?_
      refine ex_iconst 62 dX10_firstBorn_61 rfl ?_
      obtain ⟨ht, hf⟩ := hyp
      refine ex_icmp_ne 70 65 dX10_firstBorn_62 (by decide) rfl o3 ⟨by decide, by decide⟩ (fun c5 => ?_) (fun c5 => ?_)
      · have hyp := ht c5
        clear ht hf
        refine ex_bipush 72 dX10_firstBorn_70 rfl ⟨by decide, by decide⟩ ?_
        refine ex_isub 73 dX10_firstBorn_72 rfl ?_
        exact ex_iret dX10_firstBorn_73 (Or.inl rfl) ⟨_, rfl, _, rfl, hyp⟩
      · have hyp := hf c5
        clear ht hf
        refine ex_bipush 67 dX10_firstBorn_65 rfl ⟨by decide, by decide⟩ ?_
        refine ex_goto 72 dX10_firstBorn_67 (by decide) ?_
        refine ex_isub 73 dX10_firstBorn_72 rfl ?_
        exact ex_iret dX10_firstBorn_73 (Or.inl rfl) ⟨_, rfl, _, rfl, hyp⟩
    · have hyp := hf c6
      clear ht hf
      refine ex_aload_n 27 dX10_firstBorn_26 rfl rfl ?_
      refine q_getR (a := 3) 10 4 30 dX10_firstBorn_27 rfl fiX10_16 rfl ⟨_, rfl⟩ rfl ?_
      refine ex_iload_n 31 dX10_firstBorn_30 rfl rfl ?_
      refine ex_iald 32 dX10_firstBorn_31 rfl (ai_of (n := 18) rfl o1 o2 (by decide)) ?_
      refine ex_aload_n 33 dX10_firstBorn_32 rfl rfl ?_
      refine q_getR (a := 4) 10 5 36 dX10_firstBorn_33 rfl fiX10_19 rfl ⟨_, rfl⟩ rfl ?_
      refine ex_iload_n 37 dX10_firstBorn_36 rfl rfl ?_
      refine ex_iald 38 dX10_firstBorn_37 rfl (ai_of (n := 18) rfl o1 o2 (by decide)) ?_
      refine ex_isub 39 dX10_firstBorn_38 rfl ?_
      refine ex_iconst 40 dX10_firstBorn_39 rfl ?_
      refine ex_isub 41 dX10_firstBorn_40 rfl ?_
      refine ex_aload_n 42 dX10_firstBorn_41 rfl rfl ?_
      refine q_getR (a := 8) 10 9 45 dX10_firstBorn_42 rfl fiX10_31 rfl ⟨_, rfl⟩ rfl ?_
      refine ex_iconst 46 dX10_firstBorn_45 rfl ?_
      refine ex_iald 47 dX10_firstBorn_46 rfl (ai_of (n := 3) rfl (by decide) (by decide) (by decide)) ?_
      refine ex_isub 48 dX10_firstBorn_47 rfl ?_
      exact ex_iret dX10_firstBorn_48 (Or.inl rfl) ⟨_, rfl, _, rfl, hyp⟩
  · have hyp := hf c7
    clear ht hf
    refine ex_aload_n 10 dX10_firstBorn_9 rfl rfl ?_
    refine q_getR (a := 3) 10 4 13 dX10_firstBorn_10 rfl fiX10_16 rfl ⟨_, rfl⟩ rfl ?_
    refine ex_iload_n 14 dX10_firstBorn_13 rfl rfl ?_
    refine ex_iald 15 dX10_firstBorn_14 rfl (ai_of (n := 18) rfl o1 o2 (by decide)) ?_
    exact ex_iret dX10_firstBorn_15 (Or.inl rfl) ⟨_, rfl, _, rfl, hyp⟩
set_option maxRecDepth 4000 in
theorem uX10_lastBorn {P : Int → MS → Prop} (m0 : MS) (x1 : Int) (hyp : 0 ≤ x1 ∧ x1 < 18 ∧ rng (m0 2 (x1).toNat) ∧ (¬ m0 2 (x1).toNat = 0 → (rng (m0 4 (x1).toNat) ∧ (m0 4 (x1).toNat = (-1) → ((¬ m0 2 (x1).toNat = 1 → (P ((m0 3 (x1).toNat) - 0) m0)) ∧ (m0 2 (x1).toNat = 1 → (P ((m0 3 (x1).toNat) - 14) m0)))) ∧ (¬ m0 4 (x1).toNat = (-1) → (P (((m0 3 (x1).toNat) - (m0 4 (x1).toNat)) + (m0 8 (1 : Int).toNat)) m0)))) ∧ (m0 2 (x1).toNat = 0 → (P (m0 3 (x1).toNat) m0))) : MMi mX10_lastBorn [vr 0, vi x1] m0 P := by
  refine met_of_ex (by decide +kernel) (Nat.le_of_ble_eq_true rfl) ?_
  show EX mX10_lastBorn 0 [some (vr 0), some (vi x1)] [] (hM m0) (0, 0) _
  refine ex_aload_n 1 dX10_lastBorn_0 rfl rfl ?_
  refine q_getR (a := 2) 10 3 4 dX10_lastBorn_1 rfl fiX10_13 rfl ⟨_, rfl⟩ rfl ?_
  refine ex_iload_n 5 dX10_lastBorn_4 rfl rfl ?_
  obtain ⟨o1, hyp⟩ := hyp
  obtain ⟨o2, hyp⟩ := hyp
  refine ex_iald 6 dX10_lastBorn_5 rfl (ai_of (n := 18) rfl o1 o2 (by decide)) ?_
  obtain ⟨o3, hyp⟩ := hyp
  obtain ⟨ht, hf⟩ := hyp
  refine ex_if_ne 16 9 dX10_lastBorn_6 (by decide) rfl o3 (fun c7 => ?_) (fun c7 => ?_)
  · have hyp := ht c7
    clear ht hf
    refine ex_aload_n 17 dX10_lastBorn_16 rfl rfl ?_
    refine q_getR (a := 4) 10 5 20 dX10_lastBorn_17 rfl fiX10_19 rfl ⟨_, rfl⟩ rfl ?_
    refine ex_iload_n 21 dX10_lastBorn_20 rfl rfl ?_
    refine ex_iald 22 dX10_lastBorn_21 rfl (ai_of (n := 18) rfl o1 o2 (by decide)) ?_
    refine ex_iconst 23 dX10_lastBorn_22 rfl ?_
    obtain ⟨o4, hyp⟩ := hyp
    obtain ⟨ht, hf⟩ := hyp
    refine ex_icmp_eq 47 26 dX10_lastBorn_23 (by decide) rfl o4 ⟨by decide, by decide⟩ (fun c6 => ?_) (fun c6 => ?_)
    · have hyp := ht c6
      clear ht hf
      refine ex_aload_n 48 dX10_lastBorn_47 rfl rfl ?_
      refine q_getR (a := 3) 10 4 51 dX10_lastBorn_48 rfl fiX10_16 rfl ⟨_, rfl⟩ rfl ?_
      refine ex_iload_n 52 dX10_lastBorn_51 rfl rfl ?_
      refine ex_iald 53 dX10_lastBorn_52 rfl (ai_of (n := 18) rfl o1 o2 (by decide)) ?_
      refine ex_aload_n 54 dX10_lastBorn_53 rfl rfl ?_
      refine q_getR (a := 2) 10 3 57 dX10_lastBorn_54 rfl fiX10_13 rfl ⟨_, rfl⟩ rfl ?_
      refine ex_iload_n 58 dX10_lastBorn_57 rfl rfl ?_
      refine ex_iald 59 dX10_lastBorn_58 rfl (ai_of (n := 18) rfl o1 o2 (by decide)) ?_
      refine ex_iconst 60 dX10_lastBorn_59 rfl ?_
      obtain ⟨ht, hf⟩ := hyp
      refine ex_icmp_ne 68 63 dX10_lastBorn_60 (by decide) rfl o3 ⟨by decide, by decide⟩ (fun c5 => ?_) (fun c5 => ?_)
      · have hyp := ht c5
        clear ht hf
        refine ex_iconst 69 dX10_lastBorn_68 rfl ?_
        refine ex_isub 70 dX10_lastBorn_69 rfl ?_
        exact ex_iret dX10_lastBorn_70 (Or.inl rfl) ⟨_, rfl, _, rfl, hyp⟩
      · have hyp := hf c5
        clear ht hf
        refine ex_bipush 65 dX10_lastBorn_63 rfl ⟨by decide, by decide⟩ ?_
        refine ex_goto 69 dX10_lastBorn_65 (by decide) ?_
        refine ex_isub 70 dX10_lastBorn_69 rfl ?_
        exact ex_iret dX10_lastBorn_70 (Or.inl rfl) ⟨_, rfl, _, rfl, hyp⟩
    · have hyp := hf c6
      clear ht hf
      refine ex_aload_n 27 dX10_lastBorn_26 rfl rfl ?_
      refine q_getR (a := 3) 10 4 30 dX10_lastBorn_27 rfl fiX10_16 rfl ⟨_, rfl⟩ rfl ?_
      refine ex_iload_n 31 dX10_lastBorn_30 rfl rfl ?_
      refine ex_iald 32 dX10_lastBorn_31 rfl (ai_of (n := 18) rfl o1 o2 (by decide)) ?_
      refine ex_aload_n 33 dX10_lastBorn_32 rfl rfl ?_
      refine q_getR (a := 4) 10 5 36 dX10_lastBorn_33 rfl fiX10_19 rfl ⟨_, rfl⟩ rfl ?_
      refine ex_iload_n 37 dX10_lastBorn_36 rfl rfl ?_
      refine ex_iald 38 dX10_lastBorn_37 rfl (ai_of (n := 18) rfl o1 o2 (by decide)) ?_
      refine ex_isub 39 dX10_lastBorn_38 rfl ?_
      refine ex_aload_n 40 dX10_lastBorn_39 rfl rfl ?_
      refine q_getR (a := 8) 10 9 43 dX10_lastBorn_40 rfl fiX10_31 rfl ⟨_, rfl⟩ rfl ?_
      refine ex_iconst 44 dX10_lastBorn_43 rfl ?_
      refine ex_iald 45 dX10_lastBorn_44 rfl (ai_of (n := 3) rfl (by decide) (by decide) (by decide)) ?_
      refine ex_iadd 46 dX10_lastBorn_45 rfl ?_
      exact ex_iret dX10_lastBorn_46 (Or.inl rfl) ⟨_, rfl, _, rfl, hyp⟩
  · have hyp := hf c7
    clear ht hf
    refine ex_aload_n 10 dX10_lastBorn_9 rfl rfl ?_
    refine q_getR (a := 3) 10 4 13 dX10_lastBorn_10 rfl fiX10_16 rfl ⟨_, rfl⟩ rfl ?_
    refine ex_iload_n 14 dX10_lastBorn_13 rfl rfl ?_
    refine ex_iald 15 dX10_lastBorn_14 rfl (ai_of (n := 18) rfl o1 o2 (by decide)) ?_
    exact ex_iret dX10_lastBorn_15 (Or.inl rfl) ⟨_, rfl, _, rfl, hyp⟩
set_option maxRecDepth 4000 in
theorem uX10_yearsOf {P : Int → MS → Prop} (m0 : MS) (x1 : Int) (x2 : Int) (hyp : MMi mX10_firstBorn [vr 0, vi x1] m0 (fun y2 m1 => MMi mX10_firstBorn [vr 0, vi x2] m1 (fun y4 m3 => MMi mX10_greater [vi y2, vi y4] m3 (fun y6 m5 => MMi mX10_lastBorn [vr 0, vi x1] m5 (fun y8 m7 => MMi mX10_lastBorn [vr 0, vi x2] m7 (fun y10 m9 => MMi mX10_lesser [vi y8, vi y10] m9 (fun y12 m11 => rng y12 ∧ rng y6 ∧ (y6 ≤ y12 → (P ((y12 - y6) + 1) m11)) ∧ (y12 < y6 → (P 0 m11))))))))) : MMi mX10_yearsOf [vr 0, vi x1, vi x2] m0 P := by
  refine met_of_ex (by decide +kernel) (Nat.le_of_ble_eq_true rfl) ?_
  show EX mX10_yearsOf 0 [some (vr 0), some (vi x1), some (vi x2), none, none] [] (hM m0) (0, 0) _
  refine ex_aload_n 1 dX10_yearsOf_0 rfl rfl ?_
  refine ex_iload_n 2 dX10_yearsOf_1 rfl rfl ?_
  refine s_callVi [vi x1] 5 dX10_yearsOf_2 rfl cvX10_151 rfl rfl ⟨Nat.le_of_ble_eq_true rfl, Nat.le_of_ble_eq_true rfl⟩ (Nat.le_of_ble_eq_true rfl) ⟨_, rfl⟩ hyp (fun y2 h1 hq => ?_)
  obtain ⟨m1, rfl, hyp⟩ := hq
  refine ex_aload_n 6 dX10_yearsOf_5 rfl rfl ?_
  refine ex_iload_n 7 dX10_yearsOf_6 rfl rfl ?_
  refine s_callVi [vi x2] 10 dX10_yearsOf_7 rfl cvX10_151 rfl rfl ⟨Nat.le_of_ble_eq_true rfl, Nat.le_of_ble_eq_true rfl⟩ (Nat.le_of_ble_eq_true rfl) ⟨_, rfl⟩ hyp (fun y4 h1 hq => ?_)
  obtain ⟨m3, rfl, hyp⟩ := hq
  refine s_callSi [vi y2, vi y4] 13 dX10_yearsOf_10 rfl cvX10_148 rfl rfl ⟨Nat.le_of_ble_eq_true rfl, Nat.le_of_ble_eq_true rfl⟩ (Nat.le_of_ble_eq_true rfl) hyp (fun y6 h1 hq => ?_)
  obtain ⟨m5, rfl, hyp⟩ := hq
  refine q_istore_n [some (vr 0), some (vi x1), some (vi x2), some (vi y6), none] 14 dX10_yearsOf_13 rfl (Nat.le_of_ble_eq_true rfl) rfl rfl ?_
  refine ex_aload_n 15 dX10_yearsOf_14 rfl rfl ?_
  refine ex_iload_n 16 dX10_yearsOf_15 rfl rfl ?_
  refine s_callVi [vi x1] 19 dX10_yearsOf_16 rfl cvX10_154 rfl rfl ⟨Nat.le_of_ble_eq_true rfl, Nat.le_of_ble_eq_true rfl⟩ (Nat.le_of_ble_eq_true rfl) ⟨_, rfl⟩ hyp (fun y8 h1 hq => ?_)
  obtain ⟨m7, rfl, hyp⟩ := hq
  refine ex_aload_n 20 dX10_yearsOf_19 rfl rfl ?_
  refine ex_iload_n 21 dX10_yearsOf_20 rfl rfl ?_
  refine s_callVi [vi x2] 24 dX10_yearsOf_21 rfl cvX10_154 rfl rfl ⟨Nat.le_of_ble_eq_true rfl, Nat.le_of_ble_eq_true rfl⟩ (Nat.le_of_ble_eq_true rfl) ⟨_, rfl⟩ hyp (fun y10 h1 hq => ?_)
  obtain ⟨m9, rfl, hyp⟩ := hq
  refine s_callSi [vi y8, vi y10] 27 dX10_yearsOf_24 rfl cvX10_138 rfl rfl ⟨Nat.le_of_ble_eq_true rfl, Nat.le_of_ble_eq_true rfl⟩ (Nat.le_of_ble_eq_true rfl) hyp (fun y12 h1 hq => ?_)
  obtain ⟨m11, rfl, hyp⟩ := hq
  refine q_istore [some (vr 0), some (vi x1), some (vi x2), some (vi y6), some (vi y12)] 29 dX10_yearsOf_27 rfl (Nat.le_of_ble_eq_true rfl) rfl rfl ?_
  refine ex_iload 31 dX10_yearsOf_29 rfl rfl ?_
  refine ex_iload_n 32 dX10_yearsOf_31 rfl rfl ?_
  obtain ⟨o13, hyp⟩ := hyp
  obtain ⟨o14, hyp⟩ := hyp
  obtain ⟨ht, hf⟩ := hyp
  refine ex_icmp_ge 39 35 dX10_yearsOf_32 (by decide) rfl o13 o14 (fun c15 => ?_) (fun c15 => ?_)
  · have hyp := ht c15
    clear ht hf
    refine ex_iload 41 dX10_yearsOf_39 rfl rfl ?_
    refine ex_iload_n 42 dX10_yearsOf_41 rfl rfl ?_
    refine ex_isub 43 dX10_yearsOf_42 rfl ?_
    refine ex_iconst 44 dX10_yearsOf_43 rfl ?_
    refine ex_iadd 45 dX10_yearsOf_44 rfl ?_
    exact ex_iret dX10_yearsOf_45 (Or.inl rfl) ⟨_, rfl, _, rfl, hyp⟩
  · have hyp := hf c15
    clear ht hf
    refine ex_iconst 36 dX10_yearsOf_35 rfl ?_
    refine ex_goto 45 dX10_yearsOf_36 (by decide) ?_
    exact ex_iret dX10_yearsOf_45 (Or.inl rfl) ⟨_, rfl, _, rfl, hyp⟩
set_option maxRecDepth 4000 in
theorem uX10_isParted {P : Int → MS → Prop} (m0 : MS) (x1 : Int) (x2 : Int) (hyp : 0 ≤ x1 ∧ x1 < 18 ∧ rng (b_and (b_shr (m0 7 (x1).toNat) x2) 1) ∧ (¬ b_and (b_shr (m0 7 (x1).toNat) x2) 1 = 1 → (P 0 m0)) ∧ (b_and (b_shr (m0 7 (x1).toNat) x2) 1 = 1 → (P 1 m0))) : MMi mX10_isParted [vr 0, vi x1, vi x2] m0 P := by
  refine met_of_ex (by decide +kernel) (Nat.le_of_ble_eq_true rfl) ?_
  show EX mX10_isParted 0 [some (vr 0), some (vi x1), some (vi x2)] [] (hM m0) (0, 0) _
  refine ex_aload_n 1 dX10_isParted_0 rfl rfl ?_
  refine q_getR (a := 7) 10 8 4 dX10_isParted_1 rfl fiX10_28 rfl ⟨_, rfl⟩ rfl ?_
  refine ex_iload_n 5 dX10_isParted_4 rfl rfl ?_
  obtain ⟨o1, hyp⟩ := hyp
  obtain ⟨o2, hyp⟩ := hyp
  refine ex_iald 6 dX10_isParted_5 rfl (ai_of (n := 18) rfl o1 o2 (by decide)) ?_
  refine ex_iload_n 7 dX10_isParted_6 rfl rfl ?_
  refine ex_ishr 8 dX10_isParted_7 rfl ?_
  refine ex_iconst 9 dX10_isParted_8 rfl ?_
  refine ex_iand 10 dX10_isParted_9 rfl ?_
  refine ex_iconst 11 dX10_isParted_10 rfl ?_
  obtain ⟨o3, hyp⟩ := hyp
  obtain ⟨ht, hf⟩ := hyp
  refine ex_icmp_ne 18 14 dX10_isParted_11 (by decide) rfl o3 ⟨by decide, by decide⟩ (fun c4 => ?_) (fun c4 => ?_)
  · have hyp := ht c4
    clear ht hf
    refine ex_iconst 19 dX10_isParted_18 rfl ?_
    exact ex_iret dX10_isParted_19 (Or.inr ⟨rfl, Or.inl rfl⟩) ⟨_, rfl, _, rfl, hyp⟩
  · have hyp := hf c4
    clear ht hf
    refine ex_iconst 15 dX10_isParted_14 rfl ?_
    refine ex_goto 19 dX10_isParted_15 (by decide) ?_
    exact ex_iret dX10_isParted_19 (Or.inr ⟨rfl, Or.inr rfl⟩) ⟨_, rfl, _, rfl, hyp⟩
set_option maxRecDepth 4000 in
theorem uX10_isOutOfOrder {P : Int → MS → Prop} (m0 : MS) (x1 : Int) (x2 : Int) (hyp : 0 ≤ x1 ∧ x1 < 18 ∧ rng (m0 2 (x1).toNat) ∧ (¬ m0 2 (x1).toNat = 0 → (YYi mX10_isOutOfOrder 28 [some (vr 0), some (vi x1), some (vi x2), none, none] [] m0 P)) ∧ (m0 2 (x1).toNat = 0 → (0 ≤ x2 ∧ x2 < 18 ∧ rng (m0 3 (x1).toNat) ∧ rng (m0 3 (x2).toNat) ∧ (m0 3 (x1).toNat ≤ m0 3 (x2).toNat → (YYi mX10_isOutOfOrder 28 [some (vr 0), some (vi x1), some (vi x2), none, none] [] m0 P)) ∧ (m0 3 (x2).toNat < m0 3 (x1).toNat → ((¬ m0 2 (x1).toNat = 2 → (P 1 m0)) ∧ (m0 2 (x1).toNat = 2 → ((m0 3 (x2).toNat ≤ m0 3 (x1).toNat → (P 1 m0)) ∧ (m0 3 (x1).toNat < m0 3 (x2).toNat → (P 1 m0))))))))) : MMi mX10_isOutOfOrder [vr 0, vi x1, vi x2] m0 P := by
  refine met_of_ex (by decide +kernel) (Nat.le_of_ble_eq_true rfl) ?_
  show EX mX10_isOutOfOrder 0 [some (vr 0), some (vi x1), some (vi x2), none, none] [] (hM m0) (0, 0) _
  refine ex_aload_n 1 dX10_isOutOfOrder_0 rfl rfl ?_
  refine q_getR (a := 2) 10 3 4 dX10_isOutOfOrder_1 rfl fiX10_13 rfl ⟨_, rfl⟩ rfl ?_
  refine ex_iload_n 5 dX10_isOutOfOrder_4 rfl rfl ?_
  obtain ⟨o1, hyp⟩ := hyp
  obtain ⟨o2, hyp⟩ := hyp
  refine ex_iald 6 dX10_isOutOfOrder_5 rfl (ai_of (n := 18) rfl o1 o2 (by decide)) ?_
  obtain ⟨o3, hyp⟩ := hyp
  obtain ⟨ht, hf⟩ := hyp
  refine ex_if_ne 28 9 dX10_isOutOfOrder_6 (by decide) rfl o3 (fun c11 => ?_) (fun c11 => ?_)
  · have hyp := ht c11
    clear ht hf
    exact hyp
  · have hyp := hf c11
    clear ht hf
    refine ex_aload_n 10 dX10_isOutOfOrder_9 rfl rfl ?_
    refine q_getR (a := 3) 10 4 13 dX10_isOutOfOrder_10 rfl fiX10_16 rfl ⟨_, rfl⟩ rfl ?_
    refine ex_iload_n 14 dX10_isOutOfOrder_13 rfl rfl ?_
    refine ex_iald 15 dX10_isOutOfOrder_14 rfl (ai_of (n := 18) rfl o1 o2 (by decide)) ?_
    refine ex_aload_n 16 dX10_isOutOfOrder_15 rfl rfl ?_
    refine q_getR (a := 3) 10 4 19 dX10_isOutOfOrder_16 rfl fiX10_16 rfl ⟨_, rfl⟩ rfl ?_
    refine ex_iload_n 20 dX10_isOutOfOrder_19 rfl rfl ?_
    obtain ⟨o4, hyp⟩ := hyp
    obtain ⟨o5, hyp⟩ := hyp
    refine ex_iald 21 dX10_isOutOfOrder_20 rfl (ai_of (n := 18) rfl o4 o5 (by decide)) ?_
    obtain ⟨o6, hyp⟩ := hyp
    obtain ⟨o7, hyp⟩ := hyp
    obtain ⟨ht, hf⟩ := hyp
    refine ex_icmp_le 28 24 dX10_isOutOfOrder_21 (by decide) rfl o6 o7 (fun c10 => ?_) (fun c10 => ?_)
    · have hyp := ht c10
      clear ht hf
      exact hyp
    · have hyp := hf c10
      clear ht hf
      refine ex_iconst 25 dX10_isOutOfOrder_24 rfl ?_
      refine ex_goto 29 dX10_isOutOfOrder_25 (by decide) ?_
      refine q_istore_n [some (vr 0), some (vi x1), some (vi x2), some (vi 1), none] 30 dX10_isOutOfOrder_29 rfl (Nat.le_of_ble_eq_true rfl) rfl rfl ?_
      refine ex_aload_n 31 dX10_isOutOfOrder_30 rfl rfl ?_
      refine q_getR (a := 2) 10 3 34 dX10_isOutOfOrder_31 rfl fiX10_13 rfl ⟨_, rfl⟩ rfl ?_
      refine ex_iload_n 35 dX10_isOutOfOrder_34 rfl rfl ?_
      refine ex_iald 36 dX10_isOutOfOrder_35 rfl (ai_of (n := 18) rfl o1 o2 (by decide)) ?_
      refine ex_iconst 37 dX10_isOutOfOrder_36 rfl ?_
      obtain ⟨ht, hf⟩ := hyp
      refine ex_icmp_ne 59 40 dX10_isOutOfOrder_37 (by decide) rfl o3 ⟨by decide, by decide⟩ (fun c9 => ?_) (fun c9 => ?_)
      · have hyp := ht c9
        clear ht hf
        refine ex_iconst 60 dX10_isOutOfOrder_59 rfl ?_
        refine q_istore [some (vr 0), some (vi x1), some (vi x2), some (vi 1), some (vi 0)] 62 dX10_isOutOfOrder_60 rfl (Nat.le_of_ble_eq_true rfl) rfl rfl ?_
        refine ex_iload_n 63 dX10_isOutOfOrder_62 rfl rfl ?_
        refine ex_if_ne 71 66 dX10_isOutOfOrder_63 (by decide) rfl ⟨by decide, by decide⟩ (fun _ => ?_) (fun c => absurd c (by decide))
        refine ex_iconst 72 dX10_isOutOfOrder_71 rfl ?_
        refine ex_goto 76 dX10_isOutOfOrder_72 (by decide) ?_
        exact ex_iret dX10_isOutOfOrder_76 (Or.inr ⟨rfl, Or.inr rfl⟩) ⟨_, rfl, _, rfl, hyp⟩
      · have hyp := hf c9
        clear ht hf
        refine ex_aload_n 41 dX10_isOutOfOrder_40 rfl rfl ?_
        refine q_getR (a := 3) 10 4 44 dX10_isOutOfOrder_41 rfl fiX10_16 rfl ⟨_, rfl⟩ rfl ?_
        refine ex_iload_n 45 dX10_isOutOfOrder_44 rfl rfl ?_
        refine ex_iald 46 dX10_isOutOfOrder_45 rfl (ai_of (n := 18) rfl o1 o2 (by decide)) ?_
        refine ex_aload_n 47 dX10_isOutOfOrder_46 rfl rfl ?_
        refine q_getR (a := 3) 10 4 50 dX10_isOutOfOrder_47 rfl fiX10_16 rfl ⟨_, rfl⟩ rfl ?_
        refine ex_iload_n 51 dX10_isOutOfOrder_50 rfl rfl ?_
        refine ex_iald 52 dX10_isOutOfOrder_51 rfl (ai_of (n := 18) rfl o4 o5 (by decide)) ?_
        obtain ⟨ht, hf⟩ := hyp
        refine ex_icmp_ge 59 55 dX10_isOutOfOrder_52 (by decide) rfl o6 o7 (fun c8 => ?_) (fun c8 => ?_)
        · have hyp := ht c8
          clear ht hf
          refine ex_iconst 60 dX10_isOutOfOrder_59 rfl ?_
          refine q_istore [some (vr 0), some (vi x1), some (vi x2), some (vi 1), some (vi 0)] 62 dX10_isOutOfOrder_60 rfl (Nat.le_of_ble_eq_true rfl) rfl rfl ?_
          refine ex_iload_n 63 dX10_isOutOfOrder_62 rfl rfl ?_
          refine ex_if_ne 71 66 dX10_isOutOfOrder_63 (by decide) rfl ⟨by decide, by decide⟩ (fun _ => ?_) (fun c => absurd c (by decide))
          refine ex_iconst 72 dX10_isOutOfOrder_71 rfl ?_
          refine ex_goto 76 dX10_isOutOfOrder_72 (by decide) ?_
          exact ex_iret dX10_isOutOfOrder_76 (Or.inr ⟨rfl, Or.inr rfl⟩) ⟨_, rfl, _, rfl, hyp⟩
        · have hyp := hf c8
          clear ht hf
          refine ex_iconst 56 dX10_isOutOfOrder_55 rfl ?_
          refine ex_goto 60 dX10_isOutOfOrder_56 (by decide) ?_
          refine q_istore [some (vr 0), some (vi x1), some (vi x2), some (vi 1), some (vi 1)] 62 dX10_isOutOfOrder_60 rfl (Nat.le_of_ble_eq_true rfl) rfl rfl ?_
          refine ex_iload_n 63 dX10_isOutOfOrder_62 rfl rfl ?_
          refine ex_if_ne 71 66 dX10_isOutOfOrder_63 (by decide) rfl ⟨by decide, by decide⟩ (fun _ => ?_) (fun c => absurd c (by decide))
          refine ex_iconst 72 dX10_isOutOfOrder_71 rfl ?_
          refine ex_goto 76 dX10_isOutOfOrder_72 (by decide) ?_
          exact ex_iret dX10_isOutOfOrder_76 (Or.inr ⟨rfl, Or.inr rfl⟩) ⟨_, rfl, _, rfl, hyp⟩
set_option maxRecDepth 4000 in
theorem uX10_isOutOfOrder_28 {P : Int → MS → Prop} (m0 : MS) (x1 : Int) (x2 : Int) (hyp : 0 ≤ x1 ∧ x1 < 18 ∧ rng (m0 2 (x1).toNat) ∧ (¬ m0 2 (x1).toNat = 2 → (P 0 m0)) ∧ (m0 2 (x1).toNat = 2 → (0 ≤ x2 ∧ x2 < 18 ∧ rng (m0 3 (x1).toNat) ∧ rng (m0 3 (x2).toNat) ∧ (m0 3 (x2).toNat ≤ m0 3 (x1).toNat → (P 0 m0)) ∧ (m0 3 (x1).toNat < m0 3 (x2).toNat → (P 1 m0))))) : YYi mX10_isOutOfOrder 28 [some (vr 0), some (vi x1), some (vi x2), none, none] [] m0 P := by
  refine ex_iconst 29 dX10_isOutOfOrder_28 rfl ?_
  refine q_istore_n [some (vr 0), some (vi x1), some (vi x2), some (vi 0), none] 30 dX10_isOutOfOrder_29 rfl (Nat.le_of_ble_eq_true rfl) rfl rfl ?_
  refine ex_aload_n 31 dX10_isOutOfOrder_30 rfl rfl ?_
  refine q_getR (a := 2) 10 3 34 dX10_isOutOfOrder_31 rfl fiX10_13 rfl ⟨_, rfl⟩ rfl ?_
  refine ex_iload_n 35 dX10_isOutOfOrder_34 rfl rfl ?_
  obtain ⟨o1, hyp⟩ := hyp
  obtain ⟨o2, hyp⟩ := hyp
  refine ex_iald 36 dX10_isOutOfOrder_35 rfl (ai_of (n := 18) rfl o1 o2 (by decide)) ?_
  refine ex_iconst 37 dX10_isOutOfOrder_36 rfl ?_
  obtain ⟨o3, hyp⟩ := hyp
  obtain ⟨ht, hf⟩ := hyp
  refine ex_icmp_ne 59 40 dX10_isOutOfOrder_37 (by decide) rfl o3 ⟨by decide, by decide⟩ (fun c9 => ?_) (fun c9 => ?_)
  · have hyp := ht c9
    clear ht hf
    refine ex_iconst 60 dX10_isOutOfOrder_59 rfl ?_
    refine q_istore [some (vr 0), some (vi x1), some (vi x2), some (vi 0), some (vi 0)] 62 dX10_isOutOfOrder_60 rfl (Nat.le_of_ble_eq_true rfl) rfl rfl ?_
    refine ex_iload_n 63 dX10_isOutOfOrder_62 rfl rfl ?_
    refine ex_if_ne 71 66 dX10_isOutOfOrder_63 (by decide) rfl ⟨by decide, by decide⟩ (fun c => absurd c (by decide)) (fun _ => ?_)
    refine ex_iload 68 dX10_isOutOfOrder_66 rfl rfl ?_
    refine ex_if_eq 75 71 dX10_isOutOfOrder_68 (by decide) rfl ⟨by decide, by decide⟩ (fun _ => ?_) (fun c => absurd c (by decide))
    refine ex_iconst 76 dX10_isOutOfOrder_75 rfl ?_
    exact ex_iret dX10_isOutOfOrder_76 (Or.inr ⟨rfl, Or.inl rfl⟩) ⟨_, rfl, _, rfl, hyp⟩
  · have hyp := hf c9
    clear ht hf
    refine ex_aload_n 41 dX10_isOutOfOrder_40 rfl rfl ?_
    refine q_getR (a := 3) 10 4 44 dX10_isOutOfOrder_41 rfl fiX10_16 rfl ⟨_, rfl⟩ rfl ?_
    refine ex_iload_n 45 dX10_isOutOfOrder_44 rfl rfl ?_
    refine ex_iald 46 dX10_isOutOfOrder_45 rfl (ai_of (n := 18) rfl o1 o2 (by decide)) ?_
    refine ex_aload_n 47 dX10_isOutOfOrder_46 rfl rfl ?_
    refine q_getR (a := 3) 10 4 50 dX10_isOutOfOrder_47 rfl fiX10_16 rfl ⟨_, rfl⟩ rfl ?_
    refine ex_iload_n 51 dX10_isOutOfOrder_50 rfl rfl ?_
    obtain ⟨o4, hyp⟩ := hyp
    obtain ⟨o5, hyp⟩ := hyp
    refine ex_iald 52 dX10_isOutOfOrder_51 rfl (ai_of (n := 18) rfl o4 o5 (by decide)) ?_
    obtain ⟨o6, hyp⟩ := hyp
    obtain ⟨o7, hyp⟩ := hyp
    obtain ⟨ht, hf⟩ := hyp
    refine ex_icmp_ge 59 55 dX10_isOutOfOrder_52 (by decide) rfl o6 o7 (fun c8 => ?_) (fun c8 => ?_)
    · have hyp := ht c8
      clear ht hf
      refine ex_iconst 60 dX10_isOutOfOrder_59 rfl ?_
      refine q_istore [some (vr 0), some (vi x1), some (vi x2), some (vi 0), some (vi 0)] 62 dX10_isOutOfOrder_60 rfl (Nat.le_of_ble_eq_true rfl) rfl rfl ?_
      refine ex_iload_n 63 dX10_isOutOfOrder_62 rfl rfl ?_
      refine ex_if_ne 71 66 dX10_isOutOfOrder_63 (by decide) rfl ⟨by decide, by decide⟩ (fun c => absurd c (by decide)) (fun _ => ?_)
      refine ex_iload 68 dX10_isOutOfOrder_66 rfl rfl ?_
      refine ex_if_eq 75 71 dX10_isOutOfOrder_68 (by decide) rfl ⟨by decide, by decide⟩ (fun _ => ?_) (fun c => absurd c (by decide))
      refine ex_iconst 76 dX10_isOutOfOrder_75 rfl ?_
      exact ex_iret dX10_isOutOfOrder_76 (Or.inr ⟨rfl, Or.inl rfl⟩) ⟨_, rfl, _, rfl, hyp⟩
    · have hyp := hf c8
      clear ht hf
      refine ex_iconst 56 dX10_isOutOfOrder_55 rfl ?_
      refine ex_goto 60 dX10_isOutOfOrder_56 (by decide) ?_
      refine q_istore [some (vr 0), some (vi x1), some (vi x2), some (vi 0), some (vi 1)] 62 dX10_isOutOfOrder_60 rfl (Nat.le_of_ble_eq_true rfl) rfl rfl ?_
      refine ex_iload_n 63 dX10_isOutOfOrder_62 rfl rfl ?_
      refine ex_if_ne 71 66 dX10_isOutOfOrder_63 (by decide) rfl ⟨by decide, by decide⟩ (fun c => absurd c (by decide)) (fun _ => ?_)
      refine ex_iload 68 dX10_isOutOfOrder_66 rfl rfl ?_
      refine ex_if_eq 75 71 dX10_isOutOfOrder_68 (by decide) rfl ⟨by decide, by decide⟩ (fun c => absurd c (by decide)) (fun _ => ?_)
      refine ex_iconst 72 dX10_isOutOfOrder_71 rfl ?_
      refine ex_goto 76 dX10_isOutOfOrder_72 (by decide) ?_
      exact ex_iret dX10_isOutOfOrder_76 (Or.inr ⟨rfl, Or.inr rfl⟩) ⟨_, rfl, _, rfl, hyp⟩
set_option maxRecDepth 4000 in
theorem uX10_why {P : Int → MS → Prop} (m0 : MS) (x1 : Int) (x2 : Int) (hyp : 0 ≤ x1 ∧ x1 < 18 ∧ 0 ≤ x2 ∧ x2 < 18 ∧ rng (m0 2 (x1).toNat) ∧ rng (m0 2 (x2).toNat) ∧ (¬ m0 2 (x1).toNat = m0 2 (x2).toNat → (MMi mX10_isParted [vr 0, vi x1, vi x2] m0 (fun y8 m7 => rng y8 ∧ (y8 = 0 → (MMi mX10_isOutOfOrder [vr 0, vi x1, vi x2] m7 (fun y11 m10 => rng y11 ∧ (¬ y11 = 0 → (P 4 m10)) ∧ (y11 = 0 → (MMi mX10_isOutOfOrder [vr 0, vi x2, vi x1] m10 (fun y14 m13 => rng y14 ∧ (y14 = 0 → (MMi mX10_yearsOf [vr 0, vi x1, vi x2] m13 (fun y17 m16 => rng y17 ∧ (¬ y17 = 0 → (MMi mX10_likeness [vr 0, vi x1, vi x2] m16 (fun y20 m19 => rng y20 ∧ rng (m19 8 (0 : Int).toNat) ∧ (m19 8 (0 : Int).toNat ≤ y20 → (P 0 m19)) ∧ (y20 < m19 8 (0 : Int).toNat → (P 6 m19))))) ∧ (y17 = 0 → (P 5 m16))))) ∧ (¬ y14 = 0 → (P 4 m13)))))))) ∧ (¬ y8 = 0 → (P 3 m7))))) ∧ (m0 2 (x1).toNat = m0 2 (x2).toNat → ((m0 2 (x1).toNat = 1 → (MMi mX10_isParted [vr 0, vi x1, vi x2] m0 (fun y29 m28 => rng y29 ∧ (y29 = 0 → (MMi mX10_isOutOfOrder [vr 0, vi x1, vi x2] m28 (fun y32 m31 => rng y32 ∧ (¬ y32 = 0 → (P 4 m31)) ∧ (y32 = 0 → (MMi mX10_isOutOfOrder [vr 0, vi x2, vi x1] m31 (fun y35 m34 => rng y35 ∧ (y35 = 0 → (MMi mX10_yearsOf [vr 0, vi x1, vi x2] m34 (fun y38 m37 => rng y38 ∧ (¬ y38 = 0 → (MMi mX10_likeness [vr 0, vi x1, vi x2] m37 (fun y41 m40 => rng y41 ∧ rng (m40 8 (0 : Int).toNat) ∧ (m40 8 (0 : Int).toNat ≤ y41 → (P 0 m40)) ∧ (y41 < m40 8 (0 : Int).toNat → (P 6 m40))))) ∧ (y38 = 0 → (P 5 m37))))) ∧ (¬ y35 = 0 → (P 4 m34)))))))) ∧ (¬ y29 = 0 → (P 3 m28))))) ∧ (¬ m0 2 (x1).toNat = 1 → ((¬ m0 2 (x1).toNat = 0 → (P 2 m0)) ∧ (m0 2 (x1).toNat = 0 → (P 1 m0))))))) : MMi mX10_why [vr 0, vi x1, vi x2] m0 P := by
  refine met_of_ex (by decide +kernel) (Nat.le_of_ble_eq_true rfl) ?_
  show EX mX10_why 0 [some (vr 0), some (vi x1), some (vi x2)] [] (hM m0) (0, 0) _
  refine ex_aload_n 1 dX10_why_0 rfl rfl ?_
  refine q_getR (a := 2) 10 3 4 dX10_why_1 rfl fiX10_13 rfl ⟨_, rfl⟩ rfl ?_
  refine ex_iload_n 5 dX10_why_4 rfl rfl ?_
  obtain ⟨o1, hyp⟩ := hyp
  obtain ⟨o2, hyp⟩ := hyp
  refine ex_iald 6 dX10_why_5 rfl (ai_of (n := 18) rfl o1 o2 (by decide)) ?_
  refine ex_aload_n 7 dX10_why_6 rfl rfl ?_
  refine q_getR (a := 2) 10 3 10 dX10_why_7 rfl fiX10_13 rfl ⟨_, rfl⟩ rfl ?_
  refine ex_iload_n 11 dX10_why_10 rfl rfl ?_
  obtain ⟨o3, hyp⟩ := hyp
  obtain ⟨o4, hyp⟩ := hyp
  refine ex_iald 12 dX10_why_11 rfl (ai_of (n := 18) rfl o3 o4 (by decide)) ?_
  obtain ⟨o5, hyp⟩ := hyp
  obtain ⟨o6, hyp⟩ := hyp
  obtain ⟨ht, hf⟩ := hyp
  refine ex_icmp_ne 40 15 dX10_why_12 (by decide) rfl o5 o6 (fun c51 => ?_) (fun c51 => ?_)
  · have hyp := ht c51
    clear ht hf
    refine ex_aload_n 41 dX10_why_40 rfl rfl ?_
    refine ex_iload_n 42 dX10_why_41 rfl rfl ?_
    refine ex_iload_n 43 dX10_why_42 rfl rfl ?_
    refine s_callVi [vi x1, vi x2] 46 dX10_why_43 rfl cvX10_157 rfl rfl ⟨Nat.le_of_ble_eq_true rfl, Nat.le_of_ble_eq_true rfl⟩ (Nat.le_of_ble_eq_true rfl) ⟨_, rfl⟩ hyp (fun y8 h1 hq => ?_)
    obtain ⟨m7, rfl, hyp⟩ := hq
    obtain ⟨o9, hyp⟩ := hyp
    obtain ⟨ht, hf⟩ := hyp
    refine ex_if_eq 51 49 dX10_why_46 (by decide) rfl o9 (fun c27 => ?_) (fun c27 => ?_)
    · have hyp := ht c27
      clear ht hf
      refine ex_aload_n 52 dX10_why_51 rfl rfl ?_
      refine ex_iload_n 53 dX10_why_52 rfl rfl ?_
      refine ex_iload_n 54 dX10_why_53 rfl rfl ?_
      refine s_callVi [vi x1, vi x2] 57 dX10_why_54 rfl cvX10_160 rfl rfl ⟨Nat.le_of_ble_eq_true rfl, Nat.le_of_ble_eq_true rfl⟩ (Nat.le_of_ble_eq_true rfl) ⟨_, rfl⟩ hyp (fun y11 h1 hq => ?_)
      obtain ⟨m10, rfl, hyp⟩ := hq
      obtain ⟨o12, hyp⟩ := hyp
      obtain ⟨ht, hf⟩ := hyp
      refine ex_if_ne 69 60 dX10_why_57 (by decide) rfl o12 (fun c26 => ?_) (fun c26 => ?_)
      · have hyp := ht c26
        clear ht hf
        refine ex_iconst 70 dX10_why_69 rfl ?_
        exact ex_iret dX10_why_70 (Or.inl rfl) ⟨_, rfl, _, rfl, hyp⟩
      · have hyp := hf c26
        clear ht hf
        refine ex_aload_n 61 dX10_why_60 rfl rfl ?_
        refine ex_iload_n 62 dX10_why_61 rfl rfl ?_
        refine ex_iload_n 63 dX10_why_62 rfl rfl ?_
        refine s_callVi [vi x2, vi x1] 66 dX10_why_63 rfl cvX10_160 rfl rfl ⟨Nat.le_of_ble_eq_true rfl, Nat.le_of_ble_eq_true rfl⟩ (Nat.le_of_ble_eq_true rfl) ⟨_, rfl⟩ hyp (fun y14 h1 hq => ?_)
        obtain ⟨m13, rfl, hyp⟩ := hq
        obtain ⟨o15, hyp⟩ := hyp
        obtain ⟨ht, hf⟩ := hyp
        refine ex_if_eq 71 69 dX10_why_66 (by decide) rfl o15 (fun c25 => ?_) (fun c25 => ?_)
        · have hyp := ht c25
          clear ht hf
          refine ex_aload_n 72 dX10_why_71 rfl rfl ?_
          refine ex_iload_n 73 dX10_why_72 rfl rfl ?_
          refine ex_iload_n 74 dX10_why_73 rfl rfl ?_
          refine s_callVi [vi x1, vi x2] 77 dX10_why_74 rfl cvX10_163 rfl rfl ⟨Nat.le_of_ble_eq_true rfl, Nat.le_of_ble_eq_true rfl⟩ (Nat.le_of_ble_eq_true rfl) ⟨_, rfl⟩ hyp (fun y17 h1 hq => ?_)
          obtain ⟨m16, rfl, hyp⟩ := hq
          obtain ⟨o18, hyp⟩ := hyp
          obtain ⟨ht, hf⟩ := hyp
          refine ex_if_ne 82 80 dX10_why_77 (by decide) rfl o18 (fun c24 => ?_) (fun c24 => ?_)
          · have hyp := ht c24
            clear ht hf
            refine ex_aload_n 83 dX10_why_82 rfl rfl ?_
            refine ex_iload_n 84 dX10_why_83 rfl rfl ?_
            refine ex_iload_n 85 dX10_why_84 rfl rfl ?_
            refine s_callVi [vi x1, vi x2] 88 dX10_why_85 rfl cvX10_166 rfl rfl ⟨Nat.le_of_ble_eq_true rfl, Nat.le_of_ble_eq_true rfl⟩ (Nat.le_of_ble_eq_true rfl) ⟨_, rfl⟩ hyp (fun y20 h1 hq => ?_)
            obtain ⟨m19, rfl, hyp⟩ := hq
            refine ex_aload_n 89 dX10_why_88 rfl rfl ?_
            refine q_getR (a := 8) 10 9 92 dX10_why_89 rfl fiX10_31 rfl ⟨_, rfl⟩ rfl ?_
            refine ex_iconst 93 dX10_why_92 rfl ?_
            refine ex_iald 94 dX10_why_93 rfl (ai_of (n := 3) rfl (by decide) (by decide) (by decide)) ?_
            obtain ⟨o21, hyp⟩ := hyp
            obtain ⟨o22, hyp⟩ := hyp
            obtain ⟨ht, hf⟩ := hyp
            refine ex_icmp_ge 102 97 dX10_why_94 (by decide) rfl o21 o22 (fun c23 => ?_) (fun c23 => ?_)
            · have hyp := ht c23
              clear ht hf
              refine ex_iconst 103 dX10_why_102 rfl ?_
              exact ex_iret dX10_why_103 (Or.inl rfl) ⟨_, rfl, _, rfl, hyp⟩
            · have hyp := hf c23
              clear ht hf
              refine ex_bipush 99 dX10_why_97 rfl ⟨by decide, by decide⟩ ?_
              refine ex_goto 103 dX10_why_99 (by decide) ?_
              exact ex_iret dX10_why_103 (Or.inl rfl) ⟨_, rfl, _, rfl, hyp⟩
          · have hyp := hf c24
            clear ht hf
            refine ex_iconst 81 dX10_why_80 rfl ?_
            exact ex_iret dX10_why_81 (Or.inl rfl) ⟨_, rfl, _, rfl, hyp⟩
        · have hyp := hf c25
          clear ht hf
          refine ex_iconst 70 dX10_why_69 rfl ?_
          exact ex_iret dX10_why_70 (Or.inl rfl) ⟨_, rfl, _, rfl, hyp⟩
    · have hyp := hf c27
      clear ht hf
      refine ex_iconst 50 dX10_why_49 rfl ?_
      exact ex_iret dX10_why_50 (Or.inl rfl) ⟨_, rfl, _, rfl, hyp⟩
  · have hyp := hf c51
    clear ht hf
    refine ex_aload_n 16 dX10_why_15 rfl rfl ?_
    refine q_getR (a := 2) 10 3 19 dX10_why_16 rfl fiX10_13 rfl ⟨_, rfl⟩ rfl ?_
    refine ex_iload_n 20 dX10_why_19 rfl rfl ?_
    refine ex_iald 21 dX10_why_20 rfl (ai_of (n := 18) rfl o1 o2 (by decide)) ?_
    refine ex_iconst 22 dX10_why_21 rfl ?_
    obtain ⟨ht, hf⟩ := hyp
    refine ex_icmp_eq 40 25 dX10_why_22 (by decide) rfl o5 ⟨by decide, by decide⟩ (fun c50 => ?_) (fun c50 => ?_)
    · have hyp := ht c50
      clear ht hf
      refine ex_aload_n 41 dX10_why_40 rfl rfl ?_
      refine ex_iload_n 42 dX10_why_41 rfl rfl ?_
      refine ex_iload_n 43 dX10_why_42 rfl rfl ?_
      refine s_callVi [vi x1, vi x2] 46 dX10_why_43 rfl cvX10_157 rfl rfl ⟨Nat.le_of_ble_eq_true rfl, Nat.le_of_ble_eq_true rfl⟩ (Nat.le_of_ble_eq_true rfl) ⟨_, rfl⟩ hyp (fun y29 h1 hq => ?_)
      obtain ⟨m28, rfl, hyp⟩ := hq
      obtain ⟨o30, hyp⟩ := hyp
      obtain ⟨ht, hf⟩ := hyp
      refine ex_if_eq 51 49 dX10_why_46 (by decide) rfl o30 (fun c48 => ?_) (fun c48 => ?_)
      · have hyp := ht c48
        clear ht hf
        refine ex_aload_n 52 dX10_why_51 rfl rfl ?_
        refine ex_iload_n 53 dX10_why_52 rfl rfl ?_
        refine ex_iload_n 54 dX10_why_53 rfl rfl ?_
        refine s_callVi [vi x1, vi x2] 57 dX10_why_54 rfl cvX10_160 rfl rfl ⟨Nat.le_of_ble_eq_true rfl, Nat.le_of_ble_eq_true rfl⟩ (Nat.le_of_ble_eq_true rfl) ⟨_, rfl⟩ hyp (fun y32 h1 hq => ?_)
        obtain ⟨m31, rfl, hyp⟩ := hq
        obtain ⟨o33, hyp⟩ := hyp
        obtain ⟨ht, hf⟩ := hyp
        refine ex_if_ne 69 60 dX10_why_57 (by decide) rfl o33 (fun c47 => ?_) (fun c47 => ?_)
        · have hyp := ht c47
          clear ht hf
          refine ex_iconst 70 dX10_why_69 rfl ?_
          exact ex_iret dX10_why_70 (Or.inl rfl) ⟨_, rfl, _, rfl, hyp⟩
        · have hyp := hf c47
          clear ht hf
          refine ex_aload_n 61 dX10_why_60 rfl rfl ?_
          refine ex_iload_n 62 dX10_why_61 rfl rfl ?_
          refine ex_iload_n 63 dX10_why_62 rfl rfl ?_
          refine s_callVi [vi x2, vi x1] 66 dX10_why_63 rfl cvX10_160 rfl rfl ⟨Nat.le_of_ble_eq_true rfl, Nat.le_of_ble_eq_true rfl⟩ (Nat.le_of_ble_eq_true rfl) ⟨_, rfl⟩ hyp (fun y35 h1 hq => ?_)
          obtain ⟨m34, rfl, hyp⟩ := hq
          obtain ⟨o36, hyp⟩ := hyp
          obtain ⟨ht, hf⟩ := hyp
          refine ex_if_eq 71 69 dX10_why_66 (by decide) rfl o36 (fun c46 => ?_) (fun c46 => ?_)
          · have hyp := ht c46
            clear ht hf
            refine ex_aload_n 72 dX10_why_71 rfl rfl ?_
            refine ex_iload_n 73 dX10_why_72 rfl rfl ?_
            refine ex_iload_n 74 dX10_why_73 rfl rfl ?_
            refine s_callVi [vi x1, vi x2] 77 dX10_why_74 rfl cvX10_163 rfl rfl ⟨Nat.le_of_ble_eq_true rfl, Nat.le_of_ble_eq_true rfl⟩ (Nat.le_of_ble_eq_true rfl) ⟨_, rfl⟩ hyp (fun y38 h1 hq => ?_)
            obtain ⟨m37, rfl, hyp⟩ := hq
            obtain ⟨o39, hyp⟩ := hyp
            obtain ⟨ht, hf⟩ := hyp
            refine ex_if_ne 82 80 dX10_why_77 (by decide) rfl o39 (fun c45 => ?_) (fun c45 => ?_)
            · have hyp := ht c45
              clear ht hf
              refine ex_aload_n 83 dX10_why_82 rfl rfl ?_
              refine ex_iload_n 84 dX10_why_83 rfl rfl ?_
              refine ex_iload_n 85 dX10_why_84 rfl rfl ?_
              refine s_callVi [vi x1, vi x2] 88 dX10_why_85 rfl cvX10_166 rfl rfl ⟨Nat.le_of_ble_eq_true rfl, Nat.le_of_ble_eq_true rfl⟩ (Nat.le_of_ble_eq_true rfl) ⟨_, rfl⟩ hyp (fun y41 h1 hq => ?_)
              obtain ⟨m40, rfl, hyp⟩ := hq
              refine ex_aload_n 89 dX10_why_88 rfl rfl ?_
              refine q_getR (a := 8) 10 9 92 dX10_why_89 rfl fiX10_31 rfl ⟨_, rfl⟩ rfl ?_
              refine ex_iconst 93 dX10_why_92 rfl ?_
              refine ex_iald 94 dX10_why_93 rfl (ai_of (n := 3) rfl (by decide) (by decide) (by decide)) ?_
              obtain ⟨o42, hyp⟩ := hyp
              obtain ⟨o43, hyp⟩ := hyp
              obtain ⟨ht, hf⟩ := hyp
              refine ex_icmp_ge 102 97 dX10_why_94 (by decide) rfl o42 o43 (fun c44 => ?_) (fun c44 => ?_)
              · have hyp := ht c44
                clear ht hf
                refine ex_iconst 103 dX10_why_102 rfl ?_
                exact ex_iret dX10_why_103 (Or.inl rfl) ⟨_, rfl, _, rfl, hyp⟩
              · have hyp := hf c44
                clear ht hf
                refine ex_bipush 99 dX10_why_97 rfl ⟨by decide, by decide⟩ ?_
                refine ex_goto 103 dX10_why_99 (by decide) ?_
                exact ex_iret dX10_why_103 (Or.inl rfl) ⟨_, rfl, _, rfl, hyp⟩
            · have hyp := hf c45
              clear ht hf
              refine ex_iconst 81 dX10_why_80 rfl ?_
              exact ex_iret dX10_why_81 (Or.inl rfl) ⟨_, rfl, _, rfl, hyp⟩
          · have hyp := hf c46
            clear ht hf
            refine ex_iconst 70 dX10_why_69 rfl ?_
            exact ex_iret dX10_why_70 (Or.inl rfl) ⟨_, rfl, _, rfl, hyp⟩
      · have hyp := hf c48
        clear ht hf
        refine ex_iconst 50 dX10_why_49 rfl ?_
        exact ex_iret dX10_why_50 (Or.inl rfl) ⟨_, rfl, _, rfl, hyp⟩
    · have hyp := hf c50
      clear ht hf
      refine ex_aload_n 26 dX10_why_25 rfl rfl ?_
      refine q_getR (a := 2) 10 3 29 dX10_why_26 rfl fiX10_13 rfl ⟨_, rfl⟩ rfl ?_
      refine ex_iload_n 30 dX10_why_29 rfl rfl ?_
      refine ex_iald 31 dX10_why_30 rfl (ai_of (n := 18) rfl o1 o2 (by decide)) ?_
      obtain ⟨ht, hf⟩ := hyp
      refine ex_if_ne 38 34 dX10_why_31 (by decide) rfl o5 (fun c49 => ?_) (fun c49 => ?_)
      · have hyp := ht c49
        clear ht hf
        refine ex_iconst 39 dX10_why_38 rfl ?_
        exact ex_iret dX10_why_39 (Or.inl rfl) ⟨_, rfl, _, rfl, hyp⟩
      · have hyp := hf c49
        clear ht hf
        refine ex_iconst 35 dX10_why_34 rfl ?_
        refine ex_goto 39 dX10_why_35 (by decide) ?_
        exact ex_iret dX10_why_39 (Or.inl rfl) ⟨_, rfl, _, rfl, hyp⟩
set_option maxRecDepth 4000 in
theorem uX10_isFit {P : Int → MS → Prop} (m0 : MS) (x1 : Int) (x2 : Int) (hyp : MMi mX10_why [vr 0, vi x1, vi x2] m0 (fun y2 m1 => rng y2 ∧ (¬ y2 = 0 → (P 0 m1)) ∧ (y2 = 0 → (P 1 m1)))) : MMi mX10_isFit [vr 0, vi x1, vi x2] m0 P := by
  refine met_of_ex (by decide +kernel) (Nat.le_of_ble_eq_true rfl) ?_
  show EX mX10_isFit 0 [some (vr 0), some (vi x1), some (vi x2)] [] (hM m0) (0, 0) _
  refine ex_aload_n 1 dX10_isFit_0 rfl rfl ?_
  refine ex_iload_n 2 dX10_isFit_1 rfl rfl ?_
  refine ex_iload_n 3 dX10_isFit_2 rfl rfl ?_
  refine s_callVi [vi x1, vi x2] 6 dX10_isFit_3 rfl cvX10_169 rfl rfl ⟨Nat.le_of_ble_eq_true rfl, Nat.le_of_ble_eq_true rfl⟩ (Nat.le_of_ble_eq_true rfl) ⟨_, rfl⟩ hyp (fun y2 h1 hq => ?_)
  obtain ⟨m1, rfl, hyp⟩ := hq
  obtain ⟨o3, hyp⟩ := hyp
  obtain ⟨ht, hf⟩ := hyp
  refine ex_if_ne 13 9 dX10_isFit_6 (by decide) rfl o3 (fun c4 => ?_) (fun c4 => ?_)
  · have hyp := ht c4
    clear ht hf
    refine ex_iconst 14 dX10_isFit_13 rfl ?_
    exact ex_iret dX10_isFit_14 (Or.inr ⟨rfl, Or.inl rfl⟩) ⟨_, rfl, _, rfl, hyp⟩
  · have hyp := hf c4
    clear ht hf
    refine ex_iconst 10 dX10_isFit_9 rfl ?_
    refine ex_goto 14 dX10_isFit_10 (by decide) ?_
    exact ex_iret dX10_isFit_14 (Or.inr ⟨rfl, Or.inr rfl⟩) ⟨_, rfl, _, rfl, hyp⟩
set_option maxRecDepth 4000 in
theorem uX10_worthOf {P : Int → MS → Prop} (m0 : MS) (x1 : Int) (x2 : Int) (hyp : MMi mX10_isFit [vr 0, vi x1, vi x2] m0 (fun y2 m1 => rng y2 ∧ (y2 = 0 → (P (-1) m1)) ∧ (¬ y2 = 0 → (MMi mX10_likeness [vr 0, vi x1, vi x2] m1 (fun y5 m4 => MMi mX10_yearsOf [vr 0, vi x1, vi x2] m4 (fun y7 m6 => rng y7 ∧ ¬ y7 = 0 ∧ P (y5 + (Int.tdiv 200 y7)) m6)))))) : MMi mX10_worthOf [vr 0, vi x1, vi x2] m0 P := by
  refine met_of_ex (by decide +kernel) (Nat.le_of_ble_eq_true rfl) ?_
  show EX mX10_worthOf 0 [some (vr 0), some (vi x1), some (vi x2)] [] (hM m0) (0, 0) _
  refine ex_aload_n 1 dX10_worthOf_0 rfl rfl ?_
  refine ex_iload_n 2 dX10_worthOf_1 rfl rfl ?_
  refine ex_iload_n 3 dX10_worthOf_2 rfl rfl ?_
  refine s_callVi [vi x1, vi x2] 6 dX10_worthOf_3 rfl cvX10_172 rfl rfl ⟨Nat.le_of_ble_eq_true rfl, Nat.le_of_ble_eq_true rfl⟩ (Nat.le_of_ble_eq_true rfl) ⟨_, rfl⟩ hyp (fun y2 h1 hq => ?_)
  obtain ⟨m1, rfl, hyp⟩ := hq
  obtain ⟨o3, hyp⟩ := hyp
  obtain ⟨ht, hf⟩ := hyp
  refine ex_if_eq 29 9 dX10_worthOf_6 (by decide) rfl o3 (fun c10 => ?_) (fun c10 => ?_)
  · have hyp := ht c10
    clear ht hf
    refine ex_iconst 30 dX10_worthOf_29 rfl ?_
    exact ex_iret dX10_worthOf_30 (Or.inl rfl) ⟨_, rfl, _, rfl, hyp⟩
  · have hyp := hf c10
    clear ht hf
    refine ex_aload_n 10 dX10_worthOf_9 rfl rfl ?_
    refine ex_iload_n 11 dX10_worthOf_10 rfl rfl ?_
    refine ex_iload_n 12 dX10_worthOf_11 rfl rfl ?_
    refine s_callVi [vi x1, vi x2] 15 dX10_worthOf_12 rfl cvX10_166 rfl rfl ⟨Nat.le_of_ble_eq_true rfl, Nat.le_of_ble_eq_true rfl⟩ (Nat.le_of_ble_eq_true rfl) ⟨_, rfl⟩ hyp (fun y5 h1 hq => ?_)
    obtain ⟨m4, rfl, hyp⟩ := hq
    refine ex_sipush 18 dX10_worthOf_15 rfl ⟨by decide, by decide⟩ ?_
    refine ex_aload_n 19 dX10_worthOf_18 rfl rfl ?_
    refine ex_iload_n 20 dX10_worthOf_19 rfl rfl ?_
    refine ex_iload_n 21 dX10_worthOf_20 rfl rfl ?_
    refine s_callVi [vi x1, vi x2] 24 dX10_worthOf_21 rfl cvX10_163 rfl rfl ⟨Nat.le_of_ble_eq_true rfl, Nat.le_of_ble_eq_true rfl⟩ (Nat.le_of_ble_eq_true rfl) ⟨_, rfl⟩ hyp (fun y7 h1 hq => ?_)
    obtain ⟨m6, rfl, hyp⟩ := hq
    obtain ⟨o8, hyp⟩ := hyp
    obtain ⟨o9, hyp⟩ := hyp
    refine ex_idiv 25 dX10_worthOf_24 rfl ⟨by decide, by decide⟩ o8 o9 ?_
    refine ex_iadd 26 dX10_worthOf_25 rfl ?_
    refine ex_goto 30 dX10_worthOf_26 (by decide) ?_
    exact ex_iret dX10_worthOf_30 (Or.inl rfl) ⟨_, rfl, _, rfl, hyp⟩
set_option maxRecDepth 4000 in
theorem uX10_isEntry {P : Int → MS → Prop} (m0 : MS) (x1 : Int) (hyp : MMi mX10_within [vi x1, vi 0, vi ((m0 0 2) - 1)] m0 (fun y2 m1 => (y2 = 0 ∨ y2 = 1) ∧ P y2 m1)) : MMi mX10_isEntry [vr 0, vi x1] m0 P := by
  refine met_of_ex (by decide +kernel) (Nat.le_of_ble_eq_true rfl) ?_
  show EX mX10_isEntry 0 [some (vr 0), some (vi x1)] [] (hM m0) (0, 0) _
  refine ex_iload_n 1 dX10_isEntry_0 rfl rfl ?_
  refine ex_iconst 2 dX10_isEntry_1 rfl ?_
  refine ex_aload_n 3 dX10_isEntry_2 rfl rfl ?_
  refine q_getI 10 2 6 dX10_isEntry_3 rfl fiX10_118 (Or.inl rfl) ⟨_, rfl⟩ ?_
  refine ex_iconst 7 dX10_isEntry_6 rfl ?_
  refine ex_isub 8 dX10_isEntry_7 rfl ?_
  refine s_callSi [vi x1, vi 0, vi ((m0 0 2) - 1)] 11 dX10_isEntry_8 rfl cvX10_76 rfl rfl ⟨Nat.le_of_ble_eq_true rfl, Nat.le_of_ble_eq_true rfl⟩ (Nat.le_of_ble_eq_true rfl) hyp (fun y2 h1 hq => ?_)
  obtain ⟨m1, rfl, hyp⟩ := hq
  exact ex_iret dX10_isEntry_11 (Or.inr ⟨rfl, hyp.1⟩) ⟨_, rfl, _, rfl, hyp.2⟩
set_option maxRecDepth 4000 in
theorem uX10_twoNow {P : Int → MS → Prop} (m0 : MS) (x1 : Int) (x2 : Int) (x3 : Int) (hyp : rng x3 ∧ (x3 < 0 ∨ 3 < x3 → (MMi mX10_yearsOf [vr 0, vi x1, vi x2] m0 (fun y3 m2 => P y3 m2))) ∧ (x3 = 0 → (MMi mX10_distance [vr 0, vi x1, vi x2] m0 (fun y5 m4 => P y5 m4))) ∧ (x3 = 1 → (MMi mX10_likeness [vr 0, vi x1, vi x2] m0 (fun y7 m6 => P y7 m6))) ∧ (x3 = 2 → (MMi mX10_why [vr 0, vi x1, vi x2] m0 (fun y9 m8 => P y9 m8))) ∧ (x3 = 3 → (MMi mX10_worthOf [vr 0, vi x1, vi x2] m0 (fun y11 m10 => P y11 m10)))) : MMi mX10_twoNow [vr 0, vi x1, vi x2, vi x3] m0 P := by
  refine met_of_ex (by decide +kernel) (Nat.le_of_ble_eq_true rfl) ?_
  show EX mX10_twoNow 0 [some (vr 0), some (vi x1), some (vi x2), some (vi x3)] [] (hM m0) (0, 0) _
  refine ex_iload_n 1 dX10_twoNow_0 rfl rfl ?_
  obtain ⟨o1, hyp⟩ := hyp
  obtain ⟨hd, hv0, hv1, hv2, hv3⟩ := hyp
  rcases (show (x3 < 0 ∨ 3 < x3) ∨ x3 = 0 ∨ x3 = 1 ∨ x3 = 2 ∨ x3 = 3 by omega) with c | c | c | c | c
  · refine ex_tswOut 60 dX10_twoNow_1 o1 c (by decide) ?_
    have hyp := hd c
    refine ex_aload_n 61 dX10_twoNow_60 rfl rfl ?_
    refine ex_iload_n 62 dX10_twoNow_61 rfl rfl ?_
    refine ex_iload_n 63 dX10_twoNow_62 rfl rfl ?_
    refine s_callVi [vi x1, vi x2] 66 dX10_twoNow_63 rfl cvX10_163 rfl rfl ⟨Nat.le_of_ble_eq_true rfl, Nat.le_of_ble_eq_true rfl⟩ (Nat.le_of_ble_eq_true rfl) ⟨_, rfl⟩ hyp (fun y3 h1 hq => ?_)
    obtain ⟨m2, rfl, hyp⟩ := hq
    exact ex_iret dX10_twoNow_66 (Or.inl rfl) ⟨_, rfl, _, rfl, hyp⟩
  · refine ex_tswIn 0 32 dX10_twoNow_1 c ⟨by decide, by decide⟩ (by decide) (by decide) rfl (by decide) ?_
    have hyp := hv0 c
    refine ex_aload_n 33 dX10_twoNow_32 rfl rfl ?_
    refine ex_iload_n 34 dX10_twoNow_33 rfl rfl ?_
    refine ex_iload_n 35 dX10_twoNow_34 rfl rfl ?_
    refine s_callVi [vi x1, vi x2] 38 dX10_twoNow_35 rfl cvX10_145 rfl rfl ⟨Nat.le_of_ble_eq_true rfl, Nat.le_of_ble_eq_true rfl⟩ (Nat.le_of_ble_eq_true rfl) ⟨_, rfl⟩ hyp (fun y5 h1 hq => ?_)
    obtain ⟨m4, rfl, hyp⟩ := hq
    exact ex_iret dX10_twoNow_38 (Or.inl rfl) ⟨_, rfl, _, rfl, hyp⟩
  · refine ex_tswIn 1 39 dX10_twoNow_1 c ⟨by decide, by decide⟩ (by decide) (by decide) rfl (by decide) ?_
    have hyp := hv1 c
    refine ex_aload_n 40 dX10_twoNow_39 rfl rfl ?_
    refine ex_iload_n 41 dX10_twoNow_40 rfl rfl ?_
    refine ex_iload_n 42 dX10_twoNow_41 rfl rfl ?_
    refine s_callVi [vi x1, vi x2] 45 dX10_twoNow_42 rfl cvX10_166 rfl rfl ⟨Nat.le_of_ble_eq_true rfl, Nat.le_of_ble_eq_true rfl⟩ (Nat.le_of_ble_eq_true rfl) ⟨_, rfl⟩ hyp (fun y7 h1 hq => ?_)
    obtain ⟨m6, rfl, hyp⟩ := hq
    exact ex_iret dX10_twoNow_45 (Or.inl rfl) ⟨_, rfl, _, rfl, hyp⟩
  · refine ex_tswIn 2 46 dX10_twoNow_1 c ⟨by decide, by decide⟩ (by decide) (by decide) rfl (by decide) ?_
    have hyp := hv2 c
    refine ex_aload_n 47 dX10_twoNow_46 rfl rfl ?_
    refine ex_iload_n 48 dX10_twoNow_47 rfl rfl ?_
    refine ex_iload_n 49 dX10_twoNow_48 rfl rfl ?_
    refine s_callVi [vi x1, vi x2] 52 dX10_twoNow_49 rfl cvX10_169 rfl rfl ⟨Nat.le_of_ble_eq_true rfl, Nat.le_of_ble_eq_true rfl⟩ (Nat.le_of_ble_eq_true rfl) ⟨_, rfl⟩ hyp (fun y9 h1 hq => ?_)
    obtain ⟨m8, rfl, hyp⟩ := hq
    exact ex_iret dX10_twoNow_52 (Or.inl rfl) ⟨_, rfl, _, rfl, hyp⟩
  · refine ex_tswIn 3 53 dX10_twoNow_1 c ⟨by decide, by decide⟩ (by decide) (by decide) rfl (by decide) ?_
    have hyp := hv3 c
    refine ex_aload_n 54 dX10_twoNow_53 rfl rfl ?_
    refine ex_iload_n 55 dX10_twoNow_54 rfl rfl ?_
    refine ex_iload_n 56 dX10_twoNow_55 rfl rfl ?_
    refine s_callVi [vi x1, vi x2] 59 dX10_twoNow_56 rfl cvX10_175 rfl rfl ⟨Nat.le_of_ble_eq_true rfl, Nat.le_of_ble_eq_true rfl⟩ (Nat.le_of_ble_eq_true rfl) ⟨_, rfl⟩ hyp (fun y11 h1 hq => ?_)
    obtain ⟨m10, rfl, hyp⟩ := hq
    exact ex_iret dX10_twoNow_59 (Or.inl rfl) ⟨_, rfl, _, rfl, hyp⟩
set_option maxRecDepth 4000 in
theorem uX10_two {P : Int → MS → Prop} (m0 : MS) (x1 : Int) (x2 : Int) (x3 : Int) (hyp : MMi mX10_isEntry [vr 0, vi x1] m0 (fun y2 m1 => rng y2 ∧ (y2 = 0 → (P (-101) m1)) ∧ (¬ y2 = 0 → (MMi mX10_isEntry [vr 0, vi x2] m1 (fun y5 m4 => rng y5 ∧ (y5 = 0 → (P (-101) m4)) ∧ (¬ y5 = 0 → (rng x1 ∧ rng x2 ∧ (¬ x1 = x2 → (MMi mX10_within [vi x3, vi 0, vi 4] m4 (fun y10 m9 => rng y10 ∧ (y10 = 0 → (P (-102) m9)) ∧ (¬ y10 = 0 → (MMi mX10_twoNow [vr 0, vi x1, vi x2, vi x3] m9 (fun y13 m12 => P y13 m12)))))) ∧ (x1 = x2 → (P (-101) m4))))))))) : MMi mX10_two [vr 0, vi x1, vi x2, vi x3] m0 P := by
  refine met_of_ex (by decide +kernel) (Nat.le_of_ble_eq_true rfl) ?_
  show EX mX10_two 0 [some (vr 0), some (vi x1), some (vi x2), some (vi x3)] [] (hM m0) (0, 0) _
  refine ex_aload_n 1 dX10_two_0 rfl rfl ?_
  refine ex_iload_n 2 dX10_two_1 rfl rfl ?_
  refine s_callVi [vi x1] 5 dX10_two_2 rfl cvX10_178 rfl rfl ⟨Nat.le_of_ble_eq_true rfl, Nat.le_of_ble_eq_true rfl⟩ (Nat.le_of_ble_eq_true rfl) ⟨_, rfl⟩ hyp (fun y2 h1 hq => ?_)
  obtain ⟨m1, rfl, hyp⟩ := hq
  obtain ⟨o3, hyp⟩ := hyp
  obtain ⟨ht, hf⟩ := hyp
  refine ex_if_eq 21 8 dX10_two_5 (by decide) rfl o3 (fun c17 => ?_) (fun c17 => ?_)
  · have hyp := ht c17
    clear ht hf
    refine ex_bipush 23 dX10_two_21 rfl ⟨by decide, by decide⟩ ?_
    exact ex_iret dX10_two_23 (Or.inl rfl) ⟨_, rfl, _, rfl, hyp⟩
  · have hyp := hf c17
    clear ht hf
    refine ex_aload_n 9 dX10_two_8 rfl rfl ?_
    refine ex_iload_n 10 dX10_two_9 rfl rfl ?_
    refine s_callVi [vi x2] 13 dX10_two_10 rfl cvX10_178 rfl rfl ⟨Nat.le_of_ble_eq_true rfl, Nat.le_of_ble_eq_true rfl⟩ (Nat.le_of_ble_eq_true rfl) ⟨_, rfl⟩ hyp (fun y5 h1 hq => ?_)
    obtain ⟨m4, rfl, hyp⟩ := hq
    obtain ⟨o6, hyp⟩ := hyp
    obtain ⟨ht, hf⟩ := hyp
    refine ex_if_eq 21 16 dX10_two_13 (by decide) rfl o6 (fun c16 => ?_) (fun c16 => ?_)
    · have hyp := ht c16
      clear ht hf
      refine ex_bipush 23 dX10_two_21 rfl ⟨by decide, by decide⟩ ?_
      exact ex_iret dX10_two_23 (Or.inl rfl) ⟨_, rfl, _, rfl, hyp⟩
    · have hyp := hf c16
      clear ht hf
      refine ex_iload_n 17 dX10_two_16 rfl rfl ?_
      refine ex_iload_n 18 dX10_two_17 rfl rfl ?_
      obtain ⟨o7, hyp⟩ := hyp
      obtain ⟨o8, hyp⟩ := hyp
      obtain ⟨ht, hf⟩ := hyp
      refine ex_icmp_ne 24 21 dX10_two_18 (by decide) rfl o7 o8 (fun c15 => ?_) (fun c15 => ?_)
      · have hyp := ht c15
        clear ht hf
        refine ex_iload_n 25 dX10_two_24 rfl rfl ?_
        refine ex_iconst 26 dX10_two_25 rfl ?_
        refine ex_iconst 27 dX10_two_26 rfl ?_
        refine s_callSi [vi x3, vi 0, vi 4] 30 dX10_two_27 rfl cvX10_76 rfl rfl ⟨Nat.le_of_ble_eq_true rfl, Nat.le_of_ble_eq_true rfl⟩ (Nat.le_of_ble_eq_true rfl) hyp (fun y10 h1 hq => ?_)
        obtain ⟨m9, rfl, hyp⟩ := hq
        obtain ⟨o11, hyp⟩ := hyp
        obtain ⟨ht, hf⟩ := hyp
        refine ex_if_eq 43 33 dX10_two_30 (by decide) rfl o11 (fun c14 => ?_) (fun c14 => ?_)
        · have hyp := ht c14
          clear ht hf
          refine ex_bipush 45 dX10_two_43 rfl ⟨by decide, by decide⟩ ?_
          exact ex_iret dX10_two_45 (Or.inl rfl) ⟨_, rfl, _, rfl, hyp⟩
        · have hyp := hf c14
          clear ht hf
          refine ex_aload_n 34 dX10_two_33 rfl rfl ?_
          refine ex_iload_n 35 dX10_two_34 rfl rfl ?_
          refine ex_iload_n 36 dX10_two_35 rfl rfl ?_
          refine ex_iload_n 37 dX10_two_36 rfl rfl ?_
          refine s_callVi [vi x1, vi x2, vi x3] 40 dX10_two_37 rfl cvX10_181 rfl rfl ⟨Nat.le_of_ble_eq_true rfl, Nat.le_of_ble_eq_true rfl⟩ (Nat.le_of_ble_eq_true rfl) ⟨_, rfl⟩ hyp (fun y13 h1 hq => ?_)
          obtain ⟨m12, rfl, hyp⟩ := hq
          refine ex_goto 45 dX10_two_40 (by decide) ?_
          exact ex_iret dX10_two_45 (Or.inl rfl) ⟨_, rfl, _, rfl, hyp⟩
      · have hyp := hf c15
        clear ht hf
        refine ex_bipush 23 dX10_two_21 rfl ⟨by decide, by decide⟩ ?_
        exact ex_iret dX10_two_23 (Or.inl rfl) ⟨_, rfl, _, rfl, hyp⟩
set_option maxRecDepth 4000 in
theorem uX10_fitsNow {P : Int → MS → Prop} (m0 : MS) (x1 : Int) (hyp : YYi mX10_fitsNow 4 [some (vr 0), some (vi x1), some (vi 0), some (vi 0)] [] m0 P) : MMi mX10_fitsNow [vr 0, vi x1] m0 P := by
  refine met_of_ex (by decide +kernel) (Nat.le_of_ble_eq_true rfl) ?_
  show EX mX10_fitsNow 0 [some (vr 0), some (vi x1), none, none] [] (hM m0) (0, 0) _
  refine ex_iconst 1 dX10_fitsNow_0 rfl ?_
  refine q_istore_n [some (vr 0), some (vi x1), some (vi 0), none] 2 dX10_fitsNow_1 rfl (Nat.le_of_ble_eq_true rfl) rfl rfl ?_
  refine ex_iconst 3 dX10_fitsNow_2 rfl ?_
  refine q_istore_n [some (vr 0), some (vi x1), some (vi 0), some (vi 0)] 4 dX10_fitsNow_3 rfl (Nat.le_of_ble_eq_true rfl) rfl rfl ?_
  exact hyp
set_option maxRecDepth 4000 in
theorem uX10_fitsNow_4 {P : Int → MS → Prop} (m0 : MS) (x1 : Int) (x2 : Int) (x3 : Int) (hyp : rng x3 ∧ rng (m0 0 2) ∧ (m0 0 2 ≤ x3 → (P x2 m0)) ∧ (x3 < m0 0 2 → (rng x1 ∧ (x3 = x1 → (YYi mX10_fitsNow 4 [some (vr 0), some (vi x1), some (vi (x2 + 0)), some (vi (x3 + 1))] [] m0 P)) ∧ (¬ x3 = x1 → (MMi mX10_isFit [vr 0, vi x1, vi x3] m0 (fun y5 m4 => rng y5 ∧ (y5 = 0 → (YYi mX10_fitsNow 4 [some (vr 0), some (vi x1), some (vi (x2 + 0)), some (vi (x3 + 1))] [] m4 P)) ∧ (¬ y5 = 0 → (YYi mX10_fitsNow 4 [some (vr 0), some (vi x1), some (vi (x2 + 1)), some (vi (x3 + 1))] [] m4 P)))))))) : YYi mX10_fitsNow 4 [some (vr 0), some (vi x1), some (vi x2), some (vi x3)] [] m0 P := by
  refine ex_iload_n 5 dX10_fitsNow_4 rfl rfl ?_
  refine ex_aload_n 6 dX10_fitsNow_5 rfl rfl ?_
  refine q_getI 10 2 9 dX10_fitsNow_6 rfl fiX10_118 (Or.inl rfl) ⟨_, rfl⟩ ?_
  obtain ⟨o1, hyp⟩ := hyp
  obtain ⟨o2, hyp⟩ := hyp
  obtain ⟨ht, hf⟩ := hyp
  refine ex_icmp_ge 40 12 dX10_fitsNow_9 (by decide) rfl o1 o2 (fun c9 => ?_) (fun c9 => ?_)
  · have hyp := ht c9
    clear ht hf
    refine ex_iload_n 41 dX10_fitsNow_40 rfl rfl ?_
    exact ex_iret dX10_fitsNow_41 (Or.inl rfl) ⟨_, rfl, _, rfl, hyp⟩
  · have hyp := hf c9
    clear ht hf
    refine ex_iload_n 13 dX10_fitsNow_12 rfl rfl ?_
    refine ex_iload_n 14 dX10_fitsNow_13 rfl rfl ?_
    refine ex_iload_n 15 dX10_fitsNow_14 rfl rfl ?_
    obtain ⟨o3, hyp⟩ := hyp
    obtain ⟨ht, hf⟩ := hyp
    refine ex_icmp_eq 31 18 dX10_fitsNow_15 (by decide) rfl o1 o3 (fun c8 => ?_) (fun c8 => ?_)
    · have hyp := ht c8
      clear ht hf
      refine ex_iconst 32 dX10_fitsNow_31 rfl ?_
      refine ex_iadd 33 dX10_fitsNow_32 rfl ?_
      refine q_istore_n [some (vr 0), some (vi x1), some (vi (x2 + 0)), some (vi x3)] 34 dX10_fitsNow_33 rfl (Nat.le_of_ble_eq_true rfl) rfl rfl ?_
      refine q_iinc [some (vr 0), some (vi x1), some (vi (x2 + 0)), some (vi (x3 + 1))] 37 dX10_fitsNow_34 rfl rfl (Nat.le_of_ble_eq_true rfl) rfl rfl ?_
      refine ex_goto 4 dX10_fitsNow_37 (by decide) ?_
      exact hyp
    · have hyp := hf c8
      clear ht hf
      refine ex_aload_n 19 dX10_fitsNow_18 rfl rfl ?_
      refine ex_iload_n 20 dX10_fitsNow_19 rfl rfl ?_
      refine ex_iload_n 21 dX10_fitsNow_20 rfl rfl ?_
      refine s_callVi [vi x1, vi x3] 24 dX10_fitsNow_21 rfl cvX10_172 rfl rfl ⟨Nat.le_of_ble_eq_true rfl, Nat.le_of_ble_eq_true rfl⟩ (Nat.le_of_ble_eq_true rfl) ⟨_, rfl⟩ hyp (fun y5 h1 hq => ?_)
      obtain ⟨m4, rfl, hyp⟩ := hq
      obtain ⟨o6, hyp⟩ := hyp
      obtain ⟨ht, hf⟩ := hyp
      refine ex_if_eq 31 27 dX10_fitsNow_24 (by decide) rfl o6 (fun c7 => ?_) (fun c7 => ?_)
      · have hyp := ht c7
        clear ht hf
        refine ex_iconst 32 dX10_fitsNow_31 rfl ?_
        refine ex_iadd 33 dX10_fitsNow_32 rfl ?_
        refine q_istore_n [some (vr 0), some (vi x1), some (vi (x2 + 0)), some (vi x3)] 34 dX10_fitsNow_33 rfl (Nat.le_of_ble_eq_true rfl) rfl rfl ?_
        refine q_iinc [some (vr 0), some (vi x1), some (vi (x2 + 0)), some (vi (x3 + 1))] 37 dX10_fitsNow_34 rfl rfl (Nat.le_of_ble_eq_true rfl) rfl rfl ?_
        refine ex_goto 4 dX10_fitsNow_37 (by decide) ?_
        exact hyp
      · have hyp := hf c7
        clear ht hf
        refine ex_iconst 28 dX10_fitsNow_27 rfl ?_
        refine ex_goto 32 dX10_fitsNow_28 (by decide) ?_
        refine ex_iadd 33 dX10_fitsNow_32 rfl ?_
        refine q_istore_n [some (vr 0), some (vi x1), some (vi (x2 + 1)), some (vi x3)] 34 dX10_fitsNow_33 rfl (Nat.le_of_ble_eq_true rfl) rfl rfl ?_
        refine q_iinc [some (vr 0), some (vi x1), some (vi (x2 + 1)), some (vi (x3 + 1))] 37 dX10_fitsNow_34 rfl rfl (Nat.le_of_ble_eq_true rfl) rfl rfl ?_
        refine ex_goto 4 dX10_fitsNow_37 (by decide) ?_
        exact hyp
set_option maxRecDepth 4000 in
theorem uX10_fits {P : Int → MS → Prop} (m0 : MS) (x1 : Int) (hyp : MMi mX10_isEntry [vr 0, vi x1] m0 (fun y2 m1 => rng y2 ∧ (y2 = 0 → (P (-101) m1)) ∧ (¬ y2 = 0 → (MMi mX10_fitsNow [vr 0, vi x1] m1 (fun y5 m4 => P y5 m4))))) : MMi mX10_fits [vr 0, vi x1] m0 P := by
  refine met_of_ex (by decide +kernel) (Nat.le_of_ble_eq_true rfl) ?_
  show EX mX10_fits 0 [some (vr 0), some (vi x1)] [] (hM m0) (0, 0) _
  refine ex_aload_n 1 dX10_fits_0 rfl rfl ?_
  refine ex_iload_n 2 dX10_fits_1 rfl rfl ?_
  refine s_callVi [vi x1] 5 dX10_fits_2 rfl cvX10_178 rfl rfl ⟨Nat.le_of_ble_eq_true rfl, Nat.le_of_ble_eq_true rfl⟩ (Nat.le_of_ble_eq_true rfl) ⟨_, rfl⟩ hyp (fun y2 h1 hq => ?_)
  obtain ⟨m1, rfl, hyp⟩ := hq
  obtain ⟨o3, hyp⟩ := hyp
  obtain ⟨ht, hf⟩ := hyp
  refine ex_if_eq 16 8 dX10_fits_5 (by decide) rfl o3 (fun c6 => ?_) (fun c6 => ?_)
  · have hyp := ht c6
    clear ht hf
    refine ex_bipush 18 dX10_fits_16 rfl ⟨by decide, by decide⟩ ?_
    exact ex_iret dX10_fits_18 (Or.inl rfl) ⟨_, rfl, _, rfl, hyp⟩
  · have hyp := hf c6
    clear ht hf
    refine ex_aload_n 9 dX10_fits_8 rfl rfl ?_
    refine ex_iload_n 10 dX10_fits_9 rfl rfl ?_
    refine s_callVi [vi x1] 13 dX10_fits_10 rfl cvX10_185 rfl rfl ⟨Nat.le_of_ble_eq_true rfl, Nat.le_of_ble_eq_true rfl⟩ (Nat.le_of_ble_eq_true rfl) ⟨_, rfl⟩ hyp (fun y5 h1 hq => ?_)
    obtain ⟨m4, rfl, hyp⟩ := hq
    refine ex_goto 18 dX10_fits_13 (by decide) ?_
    exact ex_iret dX10_fits_18 (Or.inl rfl) ⟨_, rfl, _, rfl, hyp⟩
set_option maxRecDepth 4000 in
theorem uX10_nearestNow {P : Int → MS → Prop} (m0 : MS) (x1 : Int) (hyp : YYi mX10_nearestNow 4 [some (vr 0), some (vi x1), some (vi (-1)), some (vi 0), none] [] m0 P) : MMi mX10_nearestNow [vr 0, vi x1] m0 P := by
  refine met_of_ex (by decide +kernel) (Nat.le_of_ble_eq_true rfl) ?_
  show EX mX10_nearestNow 0 [some (vr 0), some (vi x1), none, none, none] [] (hM m0) (0, 0) _
  refine ex_iconst 1 dX10_nearestNow_0 rfl ?_
  refine q_istore_n [some (vr 0), some (vi x1), some (vi (-1)), none, none] 2 dX10_nearestNow_1 rfl (Nat.le_of_ble_eq_true rfl) rfl rfl ?_
  refine ex_iconst 3 dX10_nearestNow_2 rfl ?_
  refine q_istore_n [some (vr 0), some (vi x1), some (vi (-1)), some (vi 0), none] 4 dX10_nearestNow_3 rfl (Nat.le_of_ble_eq_true rfl) rfl rfl ?_
  exact hyp
set_option maxRecDepth 4000 in
theorem uX10_nearestNow_4 {P : Int → MS → Prop} (m0 : MS) (x1 : Int) (x2 : Int) (x3 : Int) (hyp : rng x3 ∧ rng (m0 0 2) ∧ (m0 0 2 ≤ x3 → (P x2 m0)) ∧ (x3 < m0 0 2 → (rng x1 ∧ (x3 = x1 → (YYi mX10_nearestNow 4 [some (vr 0), some (vi x1), some (vi x2), some (vi (x3 + 1)), none] [] m0 P)) ∧ (¬ x3 = x1 → (MMi mX10_isFit [vr 0, vi x1, vi x3] m0 (fun y5 m4 => rng y5 ∧ (y5 = 0 → (YYi mX10_nearestNow 4 [some (vr 0), some (vi x1), some (vi x2), some (vi (x3 + 1)), none] [] m4 P)) ∧ (¬ y5 = 0 → (rng x2 ∧ (x2 = (-1) → (YYi mX10_nearestNow 4 [some (vr 0), some (vi x1), some (vi x3), some (vi (x3 + 1)), none] [] m4 P)) ∧ (¬ x2 = (-1) → (MMi mX10_worthOf [vr 0, vi x1, vi x3] m4 (fun y9 m8 => MMi mX10_worthOf [vr 0, vi x1, vi x2] m8 (fun y11 m10 => rng y9 ∧ rng y11 ∧ (y9 ≤ y11 → (YYi mX10_nearestNow 4 [some (vr 0), some (vi x1), some (vi x2), some (vi (x3 + 1)), none] [] m10 P)) ∧ (y11 < y9 → (YYi mX10_nearestNow 4 [some (vr 0), some (vi x1), some (vi x3), some (vi (x3 + 1)), none] [] m10 P)))))))))))))) : YYi mX10_nearestNow 4 [some (vr 0), some (vi x1), some (vi x2), some (vi x3), none] [] m0 P := by
  refine ex_iload_n 5 dX10_nearestNow_4 rfl rfl ?_
  refine ex_aload_n 6 dX10_nearestNow_5 rfl rfl ?_
  refine q_getI 10 2 9 dX10_nearestNow_6 rfl fiX10_118 (Or.inl rfl) ⟨_, rfl⟩ ?_
  obtain ⟨o1, hyp⟩ := hyp
  obtain ⟨o2, hyp⟩ := hyp
  obtain ⟨ht, hf⟩ := hyp
  refine ex_icmp_ge 70 12 dX10_nearestNow_9 (by decide) rfl o1 o2 (fun c18 => ?_) (fun c18 => ?_)
  · have hyp := ht c18
    clear ht hf
    refine ex_iload_n 71 dX10_nearestNow_70 rfl rfl ?_
    exact ex_iret dX10_nearestNow_71 (Or.inl rfl) ⟨_, rfl, _, rfl, hyp⟩
  · have hyp := hf c18
    clear ht hf
    refine ex_iload_n 13 dX10_nearestNow_12 rfl rfl ?_
    refine ex_iload_n 14 dX10_nearestNow_13 rfl rfl ?_
    obtain ⟨o3, hyp⟩ := hyp
    obtain ⟨ht, hf⟩ := hyp
    refine ex_icmp_eq 50 17 dX10_nearestNow_14 (by decide) rfl o1 o3 (fun c17 => ?_) (fun c17 => ?_)
    · have hyp := ht c17
      clear ht hf
      refine ex_iconst 51 dX10_nearestNow_50 rfl ?_
      refine q_istore [some (vr 0), some (vi x1), some (vi x2), some (vi x3), some (vi 0)] 53 dX10_nearestNow_51 rfl (Nat.le_of_ble_eq_true rfl) rfl rfl ?_
      refine ex_iload 55 dX10_nearestNow_53 rfl rfl ?_
      refine ex_if_eq 62 58 dX10_nearestNow_55 (by decide) rfl ⟨by decide, by decide⟩ (fun _ => ?_) (fun c => absurd c (by decide))
      refine ex_iload_n 63 dX10_nearestNow_62 rfl rfl ?_
      refine q_istore_n [some (vr 0), some (vi x1), some (vi x2), some (vi x3), some (vi 0)] 64 dX10_nearestNow_63 rfl (Nat.le_of_ble_eq_true rfl) rfl rfl ?_
      refine q_iinc [some (vr 0), some (vi x1), some (vi x2), some (vi (x3 + 1)), some (vi 0)] 67 dX10_nearestNow_64 rfl rfl (Nat.le_of_ble_eq_true rfl) rfl rfl ?_
      refine ex_goto 4 dX10_nearestNow_67 (by decide) ?_
      refine ex_dropL (ls' := [some (vr 0), some (vi x1), some (vi x2), some (vi (x3 + 1)), none]) 4 rfl ?_
      exact hyp
    · have hyp := hf c17
      clear ht hf
      refine ex_aload_n 18 dX10_nearestNow_17 rfl rfl ?_
      refine ex_iload_n 19 dX10_nearestNow_18 rfl rfl ?_
      refine ex_iload_n 20 dX10_nearestNow_19 rfl rfl ?_
      refine s_callVi [vi x1, vi x3] 23 dX10_nearestNow_20 rfl cvX10_172 rfl rfl ⟨Nat.le_of_ble_eq_true rfl, Nat.le_of_ble_eq_true rfl⟩ (Nat.le_of_ble_eq_true rfl) ⟨_, rfl⟩ hyp (fun y5 h1 hq => ?_)
      obtain ⟨m4, rfl, hyp⟩ := hq
      obtain ⟨o6, hyp⟩ := hyp
      obtain ⟨ht, hf⟩ := hyp
      refine ex_if_eq 50 26 dX10_nearestNow_23 (by decide) rfl o6 (fun c16 => ?_) (fun c16 => ?_)
      · have hyp := ht c16
        clear ht hf
        refine ex_iconst 51 dX10_nearestNow_50 rfl ?_
        refine q_istore [some (vr 0), some (vi x1), some (vi x2), some (vi x3), some (vi 0)] 53 dX10_nearestNow_51 rfl (Nat.le_of_ble_eq_true rfl) rfl rfl ?_
        refine ex_iload 55 dX10_nearestNow_53 rfl rfl ?_
        refine ex_if_eq 62 58 dX10_nearestNow_55 (by decide) rfl ⟨by decide, by decide⟩ (fun _ => ?_) (fun c => absurd c (by decide))
        refine ex_iload_n 63 dX10_nearestNow_62 rfl rfl ?_
        refine q_istore_n [some (vr 0), some (vi x1), some (vi x2), some (vi x3), some (vi 0)] 64 dX10_nearestNow_63 rfl (Nat.le_of_ble_eq_true rfl) rfl rfl ?_
        refine q_iinc [some (vr 0), some (vi x1), some (vi x2), some (vi (x3 + 1)), some (vi 0)] 67 dX10_nearestNow_64 rfl rfl (Nat.le_of_ble_eq_true rfl) rfl rfl ?_
        refine ex_goto 4 dX10_nearestNow_67 (by decide) ?_
        refine ex_dropL (ls' := [some (vr 0), some (vi x1), some (vi x2), some (vi (x3 + 1)), none]) 4 rfl ?_
        exact hyp
      · have hyp := hf c16
        clear ht hf
        refine ex_iload_n 27 dX10_nearestNow_26 rfl rfl ?_
        refine ex_iconst 28 dX10_nearestNow_27 rfl ?_
        obtain ⟨o7, hyp⟩ := hyp
        obtain ⟨ht, hf⟩ := hyp
        refine ex_icmp_eq 46 31 dX10_nearestNow_28 (by decide) rfl o7 ⟨by decide, by decide⟩ (fun c15 => ?_) (fun c15 => ?_)
        · have hyp := ht c15
          clear ht hf
          refine ex_iconst 47 dX10_nearestNow_46 rfl ?_
          refine ex_goto 51 dX10_nearestNow_47 (by decide) ?_
          refine q_istore [some (vr 0), some (vi x1), some (vi x2), some (vi x3), some (vi 1)] 53 dX10_nearestNow_51 rfl (Nat.le_of_ble_eq_true rfl) rfl rfl ?_
          refine ex_iload 55 dX10_nearestNow_53 rfl rfl ?_
          refine ex_if_eq 62 58 dX10_nearestNow_55 (by decide) rfl ⟨by decide, by decide⟩ (fun c => absurd c (by decide)) (fun _ => ?_)
          refine ex_iload_n 59 dX10_nearestNow_58 rfl rfl ?_
          refine ex_goto 63 dX10_nearestNow_59 (by decide) ?_
          refine q_istore_n [some (vr 0), some (vi x1), some (vi x3), some (vi x3), some (vi 1)] 64 dX10_nearestNow_63 rfl (Nat.le_of_ble_eq_true rfl) rfl rfl ?_
          refine q_iinc [some (vr 0), some (vi x1), some (vi x3), some (vi (x3 + 1)), some (vi 1)] 67 dX10_nearestNow_64 rfl rfl (Nat.le_of_ble_eq_true rfl) rfl rfl ?_
          refine ex_goto 4 dX10_nearestNow_67 (by decide) ?_
          refine ex_dropL (ls' := [some (vr 0), some (vi x1), some (vi x3), some (vi (x3 + 1)), none]) 4 rfl ?_
          exact hyp
        · have hyp := hf c15
          clear ht hf
          refine ex_aload_n 32 dX10_nearestNow_31 rfl rfl ?_
          refine ex_iload_n 33 dX10_nearestNow_32 rfl rfl ?_
          refine ex_iload_n 34 dX10_nearestNow_33 rfl rfl ?_
          refine s_callVi [vi x1, vi x3] 37 dX10_nearestNow_34 rfl cvX10_175 rfl rfl ⟨Nat.le_of_ble_eq_true rfl, Nat.le_of_ble_eq_true rfl⟩ (Nat.le_of_ble_eq_true rfl) ⟨_, rfl⟩ hyp (fun y9 h1 hq => ?_)
          obtain ⟨m8, rfl, hyp⟩ := hq
          refine ex_aload_n 38 dX10_nearestNow_37 rfl rfl ?_
          refine ex_iload_n 39 dX10_nearestNow_38 rfl rfl ?_
          refine ex_iload_n 40 dX10_nearestNow_39 rfl rfl ?_
          refine s_callVi [vi x1, vi x2] 43 dX10_nearestNow_40 rfl cvX10_175 rfl rfl ⟨Nat.le_of_ble_eq_true rfl, Nat.le_of_ble_eq_true rfl⟩ (Nat.le_of_ble_eq_true rfl) ⟨_, rfl⟩ hyp (fun y11 h1 hq => ?_)
          obtain ⟨m10, rfl, hyp⟩ := hq
          obtain ⟨o12, hyp⟩ := hyp
          obtain ⟨o13, hyp⟩ := hyp
          obtain ⟨ht, hf⟩ := hyp
          refine ex_icmp_le 50 46 dX10_nearestNow_43 (by decide) rfl o12 o13 (fun c14 => ?_) (fun c14 => ?_)
          · have hyp := ht c14
            clear ht hf
            refine ex_iconst 51 dX10_nearestNow_50 rfl ?_
            refine q_istore [some (vr 0), some (vi x1), some (vi x2), some (vi x3), some (vi 0)] 53 dX10_nearestNow_51 rfl (Nat.le_of_ble_eq_true rfl) rfl rfl ?_
            refine ex_iload 55 dX10_nearestNow_53 rfl rfl ?_
            refine ex_if_eq 62 58 dX10_nearestNow_55 (by decide) rfl ⟨by decide, by decide⟩ (fun _ => ?_) (fun c => absurd c (by decide))
            refine ex_iload_n 63 dX10_nearestNow_62 rfl rfl ?_
            refine q_istore_n [some (vr 0), some (vi x1), some (vi x2), some (vi x3), some (vi 0)] 64 dX10_nearestNow_63 rfl (Nat.le_of_ble_eq_true rfl) rfl rfl ?_
            refine q_iinc [some (vr 0), some (vi x1), some (vi x2), some (vi (x3 + 1)), some (vi 0)] 67 dX10_nearestNow_64 rfl rfl (Nat.le_of_ble_eq_true rfl) rfl rfl ?_
            refine ex_goto 4 dX10_nearestNow_67 (by decide) ?_
            refine ex_dropL (ls' := [some (vr 0), some (vi x1), some (vi x2), some (vi (x3 + 1)), none]) 4 rfl ?_
            exact hyp
          · have hyp := hf c14
            clear ht hf
            refine ex_iconst 47 dX10_nearestNow_46 rfl ?_
            refine ex_goto 51 dX10_nearestNow_47 (by decide) ?_
            refine q_istore [some (vr 0), some (vi x1), some (vi x2), some (vi x3), some (vi 1)] 53 dX10_nearestNow_51 rfl (Nat.le_of_ble_eq_true rfl) rfl rfl ?_
            refine ex_iload 55 dX10_nearestNow_53 rfl rfl ?_
            refine ex_if_eq 62 58 dX10_nearestNow_55 (by decide) rfl ⟨by decide, by decide⟩ (fun c => absurd c (by decide)) (fun _ => ?_)
            refine ex_iload_n 59 dX10_nearestNow_58 rfl rfl ?_
            refine ex_goto 63 dX10_nearestNow_59 (by decide) ?_
            refine q_istore_n [some (vr 0), some (vi x1), some (vi x3), some (vi x3), some (vi 1)] 64 dX10_nearestNow_63 rfl (Nat.le_of_ble_eq_true rfl) rfl rfl ?_
            refine q_iinc [some (vr 0), some (vi x1), some (vi x3), some (vi (x3 + 1)), some (vi 1)] 67 dX10_nearestNow_64 rfl rfl (Nat.le_of_ble_eq_true rfl) rfl rfl ?_
            refine ex_goto 4 dX10_nearestNow_67 (by decide) ?_
            refine ex_dropL (ls' := [some (vr 0), some (vi x1), some (vi x3), some (vi (x3 + 1)), none]) 4 rfl ?_
            exact hyp
set_option maxRecDepth 4000 in
theorem uX10_nearest {P : Int → MS → Prop} (m0 : MS) (x1 : Int) (hyp : MMi mX10_isEntry [vr 0, vi x1] m0 (fun y2 m1 => rng y2 ∧ (y2 = 0 → (P (-101) m1)) ∧ (¬ y2 = 0 → (MMi mX10_nearestNow [vr 0, vi x1] m1 (fun y5 m4 => P y5 m4))))) : MMi mX10_nearest [vr 0, vi x1] m0 P := by
  refine met_of_ex (by decide +kernel) (Nat.le_of_ble_eq_true rfl) ?_
  show EX mX10_nearest 0 [some (vr 0), some (vi x1)] [] (hM m0) (0, 0) _
  refine ex_aload_n 1 dX10_nearest_0 rfl rfl ?_
  refine ex_iload_n 2 dX10_nearest_1 rfl rfl ?_
  refine s_callVi [vi x1] 5 dX10_nearest_2 rfl cvX10_178 rfl rfl ⟨Nat.le_of_ble_eq_true rfl, Nat.le_of_ble_eq_true rfl⟩ (Nat.le_of_ble_eq_true rfl) ⟨_, rfl⟩ hyp (fun y2 h1 hq => ?_)
  obtain ⟨m1, rfl, hyp⟩ := hq
  obtain ⟨o3, hyp⟩ := hyp
  obtain ⟨ht, hf⟩ := hyp
  refine ex_if_eq 16 8 dX10_nearest_5 (by decide) rfl o3 (fun c6 => ?_) (fun c6 => ?_)
  · have hyp := ht c6
    clear ht hf
    refine ex_bipush 18 dX10_nearest_16 rfl ⟨by decide, by decide⟩ ?_
    exact ex_iret dX10_nearest_18 (Or.inl rfl) ⟨_, rfl, _, rfl, hyp⟩
  · have hyp := hf c6
    clear ht hf
    refine ex_aload_n 9 dX10_nearest_8 rfl rfl ?_
    refine ex_iload_n 10 dX10_nearest_9 rfl rfl ?_
    refine s_callVi [vi x1] 13 dX10_nearest_10 rfl cvX10_188 rfl rfl ⟨Nat.le_of_ble_eq_true rfl, Nat.le_of_ble_eq_true rfl⟩ (Nat.le_of_ble_eq_true rfl) ⟨_, rfl⟩ hyp (fun y5 h1 hq => ?_)
    obtain ⟨m4, rfl, hyp⟩ := hq
    refine ex_goto 18 dX10_nearest_13 (by decide) ?_
    exact ex_iret dX10_nearest_18 (Or.inl rfl) ⟨_, rfl, _, rfl, hyp⟩
set_option maxRecDepth 4000 in
theorem uX10_listKinds {P : MS → Prop} (m0 : MS)  (hyp : ∀ m2 : MS, m2 = mI m0 0 20 0 → (∀ m5 : MS, m5 = mI m2 0 21 0 → (YYv mX10_listKinds 12 [some (vr 0), some (vi 0)] [] m5 P))) : MMv mX10_listKinds [vr 0] m0 P := by
  refine met_of_ex (by decide +kernel) (Nat.le_of_ble_eq_true rfl) ?_
  show EX mX10_listKinds 0 [some (vr 0), none] [] (hM m0) (0, 0) _
  refine ex_aload_n 1 dX10_listKinds_0 rfl rfl ?_
  refine ex_iconst 2 dX10_listKinds_1 rfl ?_
  refine q_putI 10 20 5 dX10_listKinds_2 rfl fiX10_191 ff10_20 rfl ⟨_, rfl⟩ (fun h1 e1 => ?_)
  obtain ⟨m2, eg3⟩ : ∃ z : MS, z = mI m0 0 20 0 := ⟨_, rfl⟩
  have hyp := hyp m2 eg3
  obtain rfl : h1 = hM m2 := by rw [e1, eg3]; exact rfl
  clear e1
  refine ex_aload_n 6 dX10_listKinds_5 rfl rfl ?_
  refine ex_iconst 7 dX10_listKinds_6 rfl ?_
  refine q_putI 10 21 10 dX10_listKinds_7 rfl fiX10_194 ff10_21 rfl ⟨_, rfl⟩ (fun h1 e4 => ?_)
  obtain ⟨m5, eg6⟩ : ∃ z : MS, z = mI m2 0 21 0 := ⟨_, rfl⟩
  have hyp := hyp m5 eg6
  obtain rfl : h1 = hM m5 := by rw [e4, eg6]; exact rfl
  clear e4
  refine ex_iconst 11 dX10_listKinds_10 rfl ?_
  refine q_istore_n [some (vr 0), some (vi 0)] 12 dX10_listKinds_11 rfl (Nat.le_of_ble_eq_true rfl) rfl rfl ?_
  exact hyp
set_option maxRecDepth 4000 in
theorem uX10_listKinds_12 {P : MS → Prop} (m0 : MS) (x1 : Int) (hyp : rng x1 ∧ rng (m0 0 2) ∧ (m0 0 2 ≤ x1 → (P m0)) ∧ (x1 < m0 0 2 → (0 ≤ x1 ∧ x1 < 18 ∧ rng (m0 2 (x1).toNat) ∧ (¬ m0 2 (x1).toNat = 0 → ((¬ m0 2 (x1).toNat = 2 → (YYv mX10_listKinds 12 [some (vr 0), some (vi (x1 + 1))] [] m0 P)) ∧ (m0 2 (x1).toNat = 2 → (0 ≤ m0 0 21 ∧ m0 0 21 < 7 ∧ ∀ m9 : MS, m9 = mI m0 16 (m0 0 21).toNat x1 → (∀ m12 : MS, m12 = mI m9 0 21 ((m9 0 21) + 1) → (YYv mX10_listKinds 12 [some (vr 0), some (vi (x1 + 1))] [] m12 P)))))) ∧ (m0 2 (x1).toNat = 0 → (0 ≤ m0 0 20 ∧ m0 0 20 < 7 ∧ ∀ m18 : MS, m18 = mI m0 15 (m0 0 20).toNat x1 → (∀ m21 : MS, m21 = mI m18 0 20 ((m18 0 20) + 1) → (YYv mX10_listKinds 12 [some (vr 0), some (vi (x1 + 1))] [] m21 P))))))) : YYv mX10_listKinds 12 [some (vr 0), some (vi x1)] [] m0 P := by
  refine ex_iload_n 13 dX10_listKinds_12 rfl rfl ?_
  refine ex_aload_n 14 dX10_listKinds_13 rfl rfl ?_
  refine q_getI 10 2 17 dX10_listKinds_14 rfl fiX10_118 (Or.inl rfl) ⟨_, rfl⟩ ?_
  obtain ⟨o1, hyp⟩ := hyp
  obtain ⟨o2, hyp⟩ := hyp
  obtain ⟨ht, hf⟩ := hyp
  refine ex_icmp_ge 88 20 dX10_listKinds_17 (by decide) rfl o1 o2 (fun c24 => ?_) (fun c24 => ?_)
  · have hyp := ht c24
    clear ht hf
    exact ex_vret dX10_listKinds_88 rfl ⟨rfl, _, rfl, hyp⟩
  · have hyp := hf c24
    clear ht hf
    refine ex_aload_n 21 dX10_listKinds_20 rfl rfl ?_
    refine q_getR (a := 2) 10 3 24 dX10_listKinds_21 rfl fiX10_13 rfl ⟨_, rfl⟩ rfl ?_
    refine ex_iload_n 25 dX10_listKinds_24 rfl rfl ?_
    obtain ⟨o3, hyp⟩ := hyp
    obtain ⟨o4, hyp⟩ := hyp
    refine ex_iald 26 dX10_listKinds_25 rfl (ai_of (n := 18) rfl o3 o4 (by decide)) ?_
    obtain ⟨o5, hyp⟩ := hyp
    obtain ⟨ht, hf⟩ := hyp
    refine ex_if_ne 52 29 dX10_listKinds_26 (by decide) rfl o5 (fun c23 => ?_) (fun c23 => ?_)
    · have hyp := ht c23
      clear ht hf
      refine ex_aload_n 53 dX10_listKinds_52 rfl rfl ?_
      refine q_getR (a := 2) 10 3 56 dX10_listKinds_53 rfl fiX10_13 rfl ⟨_, rfl⟩ rfl ?_
      refine ex_iload_n 57 dX10_listKinds_56 rfl rfl ?_
      refine ex_iald 58 dX10_listKinds_57 rfl (ai_of (n := 18) rfl o3 o4 (by decide)) ?_
      refine ex_iconst 59 dX10_listKinds_58 rfl ?_
      obtain ⟨ht, hf⟩ := hyp
      refine ex_icmp_ne 82 62 dX10_listKinds_59 (by decide) rfl o5 ⟨by decide, by decide⟩ (fun c14 => ?_) (fun c14 => ?_)
      · have hyp := ht c14
        clear ht hf
        refine q_iinc [some (vr 0), some (vi (x1 + 1))] 85 dX10_listKinds_82 rfl rfl (Nat.le_of_ble_eq_true rfl) rfl rfl ?_
        refine ex_goto 12 dX10_listKinds_85 (by decide) ?_
        exact hyp
      · have hyp := hf c14
        clear ht hf
        refine ex_aload_n 63 dX10_listKinds_62 rfl rfl ?_
        refine q_getR (a := 16) 10 23 66 dX10_listKinds_63 rfl fiX10_55 rfl ⟨_, rfl⟩ rfl ?_
        refine ex_aload_n 67 dX10_listKinds_66 rfl rfl ?_
        refine q_getI 10 21 70 dX10_listKinds_67 rfl fiX10_194 (Or.inl rfl) ⟨_, rfl⟩ ?_
        refine ex_iload_n 71 dX10_listKinds_70 rfl rfl ?_
        obtain ⟨o6, hyp⟩ := hyp
        obtain ⟨o7, hyp⟩ := hyp
        refine ex_iast 72 dX10_listKinds_71 rfl (ai_of (n := 7) rfl o6 o7 (by decide)) (fun h1 e8 => ?_)
        obtain ⟨m9, eg10⟩ : ∃ z : MS, z = mI m0 16 (m0 0 21).toNat x1 := ⟨_, rfl⟩
        have hyp := hyp m9 eg10
        obtain rfl : h1 = hM m9 := by rw [e8, eg10]; exact rfl
        clear e8
        refine ex_aload_n 73 dX10_listKinds_72 rfl rfl ?_
        refine ex_dup 74 dX10_listKinds_73 rfl rfl ?_
        refine q_getI 10 21 77 dX10_listKinds_74 rfl fiX10_194 (Or.inl rfl) ⟨_, rfl⟩ ?_
        refine ex_iconst 78 dX10_listKinds_77 rfl ?_
        refine ex_iadd 79 dX10_listKinds_78 rfl ?_
        refine q_putI 10 21 82 dX10_listKinds_79 rfl fiX10_194 ff10_21 rfl ⟨_, rfl⟩ (fun h1 e11 => ?_)
        obtain ⟨m12, eg13⟩ : ∃ z : MS, z = mI m9 0 21 ((m9 0 21) + 1) := ⟨_, rfl⟩
        have hyp := hyp m12 eg13
        obtain rfl : h1 = hM m12 := by rw [e11, eg13]; exact rfl
        clear e11
        refine q_iinc [some (vr 0), some (vi (x1 + 1))] 85 dX10_listKinds_82 rfl rfl (Nat.le_of_ble_eq_true rfl) rfl rfl ?_
        refine ex_goto 12 dX10_listKinds_85 (by decide) ?_
        exact hyp
    · have hyp := hf c23
      clear ht hf
      refine ex_aload_n 30 dX10_listKinds_29 rfl rfl ?_
      refine q_getR (a := 15) 10 22 33 dX10_listKinds_30 rfl fiX10_52 rfl ⟨_, rfl⟩ rfl ?_
      refine ex_aload_n 34 dX10_listKinds_33 rfl rfl ?_
      refine q_getI 10 20 37 dX10_listKinds_34 rfl fiX10_191 (Or.inl rfl) ⟨_, rfl⟩ ?_
      refine ex_iload_n 38 dX10_listKinds_37 rfl rfl ?_
      obtain ⟨o15, hyp⟩ := hyp
      obtain ⟨o16, hyp⟩ := hyp
      refine ex_iast 39 dX10_listKinds_38 rfl (ai_of (n := 7) rfl o15 o16 (by decide)) (fun h1 e17 => ?_)
      obtain ⟨m18, eg19⟩ : ∃ z : MS, z = mI m0 15 (m0 0 20).toNat x1 := ⟨_, rfl⟩
      have hyp := hyp m18 eg19
      obtain rfl : h1 = hM m18 := by rw [e17, eg19]; exact rfl
      clear e17
      refine ex_aload_n 40 dX10_listKinds_39 rfl rfl ?_
      refine ex_dup 41 dX10_listKinds_40 rfl rfl ?_
      refine q_getI 10 20 44 dX10_listKinds_41 rfl fiX10_191 (Or.inl rfl) ⟨_, rfl⟩ ?_
      refine ex_iconst 45 dX10_listKinds_44 rfl ?_
      refine ex_iadd 46 dX10_listKinds_45 rfl ?_
      refine q_putI 10 20 49 dX10_listKinds_46 rfl fiX10_191 ff10_20 rfl ⟨_, rfl⟩ (fun h1 e20 => ?_)
      obtain ⟨m21, eg22⟩ : ∃ z : MS, z = mI m18 0 20 ((m18 0 20) + 1) := ⟨_, rfl⟩
      have hyp := hyp m21 eg22
      obtain rfl : h1 = hM m21 := by rw [e20, eg22]; exact rfl
      clear e20
      refine ex_goto 82 dX10_listKinds_49 (by decide) ?_
      refine q_iinc [some (vr 0), some (vi (x1 + 1))] 85 dX10_listKinds_82 rfl rfl (Nat.le_of_ble_eq_true rfl) rfl rfl ?_
      refine ex_goto 12 dX10_listKinds_85 (by decide) ?_
      exact hyp
set_option maxRecDepth 4000 in
theorem uX10_bestWith {P : Int → MS → Prop} (m0 : MS) (x1 : Int) (x2 : Int) (x3 : Int) (hyp : rng (b_and (b_shr x3 x2) 1) ∧ (¬ b_and (b_shr x3 x2) 1 = 0 → (P (-1) m0)) ∧ (b_and (b_shr x3 x2) 1 = 0 → (0 ≤ x1 ∧ x1 < 7 ∧ 0 ≤ x2 ∧ x2 < 7 ∧ MMi mX10_isFit [vr 0, vi (m0 15 (x1).toNat), vi (m0 16 (x2).toNat)] m0 (fun y7 m6 => rng y7 ∧ (y7 = 0 → (P (-1) m6)) ∧ (¬ y7 = 0 → (MMi mX10_worthOf [vr 0, vi (m6 15 (x1).toNat), vi (m6 16 (x2).toNat)] m6 (fun y10 m9 => 0 ≤ (128 * (x1 + 1)) + (b_or x3 (b_shl 1 x2)) ∧ (128 * (x1 + 1)) + (b_or x3 (b_shl 1 x2)) < 1024 ∧ P (y10 + (m9 17 ((128 * (x1 + 1)) + (b_or x3 (b_shl 1 x2))).toNat)) m9))))))) : MMi mX10_bestWith [vr 0, vi x1, vi x2, vi x3] m0 P := by
  refine met_of_ex (by decide +kernel) (Nat.le_of_ble_eq_true rfl) ?_
  show EX mX10_bestWith 0 [some (vr 0), some (vi x1), some (vi x2), some (vi x3), none] [] (hM m0) (0, 0) _
  refine ex_iload_n 1 dX10_bestWith_0 rfl rfl ?_
  refine ex_iload_n 2 dX10_bestWith_1 rfl rfl ?_
  refine ex_ishr 3 dX10_bestWith_2 rfl ?_
  refine ex_iconst 4 dX10_bestWith_3 rfl ?_
  refine ex_iand 5 dX10_bestWith_4 rfl ?_
  obtain ⟨o1, hyp⟩ := hyp
  obtain ⟨ht, hf⟩ := hyp
  refine ex_if_ne 31 8 dX10_bestWith_5 (by decide) rfl o1 (fun c14 => ?_) (fun c14 => ?_)
  · have hyp := ht c14
    clear ht hf
    refine ex_iconst 32 dX10_bestWith_31 rfl ?_
    refine q_istore [some (vr 0), some (vi x1), some (vi x2), some (vi x3), some (vi 0)] 34 dX10_bestWith_32 rfl (Nat.le_of_ble_eq_true rfl) rfl rfl ?_
    refine ex_iload 36 dX10_bestWith_34 rfl rfl ?_
    refine ex_if_eq 77 39 dX10_bestWith_36 (by decide) rfl ⟨by decide, by decide⟩ (fun _ => ?_) (fun c => absurd c (by decide))
    refine ex_iconst 78 dX10_bestWith_77 rfl ?_
    exact ex_iret dX10_bestWith_78 (Or.inl rfl) ⟨_, rfl, _, rfl, hyp⟩
  · have hyp := hf c14
    clear ht hf
    refine ex_aload_n 9 dX10_bestWith_8 rfl rfl ?_
    refine ex_aload_n 10 dX10_bestWith_9 rfl rfl ?_
    refine q_getR (a := 15) 10 22 13 dX10_bestWith_10 rfl fiX10_52 rfl ⟨_, rfl⟩ rfl ?_
    refine ex_iload_n 14 dX10_bestWith_13 rfl rfl ?_
    obtain ⟨o2, hyp⟩ := hyp
    obtain ⟨o3, hyp⟩ := hyp
    refine ex_iald 15 dX10_bestWith_14 rfl (ai_of (n := 7) rfl o2 o3 (by decide)) ?_
    refine ex_aload_n 16 dX10_bestWith_15 rfl rfl ?_
    refine q_getR (a := 16) 10 23 19 dX10_bestWith_16 rfl fiX10_55 rfl ⟨_, rfl⟩ rfl ?_
    refine ex_iload_n 20 dX10_bestWith_19 rfl rfl ?_
    obtain ⟨o4, hyp⟩ := hyp
    obtain ⟨o5, hyp⟩ := hyp
    refine ex_iald 21 dX10_bestWith_20 rfl (ai_of (n := 7) rfl o4 o5 (by decide)) ?_
    refine s_callVi [vi (m0 15 (x1).toNat), vi (m0 16 (x2).toNat)] 24 dX10_bestWith_21 rfl cvX10_172 rfl rfl ⟨Nat.le_of_ble_eq_true rfl, Nat.le_of_ble_eq_true rfl⟩ (Nat.le_of_ble_eq_true rfl) ⟨_, rfl⟩ hyp (fun y7 h1 hq => ?_)
    obtain ⟨m6, rfl, hyp⟩ := hq
    obtain ⟨o8, hyp⟩ := hyp
    obtain ⟨ht, hf⟩ := hyp
    refine ex_if_eq 31 27 dX10_bestWith_24 (by decide) rfl o8 (fun c13 => ?_) (fun c13 => ?_)
    · have hyp := ht c13
      clear ht hf
      refine ex_iconst 32 dX10_bestWith_31 rfl ?_
      refine q_istore [some (vr 0), some (vi x1), some (vi x2), some (vi x3), some (vi 0)] 34 dX10_bestWith_32 rfl (Nat.le_of_ble_eq_true rfl) rfl rfl ?_
      refine ex_iload 36 dX10_bestWith_34 rfl rfl ?_
      refine ex_if_eq 77 39 dX10_bestWith_36 (by decide) rfl ⟨by decide, by decide⟩ (fun _ => ?_) (fun c => absurd c (by decide))
      refine ex_iconst 78 dX10_bestWith_77 rfl ?_
      exact ex_iret dX10_bestWith_78 (Or.inl rfl) ⟨_, rfl, _, rfl, hyp⟩
    · have hyp := hf c13
      clear ht hf
      refine ex_iconst 28 dX10_bestWith_27 rfl ?_
      refine ex_goto 32 dX10_bestWith_28 (by decide) ?_
      refine q_istore [some (vr 0), some (vi x1), some (vi x2), some (vi x3), some (vi 1)] 34 dX10_bestWith_32 rfl (Nat.le_of_ble_eq_true rfl) rfl rfl ?_
      refine ex_iload 36 dX10_bestWith_34 rfl rfl ?_
      refine ex_if_eq 77 39 dX10_bestWith_36 (by decide) rfl ⟨by decide, by decide⟩ (fun c => absurd c (by decide)) (fun _ => ?_)
      refine ex_aload_n 40 dX10_bestWith_39 rfl rfl ?_
      refine ex_aload_n 41 dX10_bestWith_40 rfl rfl ?_
      refine q_getR (a := 15) 10 22 44 dX10_bestWith_41 rfl fiX10_52 rfl ⟨_, rfl⟩ rfl ?_
      refine ex_iload_n 45 dX10_bestWith_44 rfl rfl ?_
      refine ex_iald 46 dX10_bestWith_45 rfl (ai_of (n := 7) rfl o2 o3 (by decide)) ?_
      refine ex_aload_n 47 dX10_bestWith_46 rfl rfl ?_
      refine q_getR (a := 16) 10 23 50 dX10_bestWith_47 rfl fiX10_55 rfl ⟨_, rfl⟩ rfl ?_
      refine ex_iload_n 51 dX10_bestWith_50 rfl rfl ?_
      refine ex_iald 52 dX10_bestWith_51 rfl (ai_of (n := 7) rfl o4 o5 (by decide)) ?_
      refine s_callVi [vi (m6 15 (x1).toNat), vi (m6 16 (x2).toNat)] 55 dX10_bestWith_52 rfl cvX10_175 rfl rfl ⟨Nat.le_of_ble_eq_true rfl, Nat.le_of_ble_eq_true rfl⟩ (Nat.le_of_ble_eq_true rfl) ⟨_, rfl⟩ hyp (fun y10 h1 hq => ?_)
      obtain ⟨m9, rfl, hyp⟩ := hq
      refine ex_aload_n 56 dX10_bestWith_55 rfl rfl ?_
      refine q_getR (a := 17) 10 24 59 dX10_bestWith_56 rfl fiX10_58 rfl ⟨_, rfl⟩ rfl ?_
      refine ex_sipush 62 dX10_bestWith_59 rfl ⟨by decide, by decide⟩ ?_
      refine ex_iload_n 63 dX10_bestWith_62 rfl rfl ?_
      refine ex_iconst 64 dX10_bestWith_63 rfl ?_
      refine ex_iadd 65 dX10_bestWith_64 rfl ?_
      refine ex_imul 66 dX10_bestWith_65 rfl ?_
      refine ex_iload_n 67 dX10_bestWith_66 rfl rfl ?_
      refine ex_iconst 68 dX10_bestWith_67 rfl ?_
      refine ex_iload_n 69 dX10_bestWith_68 rfl rfl ?_
      refine ex_ishl 70 dX10_bestWith_69 rfl ?_
      refine ex_ior 71 dX10_bestWith_70 rfl ?_
      refine ex_iadd 72 dX10_bestWith_71 rfl ?_
      obtain ⟨o11, hyp⟩ := hyp
      obtain ⟨o12, hyp⟩ := hyp
      refine ex_iald 73 dX10_bestWith_72 rfl (ai_of (n := 1024) rfl o11 o12 (by decide)) ?_
      refine ex_iadd 74 dX10_bestWith_73 rfl ?_
      refine ex_goto 78 dX10_bestWith_74 (by decide) ?_
      exact ex_iret dX10_bestWith_78 (Or.inl rfl) ⟨_, rfl, _, rfl, hyp⟩
set_option maxRecDepth 4000 in
theorem uX10_layBest {P : MS → Prop} (m0 : MS)  (hyp : YYv mX10_layBest 2 [some (vr 0), some (vi 0), none, none, none] [] m0 P) : MMv mX10_layBest [vr 0] m0 P := by
  refine met_of_ex (by decide +kernel) (Nat.le_of_ble_eq_true rfl) ?_
  show EX mX10_layBest 0 [some (vr 0), none, none, none, none] [] (hM m0) (0, 0) _
  refine ex_iconst 1 dX10_layBest_0 rfl ?_
  refine q_istore_n [some (vr 0), some (vi 0), none, none, none] 2 dX10_layBest_1 rfl (Nat.le_of_ble_eq_true rfl) rfl rfl ?_
  exact hyp
set_option maxRecDepth 4000 in
theorem uX10_layBest_2 {P : MS → Prop} (m0 : MS) (x1 : Int) (hyp : rng x1 ∧ (128 ≤ x1 → (YYv mX10_layBest 38 [some (vr 0), some (vi ((m0 0 20) - 1)), none, none, none] [] m0 P)) ∧ (x1 < 128 → (0 ≤ (128 * (m0 0 20)) + x1 ∧ (128 * (m0 0 20)) + x1 < 1024 ∧ ∀ m5 : MS, m5 = mI m0 17 ((128 * (m0 0 20)) + x1).toNat 0 → (YYv mX10_layBest 2 [some (vr 0), some (vi (x1 + 1)), none, none, none] [] m5 P)))) : YYv mX10_layBest 2 [some (vr 0), some (vi x1), none, none, none] [] m0 P := by
  refine ex_iload_n 3 dX10_layBest_2 rfl rfl ?_
  refine ex_sipush 6 dX10_layBest_3 rfl ⟨by decide, by decide⟩ ?_
  obtain ⟨o1, hyp⟩ := hyp
  obtain ⟨ht, hf⟩ := hyp
  refine ex_icmp_ge 31 9 dX10_layBest_6 (by decide) rfl o1 ⟨by decide, by decide⟩ (fun c7 => ?_) (fun c7 => ?_)
  · have hyp := ht c7
    clear ht hf
    refine ex_aload_n 32 dX10_layBest_31 rfl rfl ?_
    refine q_getI 10 20 35 dX10_layBest_32 rfl fiX10_191 (Or.inl rfl) ⟨_, rfl⟩ ?_
    refine ex_iconst 36 dX10_layBest_35 rfl ?_
    refine ex_isub 37 dX10_layBest_36 rfl ?_
    refine q_istore_n [some (vr 0), some (vi ((m0 0 20) - 1)), none, none, none] 38 dX10_layBest_37 rfl (Nat.le_of_ble_eq_true rfl) rfl rfl ?_
    exact hyp
  · have hyp := hf c7
    clear ht hf
    refine ex_aload_n 10 dX10_layBest_9 rfl rfl ?_
    refine q_getR (a := 17) 10 24 13 dX10_layBest_10 rfl fiX10_58 rfl ⟨_, rfl⟩ rfl ?_
    refine ex_sipush 16 dX10_layBest_13 rfl ⟨by decide, by decide⟩ ?_
    refine ex_aload_n 17 dX10_layBest_16 rfl rfl ?_
    refine q_getI 10 20 20 dX10_layBest_17 rfl fiX10_191 (Or.inl rfl) ⟨_, rfl⟩ ?_
    refine ex_imul 21 dX10_layBest_20 rfl ?_
    refine ex_iload_n 22 dX10_layBest_21 rfl rfl ?_
    refine ex_iadd 23 dX10_layBest_22 rfl ?_
    refine ex_iconst 24 dX10_layBest_23 rfl ?_
    obtain ⟨o2, hyp⟩ := hyp
    obtain ⟨o3, hyp⟩ := hyp
    refine ex_iast 25 dX10_layBest_24 rfl (ai_of (n := 1024) rfl o2 o3 (by decide)) (fun h1 e4 => ?_)
    obtain ⟨m5, eg6⟩ : ∃ z : MS, z = mI m0 17 ((128 * (m0 0 20)) + x1).toNat 0 := ⟨_, rfl⟩
    have hyp := hyp m5 eg6
    obtain rfl : h1 = hM m5 := by rw [e4, eg6]; exact rfl
    clear e4
    refine q_iinc [some (vr 0), some (vi (x1 + 1)), none, none, none] 28 dX10_layBest_25 rfl rfl (Nat.le_of_ble_eq_true rfl) rfl rfl ?_
    refine ex_goto 2 dX10_layBest_28 (by decide) ?_
    exact hyp
set_option maxRecDepth 4000 in
theorem uX10_layBest_38 {P : MS → Prop} (m0 : MS) (x1 : Int) (hyp : rng x1 ∧ (x1 < 0 → (P m0)) ∧ (0 ≤ x1 → (YYv mX10_layBest 44 [some (vr 0), some (vi x1), some (vi 0), none, none] [] m0 P))) : YYv mX10_layBest 38 [some (vr 0), some (vi x1), none, none, none] [] m0 P := by
  refine ex_iload_n 39 dX10_layBest_38 rfl rfl ?_
  obtain ⟨o1, hyp⟩ := hyp
  obtain ⟨ht, hf⟩ := hyp
  refine ex_if_lt 125 42 dX10_layBest_39 (by decide) rfl o1 (fun c2 => ?_) (fun c2 => ?_)
  · have hyp := ht c2
    clear ht hf
    exact ex_vret dX10_layBest_125 rfl ⟨rfl, _, rfl, hyp⟩
  · have hyp := hf c2
    clear ht hf
    refine ex_iconst 43 dX10_layBest_42 rfl ?_
    refine q_istore_n [some (vr 0), some (vi x1), some (vi 0), none, none] 44 dX10_layBest_43 rfl (Nat.le_of_ble_eq_true rfl) rfl rfl ?_
    exact hyp
set_option maxRecDepth 4000 in
theorem uX10_layBest_44 {P : MS → Prop} (m0 : MS) (x1 : Int) (x2 : Int) (hyp : rng x2 ∧ rng (b_shl 1 (m0 0 21)) ∧ (b_shl 1 (m0 0 21) ≤ x2 → (YYv mX10_layBest 38 [some (vr 0), some (vi (x1 + (-1))), none, none, none] [] m0 P)) ∧ (x2 < b_shl 1 (m0 0 21) → (0 ≤ (128 * (x1 + 1)) + x2 ∧ (128 * (x1 + 1)) + x2 < 1024 ∧ YYv mX10_layBest 72 [some (vr 0), some (vi x1), some (vi x2), some (vi (m0 17 ((128 * (x1 + 1)) + x2).toNat)), some (vi 0)] [] m0 P))) : YYv mX10_layBest 44 [some (vr 0), some (vi x1), some (vi x2), none, none] [] m0 P := by
  refine ex_iload_n 45 dX10_layBest_44 rfl rfl ?_
  refine ex_iconst 46 dX10_layBest_45 rfl ?_
  refine ex_aload_n 47 dX10_layBest_46 rfl rfl ?_
  refine q_getI 10 21 50 dX10_layBest_47 rfl fiX10_194 (Or.inl rfl) ⟨_, rfl⟩ ?_
  refine ex_ishl 51 dX10_layBest_50 rfl ?_
  obtain ⟨o1, hyp⟩ := hyp
  obtain ⟨o2, hyp⟩ := hyp
  obtain ⟨ht, hf⟩ := hyp
  refine ex_icmp_ge 119 54 dX10_layBest_51 (by decide) rfl o1 o2 (fun c5 => ?_) (fun c5 => ?_)
  · have hyp := ht c5
    clear ht hf
    refine q_iinc [some (vr 0), some (vi (x1 + (-1))), some (vi x2), none, none] 122 dX10_layBest_119 rfl rfl (Nat.le_of_ble_eq_true rfl) rfl rfl ?_
    refine ex_goto 38 dX10_layBest_122 (by decide) ?_
    refine ex_dropL (ls' := [some (vr 0), some (vi (x1 + (-1))), none, none, none]) 2 rfl ?_
    exact hyp
  · have hyp := hf c5
    clear ht hf
    refine ex_aload_n 55 dX10_layBest_54 rfl rfl ?_
    refine q_getR (a := 17) 10 24 58 dX10_layBest_55 rfl fiX10_58 rfl ⟨_, rfl⟩ rfl ?_
    refine ex_sipush 61 dX10_layBest_58 rfl ⟨by decide, by decide⟩ ?_
    refine ex_iload_n 62 dX10_layBest_61 rfl rfl ?_
    refine ex_iconst 63 dX10_layBest_62 rfl ?_
    refine ex_iadd 64 dX10_layBest_63 rfl ?_
    refine ex_imul 65 dX10_layBest_64 rfl ?_
    refine ex_iload_n 66 dX10_layBest_65 rfl rfl ?_
    refine ex_iadd 67 dX10_layBest_66 rfl ?_
    obtain ⟨o3, hyp⟩ := hyp
    obtain ⟨o4, hyp⟩ := hyp
    refine ex_iald 68 dX10_layBest_67 rfl (ai_of (n := 1024) rfl o3 o4 (by decide)) ?_
    refine q_istore_n [some (vr 0), some (vi x1), some (vi x2), some (vi (m0 17 ((128 * (x1 + 1)) + x2).toNat)), none] 69 dX10_layBest_68 rfl (Nat.le_of_ble_eq_true rfl) rfl rfl ?_
    refine ex_iconst 70 dX10_layBest_69 rfl ?_
    refine q_istore [some (vr 0), some (vi x1), some (vi x2), some (vi (m0 17 ((128 * (x1 + 1)) + x2).toNat)), some (vi 0)] 72 dX10_layBest_70 rfl (Nat.le_of_ble_eq_true rfl) rfl rfl ?_
    exact hyp
set_option maxRecDepth 4000 in
theorem uX10_layBest_72 {P : MS → Prop} (m0 : MS) (x1 : Int) (x2 : Int) (x3 : Int) (x4 : Int) (hyp : rng x4 ∧ rng (m0 0 21) ∧ (m0 0 21 ≤ x4 → (0 ≤ (128 * x1) + x2 ∧ (128 * x1) + x2 < 1024 ∧ ∀ m6 : MS, m6 = mI m0 17 ((128 * x1) + x2).toNat x3 → (YYv mX10_layBest 44 [some (vr 0), some (vi x1), some (vi (x2 + 1)), none, none] [] m6 P))) ∧ (x4 < m0 0 21 → (MMi mX10_bestWith [vr 0, vi x1, vi x4, vi x2] m0 (fun y9 m8 => MMi mX10_greater [vi x3, vi y9] m8 (fun y11 m10 => YYv mX10_layBest 72 [some (vr 0), some (vi x1), some (vi x2), some (vi y11), some (vi (x4 + 1))] [] m10 P))))) : YYv mX10_layBest 72 [some (vr 0), some (vi x1), some (vi x2), some (vi x3), some (vi x4)] [] m0 P := by
  refine ex_iload 74 dX10_layBest_72 rfl rfl ?_
  refine ex_aload_n 75 dX10_layBest_74 rfl rfl ?_
  refine q_getI 10 21 78 dX10_layBest_75 rfl fiX10_194 (Or.inl rfl) ⟨_, rfl⟩ ?_
  obtain ⟨o1, hyp⟩ := hyp
  obtain ⟨o2, hyp⟩ := hyp
  obtain ⟨ht, hf⟩ := hyp
  refine ex_icmp_ge 100 81 dX10_layBest_78 (by decide) rfl o1 o2 (fun c12 => ?_) (fun c12 => ?_)
  · have hyp := ht c12
    clear ht hf
    refine ex_aload_n 101 dX10_layBest_100 rfl rfl ?_
    refine q_getR (a := 17) 10 24 104 dX10_layBest_101 rfl fiX10_58 rfl ⟨_, rfl⟩ rfl ?_
    refine ex_sipush 107 dX10_layBest_104 rfl ⟨by decide, by decide⟩ ?_
    refine ex_iload_n 108 dX10_layBest_107 rfl rfl ?_
    refine ex_imul 109 dX10_layBest_108 rfl ?_
    refine ex_iload_n 110 dX10_layBest_109 rfl rfl ?_
    refine ex_iadd 111 dX10_layBest_110 rfl ?_
    refine ex_iload_n 112 dX10_layBest_111 rfl rfl ?_
    obtain ⟨o3, hyp⟩ := hyp
    obtain ⟨o4, hyp⟩ := hyp
    refine ex_iast 113 dX10_layBest_112 rfl (ai_of (n := 1024) rfl o3 o4 (by decide)) (fun h1 e5 => ?_)
    obtain ⟨m6, eg7⟩ : ∃ z : MS, z = mI m0 17 ((128 * x1) + x2).toNat x3 := ⟨_, rfl⟩
    have hyp := hyp m6 eg7
    obtain rfl : h1 = hM m6 := by rw [e5, eg7]; exact rfl
    clear e5
    refine q_iinc [some (vr 0), some (vi x1), some (vi (x2 + 1)), some (vi x3), some (vi x4)] 116 dX10_layBest_113 rfl rfl (Nat.le_of_ble_eq_true rfl) rfl rfl ?_
    refine ex_goto 44 dX10_layBest_116 (by decide) ?_
    refine ex_dropL (ls' := [some (vr 0), some (vi x1), some (vi (x2 + 1)), none, some (vi x4)]) 3 rfl ?_
    refine ex_dropL (ls' := [some (vr 0), some (vi x1), some (vi (x2 + 1)), none, none]) 4 rfl ?_
    exact hyp
  · have hyp := hf c12
    clear ht hf
    refine ex_iload_n 82 dX10_layBest_81 rfl rfl ?_
    refine ex_aload_n 83 dX10_layBest_82 rfl rfl ?_
    refine ex_iload_n 84 dX10_layBest_83 rfl rfl ?_
    refine ex_iload 86 dX10_layBest_84 rfl rfl ?_
    refine ex_iload_n 87 dX10_layBest_86 rfl rfl ?_
    refine s_callVi [vi x1, vi x4, vi x2] 90 dX10_layBest_87 rfl cvX10_197 rfl rfl ⟨Nat.le_of_ble_eq_true rfl, Nat.le_of_ble_eq_true rfl⟩ (Nat.le_of_ble_eq_true rfl) ⟨_, rfl⟩ hyp (fun y9 h1 hq => ?_)
    obtain ⟨m8, rfl, hyp⟩ := hq
    refine s_callSi [vi x3, vi y9] 93 dX10_layBest_90 rfl cvX10_148 rfl rfl ⟨Nat.le_of_ble_eq_true rfl, Nat.le_of_ble_eq_true rfl⟩ (Nat.le_of_ble_eq_true rfl) hyp (fun y11 h1 hq => ?_)
    obtain ⟨m10, rfl, hyp⟩ := hq
    refine q_istore_n [some (vr 0), some (vi x1), some (vi x2), some (vi y11), some (vi x4)] 94 dX10_layBest_93 rfl (Nat.le_of_ble_eq_true rfl) rfl rfl ?_
    refine q_iinc [some (vr 0), some (vi x1), some (vi x2), some (vi y11), some (vi (x4 + 1))] 97 dX10_layBest_94 rfl rfl (Nat.le_of_ble_eq_true rfl) rfl rfl ?_
    refine ex_goto 72 dX10_layBest_97 (by decide) ?_
    exact hyp
set_option maxRecDepth 4000 in
theorem uX10_layPairs {P : MS → Prop} (m0 : MS)  (hyp : MMv mX10_listKinds [vr 0] m0 (fun m1 => MMv mX10_layBest [vr 0] m1 (fun m2 => ∀ m4 : MS, m4 = mI m2 0 26 0 → (∀ m7 : MS, m7 = mI m4 0 27 (m4 17 (0 : Int).toNat) → (YYv mX10_layPairs 25 [some (vr 0), some (vi 0), none, none] [] m7 P))))) : MMv mX10_layPairs [vr 0] m0 P := by
  refine met_of_ex (by decide +kernel) (Nat.le_of_ble_eq_true rfl) ?_
  show EX mX10_layPairs 0 [some (vr 0), none, none, none] [] (hM m0) (0, 0) _
  refine ex_aload_n 1 dX10_layPairs_0 rfl rfl ?_
  refine s_callVv [] 4 dX10_layPairs_1 rfl cvX10_200 rfl rfl ⟨Nat.le_of_ble_eq_true rfl, Nat.le_of_ble_eq_true rfl⟩ (Nat.le_of_ble_eq_true rfl) ⟨_, rfl⟩ hyp (fun h1 hq => ?_)
  obtain ⟨m1, rfl, hyp⟩ := hq
  refine ex_aload_n 5 dX10_layPairs_4 rfl rfl ?_
  refine s_callVv [] 8 dX10_layPairs_5 rfl cvX10_203 rfl rfl ⟨Nat.le_of_ble_eq_true rfl, Nat.le_of_ble_eq_true rfl⟩ (Nat.le_of_ble_eq_true rfl) ⟨_, rfl⟩ hyp (fun h1 hq => ?_)
  obtain ⟨m2, rfl, hyp⟩ := hq
  refine ex_aload_n 9 dX10_layPairs_8 rfl rfl ?_
  refine ex_iconst 10 dX10_layPairs_9 rfl ?_
  refine q_putI 10 26 13 dX10_layPairs_10 rfl fiX10_206 ff10_26 rfl ⟨_, rfl⟩ (fun h1 e3 => ?_)
  obtain ⟨m4, eg5⟩ : ∃ z : MS, z = mI m2 0 26 0 := ⟨_, rfl⟩
  have hyp := hyp m4 eg5
  obtain rfl : h1 = hM m4 := by rw [e3, eg5]; exact rfl
  clear e3
  refine ex_aload_n 14 dX10_layPairs_13 rfl rfl ?_
  refine ex_aload_n 15 dX10_layPairs_14 rfl rfl ?_
  refine q_getR (a := 17) 10 24 18 dX10_layPairs_15 rfl fiX10_58 rfl ⟨_, rfl⟩ rfl ?_
  refine ex_iconst 19 dX10_layPairs_18 rfl ?_
  refine ex_iald 20 dX10_layPairs_19 rfl (ai_of (n := 1024) rfl (by decide) (by decide) (by decide)) ?_
  refine q_putI 10 27 23 dX10_layPairs_20 rfl fiX10_209 ff10_27 rfl ⟨_, rfl⟩ (fun h1 e6 => ?_)
  obtain ⟨m7, eg8⟩ : ∃ z : MS, z = mI m4 0 27 (m4 17 (0 : Int).toNat) := ⟨_, rfl⟩
  have hyp := hyp m7 eg8
  obtain rfl : h1 = hM m7 := by rw [e6, eg8]; exact rfl
  clear e6
  refine ex_iconst 24 dX10_layPairs_23 rfl ?_
  refine q_istore_n [some (vr 0), some (vi 0), none, none] 25 dX10_layPairs_24 rfl (Nat.le_of_ble_eq_true rfl) rfl rfl ?_
  exact hyp
set_option maxRecDepth 4000 in
theorem uX10_layPairs_25 {P : MS → Prop} (m0 : MS) (x1 : Int) (hyp : rng x1 ∧ rng (m0 0 2) ∧ (m0 0 2 ≤ x1 → (YYv mX10_layPairs 50 [some (vr 0), some (vi 0), some (vi 0), none] [] m0 P)) ∧ (x1 < m0 0 2 → (0 ≤ x1 ∧ x1 < 18 ∧ ∀ m6 : MS, m6 = mI m0 18 (x1).toNat (-1) → (YYv mX10_layPairs 25 [some (vr 0), some (vi (x1 + 1)), none, none] [] m6 P)))) : YYv mX10_layPairs 25 [some (vr 0), some (vi x1), none, none] [] m0 P := by
  refine ex_iload_n 26 dX10_layPairs_25 rfl rfl ?_
  refine ex_aload_n 27 dX10_layPairs_26 rfl rfl ?_
  refine q_getI 10 2 30 dX10_layPairs_27 rfl fiX10_118 (Or.inl rfl) ⟨_, rfl⟩ ?_
  obtain ⟨o1, hyp⟩ := hyp
  obtain ⟨o2, hyp⟩ := hyp
  obtain ⟨ht, hf⟩ := hyp
  refine ex_icmp_ge 46 33 dX10_layPairs_30 (by decide) rfl o1 o2 (fun c8 => ?_) (fun c8 => ?_)
  · have hyp := ht c8
    clear ht hf
    refine ex_iconst 47 dX10_layPairs_46 rfl ?_
    refine q_istore_n [some (vr 0), some (vi 0), none, none] 48 dX10_layPairs_47 rfl (Nat.le_of_ble_eq_true rfl) rfl rfl ?_
    refine ex_iconst 49 dX10_layPairs_48 rfl ?_
    refine q_istore_n [some (vr 0), some (vi 0), some (vi 0), none] 50 dX10_layPairs_49 rfl (Nat.le_of_ble_eq_true rfl) rfl rfl ?_
    exact hyp
  · have hyp := hf c8
    clear ht hf
    refine ex_aload_n 34 dX10_layPairs_33 rfl rfl ?_
    refine q_getR (a := 18) 10 25 37 dX10_layPairs_34 rfl fiX10_61 rfl ⟨_, rfl⟩ rfl ?_
    refine ex_iload_n 38 dX10_layPairs_37 rfl rfl ?_
    refine ex_iconst 39 dX10_layPairs_38 rfl ?_
    obtain ⟨o3, hyp⟩ := hyp
    obtain ⟨o4, hyp⟩ := hyp
    refine ex_iast 40 dX10_layPairs_39 rfl (ai_of (n := 18) rfl o3 o4 (by decide)) (fun h1 e5 => ?_)
    obtain ⟨m6, eg7⟩ : ∃ z : MS, z = mI m0 18 (x1).toNat (-1) := ⟨_, rfl⟩
    have hyp := hyp m6 eg7
    obtain rfl : h1 = hM m6 := by rw [e5, eg7]; exact rfl
    clear e5
    refine q_iinc [some (vr 0), some (vi (x1 + 1)), none, none] 43 dX10_layPairs_40 rfl rfl (Nat.le_of_ble_eq_true rfl) rfl rfl ?_
    refine ex_goto 25 dX10_layPairs_43 (by decide) ?_
    exact hyp
set_option maxRecDepth 4000 in
theorem uX10_layPairs_50 {P : MS → Prop} (m0 : MS) (x1 : Int) (x2 : Int) (hyp : rng x2 ∧ rng (m0 0 20) ∧ (m0 0 20 ≤ x2 → (P m0)) ∧ (x2 < m0 0 20 → (YYv mX10_layPairs 60 [some (vr 0), some (vi x1), some (vi x2), some (vi 0)] [] m0 P))) : YYv mX10_layPairs 50 [some (vr 0), some (vi x1), some (vi x2), none] [] m0 P := by
  refine ex_iload_n 51 dX10_layPairs_50 rfl rfl ?_
  refine ex_aload_n 52 dX10_layPairs_51 rfl rfl ?_
  refine q_getI 10 20 55 dX10_layPairs_52 rfl fiX10_191 (Or.inl rfl) ⟨_, rfl⟩ ?_
  obtain ⟨o1, hyp⟩ := hyp
  obtain ⟨o2, hyp⟩ := hyp
  obtain ⟨ht, hf⟩ := hyp
  refine ex_icmp_ge 160 58 dX10_layPairs_55 (by decide) rfl o1 o2 (fun c3 => ?_) (fun c3 => ?_)
  · have hyp := ht c3
    clear ht hf
    exact ex_vret dX10_layPairs_160 rfl ⟨rfl, _, rfl, hyp⟩
  · have hyp := hf c3
    clear ht hf
    refine ex_iconst 59 dX10_layPairs_58 rfl ?_
    refine q_istore_n [some (vr 0), some (vi x1), some (vi x2), some (vi 0)] 60 dX10_layPairs_59 rfl (Nat.le_of_ble_eq_true rfl) rfl rfl ?_
    exact hyp
set_option maxRecDepth 4000 in
theorem uX10_layPairs_60 {P : MS → Prop} (m0 : MS) (x1 : Int) (x2 : Int) (x3 : Int) (hyp : rng x3 ∧ rng (m0 0 21) ∧ (m0 0 21 ≤ x3 → ((m0 0 21 ≤ x3 → (YYv mX10_layPairs 50 [some (vr 0), some (vi x1), some (vi (x2 + 1)), none] [] m0 P)) ∧ (x3 < m0 0 21 → (0 ≤ x2 ∧ x2 < 7 ∧ 0 ≤ x3 ∧ x3 < 7 ∧ 0 ≤ m0 15 (x2).toNat ∧ m0 15 (x2).toNat < 18 ∧ ∀ m10 : MS, m10 = mI m0 18 (m0 15 (x2).toNat).toNat (m0 16 (x3).toNat) → (0 ≤ m10 16 (x3).toNat ∧ m10 16 (x3).toNat < 18 ∧ ∀ m15 : MS, m15 = mI m10 18 (m10 16 (x3).toNat).toNat (m10 15 (x2).toNat) → (∀ m18 : MS, m18 = mI m15 0 26 ((m15 0 26) + 1) → (YYv mX10_layPairs 50 [some (vr 0), some (vi (b_or x1 (b_shl 1 x3))), some (vi (x2 + 1)), none] [] m18 P))))))) ∧ (x3 < m0 0 21 → (MMi mX10_bestWith [vr 0, vi x2, vi x3, vi x1] m0 (fun y22 m21 => 0 ≤ (128 * x2) + x1 ∧ (128 * x2) + x1 < 1024 ∧ rng y22 ∧ rng (m21 17 ((128 * x2) + x1).toNat) ∧ (y22 = m21 17 ((128 * x2) + x1).toNat → (rng (m21 0 21) ∧ (m21 0 21 ≤ x3 → (YYv mX10_layPairs 50 [some (vr 0), some (vi x1), some (vi (x2 + 1)), none] [] m21 P)) ∧ (x3 < m21 0 21 → (0 ≤ x2 ∧ x2 < 7 ∧ 0 ≤ x3 ∧ x3 < 7 ∧ 0 ≤ m21 15 (x2).toNat ∧ m21 15 (x2).toNat < 18 ∧ ∀ m35 : MS, m35 = mI m21 18 (m21 15 (x2).toNat).toNat (m21 16 (x3).toNat) → (0 ≤ m35 16 (x3).toNat ∧ m35 16 (x3).toNat < 18 ∧ ∀ m40 : MS, m40 = mI m35 18 (m35 16 (x3).toNat).toNat (m35 15 (x2).toNat) → (∀ m43 : MS, m43 = mI m40 0 26 ((m40 0 26) + 1) → (YYv mX10_layPairs 50 [some (vr 0), some (vi (b_or x1 (b_shl 1 x3))), some (vi (x2 + 1)), none] [] m43 P))))))) ∧ (¬ y22 = m21 17 ((128 * x2) + x1).toNat → (YYv mX10_layPairs 60 [some (vr 0), some (vi x1), some (vi x2), some (vi (x3 + 1))] [] m21 P)))))) : YYv mX10_layPairs 60 [some (vr 0), some (vi x1), some (vi x2), some (vi x3)] [] m0 P := by
  refine ex_iload_n 61 dX10_layPairs_60 rfl rfl ?_
  refine ex_aload_n 62 dX10_layPairs_61 rfl rfl ?_
  refine q_getI 10 21 65 dX10_layPairs_62 rfl fiX10_194 (Or.inl rfl) ⟨_, rfl⟩ ?_
  obtain ⟨o1, hyp⟩ := hyp
  obtain ⟨o2, hyp⟩ := hyp
  obtain ⟨ht, hf⟩ := hyp
  refine ex_icmp_ge 96 68 dX10_layPairs_65 (by decide) rfl o1 o2 (fun c47 => ?_) (fun c47 => ?_)
  · have hyp := ht c47
    clear ht hf
    refine ex_iload_n 97 dX10_layPairs_96 rfl rfl ?_
    refine ex_aload_n 98 dX10_layPairs_97 rfl rfl ?_
    refine q_getI 10 21 101 dX10_layPairs_98 rfl fiX10_194 (Or.inl rfl) ⟨_, rfl⟩ ?_
    obtain ⟨ht, hf⟩ := hyp
    refine ex_icmp_ge 154 104 dX10_layPairs_101 (by decide) rfl o1 o2 (fun c20 => ?_) (fun c20 => ?_)
    · have hyp := ht c20
      clear ht hf
      refine q_iinc [some (vr 0), some (vi x1), some (vi (x2 + 1)), some (vi x3)] 157 dX10_layPairs_154 rfl rfl (Nat.le_of_ble_eq_true rfl) rfl rfl ?_
      refine ex_goto 50 dX10_layPairs_157 (by decide) ?_
      refine ex_dropL (ls' := [some (vr 0), some (vi x1), some (vi (x2 + 1)), none]) 3 rfl ?_
      exact hyp
    · have hyp := hf c20
      clear ht hf
      refine ex_aload_n 105 dX10_layPairs_104 rfl rfl ?_
      refine q_getR (a := 18) 10 25 108 dX10_layPairs_105 rfl fiX10_61 rfl ⟨_, rfl⟩ rfl ?_
      refine ex_aload_n 109 dX10_layPairs_108 rfl rfl ?_
      refine q_getR (a := 15) 10 22 112 dX10_layPairs_109 rfl fiX10_52 rfl ⟨_, rfl⟩ rfl ?_
      refine ex_iload_n 113 dX10_layPairs_112 rfl rfl ?_
      obtain ⟨o3, hyp⟩ := hyp
      obtain ⟨o4, hyp⟩ := hyp
      refine ex_iald 114 dX10_layPairs_113 rfl (ai_of (n := 7) rfl o3 o4 (by decide)) ?_
      refine ex_aload_n 115 dX10_layPairs_114 rfl rfl ?_
      refine q_getR (a := 16) 10 23 118 dX10_layPairs_115 rfl fiX10_55 rfl ⟨_, rfl⟩ rfl ?_
      refine ex_iload_n 119 dX10_layPairs_118 rfl rfl ?_
      obtain ⟨o5, hyp⟩ := hyp
      obtain ⟨o6, hyp⟩ := hyp
      refine ex_iald 120 dX10_layPairs_119 rfl (ai_of (n := 7) rfl o5 o6 (by decide)) ?_
      obtain ⟨o7, hyp⟩ := hyp
      obtain ⟨o8, hyp⟩ := hyp
      refine ex_iast 121 dX10_layPairs_120 rfl (ai_of (n := 18) rfl o7 o8 (by decide)) (fun h1 e9 => ?_)
      obtain ⟨m10, eg11⟩ : ∃ z : MS, z = mI m0 18 (m0 15 (x2).toNat).toNat (m0 16 (x3).toNat) := ⟨_, rfl⟩
      have hyp := hyp m10 eg11
      obtain rfl : h1 = hM m10 := by rw [e9, eg11]; exact rfl
      clear e9
      refine ex_aload_n 122 dX10_layPairs_121 rfl rfl ?_
      refine q_getR (a := 18) 10 25 125 dX10_layPairs_122 rfl fiX10_61 rfl ⟨_, rfl⟩ rfl ?_
      refine ex_aload_n 126 dX10_layPairs_125 rfl rfl ?_
      refine q_getR (a := 16) 10 23 129 dX10_layPairs_126 rfl fiX10_55 rfl ⟨_, rfl⟩ rfl ?_
      refine ex_iload_n 130 dX10_layPairs_129 rfl rfl ?_
      refine ex_iald 131 dX10_layPairs_130 rfl (ai_of (n := 7) rfl o5 o6 (by decide)) ?_
      refine ex_aload_n 132 dX10_layPairs_131 rfl rfl ?_
      refine q_getR (a := 15) 10 22 135 dX10_layPairs_132 rfl fiX10_52 rfl ⟨_, rfl⟩ rfl ?_
      refine ex_iload_n 136 dX10_layPairs_135 rfl rfl ?_
      refine ex_iald 137 dX10_layPairs_136 rfl (ai_of (n := 7) rfl o3 o4 (by decide)) ?_
      obtain ⟨o12, hyp⟩ := hyp
      obtain ⟨o13, hyp⟩ := hyp
      refine ex_iast 138 dX10_layPairs_137 rfl (ai_of (n := 18) rfl o12 o13 (by decide)) (fun h1 e14 => ?_)
      obtain ⟨m15, eg16⟩ : ∃ z : MS, z = mI m10 18 (m10 16 (x3).toNat).toNat (m10 15 (x2).toNat) := ⟨_, rfl⟩
      have hyp := hyp m15 eg16
      obtain rfl : h1 = hM m15 := by rw [e14, eg16]; exact rfl
      clear e14
      refine ex_iload_n 139 dX10_layPairs_138 rfl rfl ?_
      refine ex_iconst 140 dX10_layPairs_139 rfl ?_
      refine ex_iload_n 141 dX10_layPairs_140 rfl rfl ?_
      refine ex_ishl 142 dX10_layPairs_141 rfl ?_
      refine ex_ior 143 dX10_layPairs_142 rfl ?_
      refine q_istore_n [some (vr 0), some (vi (b_or x1 (b_shl 1 x3))), some (vi x2), some (vi x3)] 144 dX10_layPairs_143 rfl (Nat.le_of_ble_eq_true rfl) rfl rfl ?_
      refine ex_aload_n 145 dX10_layPairs_144 rfl rfl ?_
      refine ex_dup 146 dX10_layPairs_145 rfl rfl ?_
      refine q_getI 10 26 149 dX10_layPairs_146 rfl fiX10_206 (Or.inl rfl) ⟨_, rfl⟩ ?_
      refine ex_iconst 150 dX10_layPairs_149 rfl ?_
      refine ex_iadd 151 dX10_layPairs_150 rfl ?_
      refine q_putI 10 26 154 dX10_layPairs_151 rfl fiX10_206 ff10_26 rfl ⟨_, rfl⟩ (fun h1 e17 => ?_)
      obtain ⟨m18, eg19⟩ : ∃ z : MS, z = mI m15 0 26 ((m15 0 26) + 1) := ⟨_, rfl⟩
      have hyp := hyp m18 eg19
      obtain rfl : h1 = hM m18 := by rw [e17, eg19]; exact rfl
      clear e17
      refine q_iinc [some (vr 0), some (vi (b_or x1 (b_shl 1 x3))), some (vi (x2 + 1)), some (vi x3)] 157 dX10_layPairs_154 rfl rfl (Nat.le_of_ble_eq_true rfl) rfl rfl ?_
      refine ex_goto 50 dX10_layPairs_157 (by decide) ?_
      refine ex_dropL (ls' := [some (vr 0), some (vi (b_or x1 (b_shl 1 x3))), some (vi (x2 + 1)), none]) 3 rfl ?_
      exact hyp
  · have hyp := hf c47
    clear ht hf
    refine ex_aload_n 69 dX10_layPairs_68 rfl rfl ?_
    refine ex_iload_n 70 dX10_layPairs_69 rfl rfl ?_
    refine ex_iload_n 71 dX10_layPairs_70 rfl rfl ?_
    refine ex_iload_n 72 dX10_layPairs_71 rfl rfl ?_
    refine s_callVi [vi x2, vi x3, vi x1] 75 dX10_layPairs_72 rfl cvX10_197 rfl rfl ⟨Nat.le_of_ble_eq_true rfl, Nat.le_of_ble_eq_true rfl⟩ (Nat.le_of_ble_eq_true rfl) ⟨_, rfl⟩ hyp (fun y22 h1 hq => ?_)
    obtain ⟨m21, rfl, hyp⟩ := hq
    refine ex_aload_n 76 dX10_layPairs_75 rfl rfl ?_
    refine q_getR (a := 17) 10 24 79 dX10_layPairs_76 rfl fiX10_58 rfl ⟨_, rfl⟩ rfl ?_
    refine ex_sipush 82 dX10_layPairs_79 rfl ⟨by decide, by decide⟩ ?_
    refine ex_iload_n 83 dX10_layPairs_82 rfl rfl ?_
    refine ex_imul 84 dX10_layPairs_83 rfl ?_
    refine ex_iload_n 85 dX10_layPairs_84 rfl rfl ?_
    refine ex_iadd 86 dX10_layPairs_85 rfl ?_
    obtain ⟨o23, hyp⟩ := hyp
    obtain ⟨o24, hyp⟩ := hyp
    refine ex_iald 87 dX10_layPairs_86 rfl (ai_of (n := 1024) rfl o23 o24 (by decide)) ?_
    obtain ⟨o25, hyp⟩ := hyp
    obtain ⟨o26, hyp⟩ := hyp
    obtain ⟨ht, hf⟩ := hyp
    refine ex_icmp_eq 96 90 dX10_layPairs_87 (by decide) rfl o25 o26 (fun c46 => ?_) (fun c46 => ?_)
    · have hyp := ht c46
      clear ht hf
      refine ex_iload_n 97 dX10_layPairs_96 rfl rfl ?_
      refine ex_aload_n 98 dX10_layPairs_97 rfl rfl ?_
      refine q_getI 10 21 101 dX10_layPairs_98 rfl fiX10_194 (Or.inl rfl) ⟨_, rfl⟩ ?_
      obtain ⟨o27, hyp⟩ := hyp
      obtain ⟨ht, hf⟩ := hyp
      refine ex_icmp_ge 154 104 dX10_layPairs_101 (by decide) rfl o1 o27 (fun c45 => ?_) (fun c45 => ?_)
      · have hyp := ht c45
        clear ht hf
        refine q_iinc [some (vr 0), some (vi x1), some (vi (x2 + 1)), some (vi x3)] 157 dX10_layPairs_154 rfl rfl (Nat.le_of_ble_eq_true rfl) rfl rfl ?_
        refine ex_goto 50 dX10_layPairs_157 (by decide) ?_
        refine ex_dropL (ls' := [some (vr 0), some (vi x1), some (vi (x2 + 1)), none]) 3 rfl ?_
        exact hyp
      · have hyp := hf c45
        clear ht hf
        refine ex_aload_n 105 dX10_layPairs_104 rfl rfl ?_
        refine q_getR (a := 18) 10 25 108 dX10_layPairs_105 rfl fiX10_61 rfl ⟨_, rfl⟩ rfl ?_
        refine ex_aload_n 109 dX10_layPairs_108 rfl rfl ?_
        refine q_getR (a := 15) 10 22 112 dX10_layPairs_109 rfl fiX10_52 rfl ⟨_, rfl⟩ rfl ?_
        refine ex_iload_n 113 dX10_layPairs_112 rfl rfl ?_
        obtain ⟨o28, hyp⟩ := hyp
        obtain ⟨o29, hyp⟩ := hyp
        refine ex_iald 114 dX10_layPairs_113 rfl (ai_of (n := 7) rfl o28 o29 (by decide)) ?_
        refine ex_aload_n 115 dX10_layPairs_114 rfl rfl ?_
        refine q_getR (a := 16) 10 23 118 dX10_layPairs_115 rfl fiX10_55 rfl ⟨_, rfl⟩ rfl ?_
        refine ex_iload_n 119 dX10_layPairs_118 rfl rfl ?_
        obtain ⟨o30, hyp⟩ := hyp
        obtain ⟨o31, hyp⟩ := hyp
        refine ex_iald 120 dX10_layPairs_119 rfl (ai_of (n := 7) rfl o30 o31 (by decide)) ?_
        obtain ⟨o32, hyp⟩ := hyp
        obtain ⟨o33, hyp⟩ := hyp
        refine ex_iast 121 dX10_layPairs_120 rfl (ai_of (n := 18) rfl o32 o33 (by decide)) (fun h1 e34 => ?_)
        obtain ⟨m35, eg36⟩ : ∃ z : MS, z = mI m21 18 (m21 15 (x2).toNat).toNat (m21 16 (x3).toNat) := ⟨_, rfl⟩
        have hyp := hyp m35 eg36
        obtain rfl : h1 = hM m35 := by rw [e34, eg36]; exact rfl
        clear e34
        refine ex_aload_n 122 dX10_layPairs_121 rfl rfl ?_
        refine q_getR (a := 18) 10 25 125 dX10_layPairs_122 rfl fiX10_61 rfl ⟨_, rfl⟩ rfl ?_
        refine ex_aload_n 126 dX10_layPairs_125 rfl rfl ?_
        refine q_getR (a := 16) 10 23 129 dX10_layPairs_126 rfl fiX10_55 rfl ⟨_, rfl⟩ rfl ?_
        refine ex_iload_n 130 dX10_layPairs_129 rfl rfl ?_
        refine ex_iald 131 dX10_layPairs_130 rfl (ai_of (n := 7) rfl o30 o31 (by decide)) ?_
        refine ex_aload_n 132 dX10_layPairs_131 rfl rfl ?_
        refine q_getR (a := 15) 10 22 135 dX10_layPairs_132 rfl fiX10_52 rfl ⟨_, rfl⟩ rfl ?_
        refine ex_iload_n 136 dX10_layPairs_135 rfl rfl ?_
        refine ex_iald 137 dX10_layPairs_136 rfl (ai_of (n := 7) rfl o28 o29 (by decide)) ?_
        obtain ⟨o37, hyp⟩ := hyp
        obtain ⟨o38, hyp⟩ := hyp
        refine ex_iast 138 dX10_layPairs_137 rfl (ai_of (n := 18) rfl o37 o38 (by decide)) (fun h1 e39 => ?_)
        obtain ⟨m40, eg41⟩ : ∃ z : MS, z = mI m35 18 (m35 16 (x3).toNat).toNat (m35 15 (x2).toNat) := ⟨_, rfl⟩
        have hyp := hyp m40 eg41
        obtain rfl : h1 = hM m40 := by rw [e39, eg41]; exact rfl
        clear e39
        refine ex_iload_n 139 dX10_layPairs_138 rfl rfl ?_
        refine ex_iconst 140 dX10_layPairs_139 rfl ?_
        refine ex_iload_n 141 dX10_layPairs_140 rfl rfl ?_
        refine ex_ishl 142 dX10_layPairs_141 rfl ?_
        refine ex_ior 143 dX10_layPairs_142 rfl ?_
        refine q_istore_n [some (vr 0), some (vi (b_or x1 (b_shl 1 x3))), some (vi x2), some (vi x3)] 144 dX10_layPairs_143 rfl (Nat.le_of_ble_eq_true rfl) rfl rfl ?_
        refine ex_aload_n 145 dX10_layPairs_144 rfl rfl ?_
        refine ex_dup 146 dX10_layPairs_145 rfl rfl ?_
        refine q_getI 10 26 149 dX10_layPairs_146 rfl fiX10_206 (Or.inl rfl) ⟨_, rfl⟩ ?_
        refine ex_iconst 150 dX10_layPairs_149 rfl ?_
        refine ex_iadd 151 dX10_layPairs_150 rfl ?_
        refine q_putI 10 26 154 dX10_layPairs_151 rfl fiX10_206 ff10_26 rfl ⟨_, rfl⟩ (fun h1 e42 => ?_)
        obtain ⟨m43, eg44⟩ : ∃ z : MS, z = mI m40 0 26 ((m40 0 26) + 1) := ⟨_, rfl⟩
        have hyp := hyp m43 eg44
        obtain rfl : h1 = hM m43 := by rw [e42, eg44]; exact rfl
        clear e42
        refine q_iinc [some (vr 0), some (vi (b_or x1 (b_shl 1 x3))), some (vi (x2 + 1)), some (vi x3)] 157 dX10_layPairs_154 rfl rfl (Nat.le_of_ble_eq_true rfl) rfl rfl ?_
        refine ex_goto 50 dX10_layPairs_157 (by decide) ?_
        refine ex_dropL (ls' := [some (vr 0), some (vi (b_or x1 (b_shl 1 x3))), some (vi (x2 + 1)), none]) 3 rfl ?_
        exact hyp
    · have hyp := hf c46
      clear ht hf
      refine q_iinc [some (vr 0), some (vi x1), some (vi x2), some (vi (x3 + 1))] 93 dX10_layPairs_90 rfl rfl (Nat.le_of_ble_eq_true rfl) rfl rfl ?_
      refine ex_goto 60 dX10_layPairs_93 (by decide) ?_
      exact hyp
set_option maxRecDepth 4000 in
theorem uX10_beginLife {P : MS → Prop} (m0 : MS) (x1 : Int) (x2 : Int) (hyp : 0 ≤ m0 0 28 ∧ m0 0 28 < 18 ∧ ∀ m4 : MS, m4 = mI m0 19 (m0 0 28).toNat x1 → (0 ≤ m4 0 28 ∧ m4 0 28 < 18 ∧ ∀ m9 : MS, m9 = mI m4 20 (m4 0 28).toNat x2 → (0 ≤ m9 0 28 ∧ m9 0 28 < 18 ∧ ∀ m14 : MS, m14 = mI m9 21 (m9 0 28).toNat 0 → (rng x1 ∧ (x1 = (-1) → (rng x2 ∧ (x2 = (-1) → (∀ m19 : MS, m19 = mI m14 0 28 ((m14 0 28) + 1) → (P m19))) ∧ (¬ x2 = (-1) → (0 ≤ x2 ∧ x2 < 18 ∧ ∀ m24 : MS, m24 = mI m14 22 (x2).toNat (m14 0 28) → (∀ m27 : MS, m27 = mI m24 0 28 ((m24 0 28) + 1) → (P m27)))))) ∧ (¬ x1 = (-1) → (0 ≤ x1 ∧ x1 < 18 ∧ ∀ m33 : MS, m33 = mI m14 22 (x1).toNat (m14 0 28) → (rng x2 ∧ (x2 = (-1) → (∀ m37 : MS, m37 = mI m33 0 28 ((m33 0 28) + 1) → (P m37))) ∧ (¬ x2 = (-1) → (0 ≤ x2 ∧ x2 < 18 ∧ ∀ m42 : MS, m42 = mI m33 22 (x2).toNat (m33 0 28) → (∀ m45 : MS, m45 = mI m42 0 28 ((m42 0 28) + 1) → (P m45))))))))))) : MMv mX10_beginLife [vr 0, vi x1, vi x2] m0 P := by
  refine met_of_ex (by decide +kernel) (Nat.le_of_ble_eq_true rfl) ?_
  show EX mX10_beginLife 0 [some (vr 0), some (vi x1), some (vi x2)] [] (hM m0) (0, 0) _
  refine ex_aload_n 1 dX10_beginLife_0 rfl rfl ?_
  refine q_getR (a := 19) 10 29 4 dX10_beginLife_1 rfl fiX10_64 rfl ⟨_, rfl⟩ rfl ?_
  refine ex_aload_n 5 dX10_beginLife_4 rfl rfl ?_
  refine q_getI 10 28 8 dX10_beginLife_5 rfl fiX10_212 (Or.inl rfl) ⟨_, rfl⟩ ?_
  refine ex_iload_n 9 dX10_beginLife_8 rfl rfl ?_
  obtain ⟨o1, hyp⟩ := hyp
  obtain ⟨o2, hyp⟩ := hyp
  refine ex_iast 10 dX10_beginLife_9 rfl (ai_of (n := 18) rfl o1 o2 (by decide)) (fun h1 e3 => ?_)
  obtain ⟨m4, eg5⟩ : ∃ z : MS, z = mI m0 19 (m0 0 28).toNat x1 := ⟨_, rfl⟩
  have hyp := hyp m4 eg5
  obtain rfl : h1 = hM m4 := by rw [e3, eg5]; exact rfl
  clear e3
  refine ex_aload_n 11 dX10_beginLife_10 rfl rfl ?_
  refine q_getR (a := 20) 10 30 14 dX10_beginLife_11 rfl fiX10_67 rfl ⟨_, rfl⟩ rfl ?_
  refine ex_aload_n 15 dX10_beginLife_14 rfl rfl ?_
  refine q_getI 10 28 18 dX10_beginLife_15 rfl fiX10_212 (Or.inl rfl) ⟨_, rfl⟩ ?_
  refine ex_iload_n 19 dX10_beginLife_18 rfl rfl ?_
  obtain ⟨o6, hyp⟩ := hyp
  obtain ⟨o7, hyp⟩ := hyp
  refine ex_iast 20 dX10_beginLife_19 rfl (ai_of (n := 18) rfl o6 o7 (by decide)) (fun h1 e8 => ?_)
  obtain ⟨m9, eg10⟩ : ∃ z : MS, z = mI m4 20 (m4 0 28).toNat x2 := ⟨_, rfl⟩
  have hyp := hyp m9 eg10
  obtain rfl : h1 = hM m9 := by rw [e8, eg10]; exact rfl
  clear e8
  refine ex_aload_n 21 dX10_beginLife_20 rfl rfl ?_
  refine q_getR (a := 21) 10 31 24 dX10_beginLife_21 rfl fiX10_70 rfl ⟨_, rfl⟩ rfl ?_
  refine ex_aload_n 25 dX10_beginLife_24 rfl rfl ?_
  refine q_getI 10 28 28 dX10_beginLife_25 rfl fiX10_212 (Or.inl rfl) ⟨_, rfl⟩ ?_
  refine ex_iconst 29 dX10_beginLife_28 rfl ?_
  obtain ⟨o11, hyp⟩ := hyp
  obtain ⟨o12, hyp⟩ := hyp
  refine ex_iast 30 dX10_beginLife_29 rfl (ai_of (n := 18) rfl o11 o12 (by decide)) (fun h1 e13 => ?_)
  obtain ⟨m14, eg15⟩ : ∃ z : MS, z = mI m9 21 (m9 0 28).toNat 0 := ⟨_, rfl⟩
  have hyp := hyp m14 eg15
  obtain rfl : h1 = hM m14 := by rw [e13, eg15]; exact rfl
  clear e13
  refine ex_iload_n 31 dX10_beginLife_30 rfl rfl ?_
  refine ex_iconst 32 dX10_beginLife_31 rfl ?_
  obtain ⟨o16, hyp⟩ := hyp
  obtain ⟨ht, hf⟩ := hyp
  refine ex_icmp_eq 45 35 dX10_beginLife_32 (by decide) rfl o16 ⟨by decide, by decide⟩ (fun c48 => ?_) (fun c48 => ?_)
  · have hyp := ht c48
    clear ht hf
    refine ex_iload_n 46 dX10_beginLife_45 rfl rfl ?_
    refine ex_iconst 47 dX10_beginLife_46 rfl ?_
    obtain ⟨o17, hyp⟩ := hyp
    obtain ⟨ht, hf⟩ := hyp
    refine ex_icmp_eq 60 50 dX10_beginLife_47 (by decide) rfl o17 ⟨by decide, by decide⟩ (fun c29 => ?_) (fun c29 => ?_)
    · have hyp := ht c29
      clear ht hf
      refine ex_aload_n 61 dX10_beginLife_60 rfl rfl ?_
      refine ex_dup 62 dX10_beginLife_61 rfl rfl ?_
      refine q_getI 10 28 65 dX10_beginLife_62 rfl fiX10_212 (Or.inl rfl) ⟨_, rfl⟩ ?_
      refine ex_iconst 66 dX10_beginLife_65 rfl ?_
      refine ex_iadd 67 dX10_beginLife_66 rfl ?_
      refine q_putI 10 28 70 dX10_beginLife_67 rfl fiX10_212 ff10_28 rfl ⟨_, rfl⟩ (fun h1 e18 => ?_)
      obtain ⟨m19, eg20⟩ : ∃ z : MS, z = mI m14 0 28 ((m14 0 28) + 1) := ⟨_, rfl⟩
      have hyp := hyp m19 eg20
      obtain rfl : h1 = hM m19 := by rw [e18, eg20]; exact rfl
      clear e18
      exact ex_vret dX10_beginLife_70 rfl ⟨rfl, _, rfl, hyp⟩
    · have hyp := hf c29
      clear ht hf
      refine ex_aload_n 51 dX10_beginLife_50 rfl rfl ?_
      refine q_getR (a := 22) 10 32 54 dX10_beginLife_51 rfl fiX10_73 rfl ⟨_, rfl⟩ rfl ?_
      refine ex_iload_n 55 dX10_beginLife_54 rfl rfl ?_
      refine ex_aload_n 56 dX10_beginLife_55 rfl rfl ?_
      refine q_getI 10 28 59 dX10_beginLife_56 rfl fiX10_212 (Or.inl rfl) ⟨_, rfl⟩ ?_
      obtain ⟨o21, hyp⟩ := hyp
      obtain ⟨o22, hyp⟩ := hyp
      refine ex_iast 60 dX10_beginLife_59 rfl (ai_of (n := 18) rfl o21 o22 (by decide)) (fun h1 e23 => ?_)
      obtain ⟨m24, eg25⟩ : ∃ z : MS, z = mI m14 22 (x2).toNat (m14 0 28) := ⟨_, rfl⟩
      have hyp := hyp m24 eg25
      obtain rfl : h1 = hM m24 := by rw [e23, eg25]; exact rfl
      clear e23
      refine ex_aload_n 61 dX10_beginLife_60 rfl rfl ?_
      refine ex_dup 62 dX10_beginLife_61 rfl rfl ?_
      refine q_getI 10 28 65 dX10_beginLife_62 rfl fiX10_212 (Or.inl rfl) ⟨_, rfl⟩ ?_
      refine ex_iconst 66 dX10_beginLife_65 rfl ?_
      refine ex_iadd 67 dX10_beginLife_66 rfl ?_
      refine q_putI 10 28 70 dX10_beginLife_67 rfl fiX10_212 ff10_28 rfl ⟨_, rfl⟩ (fun h1 e26 => ?_)
      obtain ⟨m27, eg28⟩ : ∃ z : MS, z = mI m24 0 28 ((m24 0 28) + 1) := ⟨_, rfl⟩
      have hyp := hyp m27 eg28
      obtain rfl : h1 = hM m27 := by rw [e26, eg28]; exact rfl
      clear e26
      exact ex_vret dX10_beginLife_70 rfl ⟨rfl, _, rfl, hyp⟩
  · have hyp := hf c48
    clear ht hf
    refine ex_aload_n 36 dX10_beginLife_35 rfl rfl ?_
    refine q_getR (a := 22) 10 32 39 dX10_beginLife_36 rfl fiX10_73 rfl ⟨_, rfl⟩ rfl ?_
    refine ex_iload_n 40 dX10_beginLife_39 rfl rfl ?_
    refine ex_aload_n 41 dX10_beginLife_40 rfl rfl ?_
    refine q_getI 10 28 44 dX10_beginLife_41 rfl fiX10_212 (Or.inl rfl) ⟨_, rfl⟩ ?_
    obtain ⟨o30, hyp⟩ := hyp
    obtain ⟨o31, hyp⟩ := hyp
    refine ex_iast 45 dX10_beginLife_44 rfl (ai_of (n := 18) rfl o30 o31 (by decide)) (fun h1 e32 => ?_)
    obtain ⟨m33, eg34⟩ : ∃ z : MS, z = mI m14 22 (x1).toNat (m14 0 28) := ⟨_, rfl⟩
    have hyp := hyp m33 eg34
    obtain rfl : h1 = hM m33 := by rw [e32, eg34]; exact rfl
    clear e32
    refine ex_iload_n 46 dX10_beginLife_45 rfl rfl ?_
    refine ex_iconst 47 dX10_beginLife_46 rfl ?_
    obtain ⟨o35, hyp⟩ := hyp
    obtain ⟨ht, hf⟩ := hyp
    refine ex_icmp_eq 60 50 dX10_beginLife_47 (by decide) rfl o35 ⟨by decide, by decide⟩ (fun c47 => ?_) (fun c47 => ?_)
    · have hyp := ht c47
      clear ht hf
      refine ex_aload_n 61 dX10_beginLife_60 rfl rfl ?_
      refine ex_dup 62 dX10_beginLife_61 rfl rfl ?_
      refine q_getI 10 28 65 dX10_beginLife_62 rfl fiX10_212 (Or.inl rfl) ⟨_, rfl⟩ ?_
      refine ex_iconst 66 dX10_beginLife_65 rfl ?_
      refine ex_iadd 67 dX10_beginLife_66 rfl ?_
      refine q_putI 10 28 70 dX10_beginLife_67 rfl fiX10_212 ff10_28 rfl ⟨_, rfl⟩ (fun h1 e36 => ?_)
      obtain ⟨m37, eg38⟩ : ∃ z : MS, z = mI m33 0 28 ((m33 0 28) + 1) := ⟨_, rfl⟩
      have hyp := hyp m37 eg38
      obtain rfl : h1 = hM m37 := by rw [e36, eg38]; exact rfl
      clear e36
      exact ex_vret dX10_beginLife_70 rfl ⟨rfl, _, rfl, hyp⟩
    · have hyp := hf c47
      clear ht hf
      refine ex_aload_n 51 dX10_beginLife_50 rfl rfl ?_
      refine q_getR (a := 22) 10 32 54 dX10_beginLife_51 rfl fiX10_73 rfl ⟨_, rfl⟩ rfl ?_
      refine ex_iload_n 55 dX10_beginLife_54 rfl rfl ?_
      refine ex_aload_n 56 dX10_beginLife_55 rfl rfl ?_
      refine q_getI 10 28 59 dX10_beginLife_56 rfl fiX10_212 (Or.inl rfl) ⟨_, rfl⟩ ?_
      obtain ⟨o39, hyp⟩ := hyp
      obtain ⟨o40, hyp⟩ := hyp
      refine ex_iast 60 dX10_beginLife_59 rfl (ai_of (n := 18) rfl o39 o40 (by decide)) (fun h1 e41 => ?_)
      obtain ⟨m42, eg43⟩ : ∃ z : MS, z = mI m33 22 (x2).toNat (m33 0 28) := ⟨_, rfl⟩
      have hyp := hyp m42 eg43
      obtain rfl : h1 = hM m42 := by rw [e41, eg43]; exact rfl
      clear e41
      refine ex_aload_n 61 dX10_beginLife_60 rfl rfl ?_
      refine ex_dup 62 dX10_beginLife_61 rfl rfl ?_
      refine q_getI 10 28 65 dX10_beginLife_62 rfl fiX10_212 (Or.inl rfl) ⟨_, rfl⟩ ?_
      refine ex_iconst 66 dX10_beginLife_65 rfl ?_
      refine ex_iadd 67 dX10_beginLife_66 rfl ?_
      refine q_putI 10 28 70 dX10_beginLife_67 rfl fiX10_212 ff10_28 rfl ⟨_, rfl⟩ (fun h1 e44 => ?_)
      obtain ⟨m45, eg46⟩ : ∃ z : MS, z = mI m42 0 28 ((m42 0 28) + 1) := ⟨_, rfl⟩
      have hyp := hyp m45 eg46
      obtain rfl : h1 = hM m45 := by rw [e44, eg46]; exact rfl
      clear e44
      exact ex_vret dX10_beginLife_70 rfl ⟨rfl, _, rfl, hyp⟩
set_option maxRecDepth 4000 in
theorem uX10_layFirstLives {P : MS → Prop} (m0 : MS)  (hyp : MMv mX10_layPairs [vr 0] m0 (fun m1 => ∀ m3 : MS, m3 = mI m1 0 28 0 → (YYv mX10_layFirstLives 11 [some (vr 0), some (vi 0)] [] m3 P))) : MMv mX10_layFirstLives [vr 0] m0 P := by
  refine met_of_ex (by decide +kernel) (Nat.le_of_ble_eq_true rfl) ?_
  show EX mX10_layFirstLives 0 [some (vr 0), none] [] (hM m0) (0, 0) _
  refine ex_aload_n 1 dX10_layFirstLives_0 rfl rfl ?_
  refine s_callVv [] 4 dX10_layFirstLives_1 rfl cvX10_215 rfl rfl ⟨Nat.le_of_ble_eq_true rfl, Nat.le_of_ble_eq_true rfl⟩ (Nat.le_of_ble_eq_true rfl) ⟨_, rfl⟩ hyp (fun h1 hq => ?_)
  obtain ⟨m1, rfl, hyp⟩ := hq
  refine ex_aload_n 5 dX10_layFirstLives_4 rfl rfl ?_
  refine ex_iconst 6 dX10_layFirstLives_5 rfl ?_
  refine q_putI 10 28 9 dX10_layFirstLives_6 rfl fiX10_212 ff10_28 rfl ⟨_, rfl⟩ (fun h1 e2 => ?_)
  obtain ⟨m3, eg4⟩ : ∃ z : MS, z = mI m1 0 28 0 := ⟨_, rfl⟩
  have hyp := hyp m3 eg4
  obtain rfl : h1 = hM m3 := by rw [e2, eg4]; exact rfl
  clear e2
  refine ex_iconst 10 dX10_layFirstLives_9 rfl ?_
  refine q_istore_n [some (vr 0), some (vi 0)] 11 dX10_layFirstLives_10 rfl (Nat.le_of_ble_eq_true rfl) rfl rfl ?_
  exact hyp
set_option maxRecDepth 4000 in
theorem uX10_layFirstLives_11 {P : MS → Prop} (m0 : MS) (x1 : Int) (hyp : rng x1 ∧ rng (m0 0 20) ∧ (m0 0 20 ≤ x1 → (YYv mX10_layFirstLives 48 [some (vr 0), some (vi 0)] [] m0 P)) ∧ (x1 < m0 0 20 → (0 ≤ x1 ∧ x1 < 7 ∧ 0 ≤ m0 15 (x1).toNat ∧ m0 15 (x1).toNat < 18 ∧ MMv mX10_beginLife [vr 0, vi (m0 15 (x1).toNat), vi (m0 18 (m0 15 (x1).toNat).toNat)] m0 (fun m7 => YYv mX10_layFirstLives 11 [some (vr 0), some (vi (x1 + 1))] [] m7 P)))) : YYv mX10_layFirstLives 11 [some (vr 0), some (vi x1)] [] m0 P := by
  refine ex_iload_n 12 dX10_layFirstLives_11 rfl rfl ?_
  refine ex_aload_n 13 dX10_layFirstLives_12 rfl rfl ?_
  refine q_getI 10 20 16 dX10_layFirstLives_13 rfl fiX10_191 (Or.inl rfl) ⟨_, rfl⟩ ?_
  obtain ⟨o1, hyp⟩ := hyp
  obtain ⟨o2, hyp⟩ := hyp
  obtain ⟨ht, hf⟩ := hyp
  refine ex_icmp_ge 46 19 dX10_layFirstLives_16 (by decide) rfl o1 o2 (fun c8 => ?_) (fun c8 => ?_)
  · have hyp := ht c8
    clear ht hf
    refine ex_iconst 47 dX10_layFirstLives_46 rfl ?_
    refine q_istore_n [some (vr 0), some (vi 0)] 48 dX10_layFirstLives_47 rfl (Nat.le_of_ble_eq_true rfl) rfl rfl ?_
    exact hyp
  · have hyp := hf c8
    clear ht hf
    refine ex_aload_n 20 dX10_layFirstLives_19 rfl rfl ?_
    refine ex_aload_n 21 dX10_layFirstLives_20 rfl rfl ?_
    refine q_getR (a := 15) 10 22 24 dX10_layFirstLives_21 rfl fiX10_52 rfl ⟨_, rfl⟩ rfl ?_
    refine ex_iload_n 25 dX10_layFirstLives_24 rfl rfl ?_
    obtain ⟨o3, hyp⟩ := hyp
    obtain ⟨o4, hyp⟩ := hyp
    refine ex_iald 26 dX10_layFirstLives_25 rfl (ai_of (n := 7) rfl o3 o4 (by decide)) ?_
    refine ex_aload_n 27 dX10_layFirstLives_26 rfl rfl ?_
    refine q_getR (a := 18) 10 25 30 dX10_layFirstLives_27 rfl fiX10_61 rfl ⟨_, rfl⟩ rfl ?_
    refine ex_aload_n 31 dX10_layFirstLives_30 rfl rfl ?_
    refine q_getR (a := 15) 10 22 34 dX10_layFirstLives_31 rfl fiX10_52 rfl ⟨_, rfl⟩ rfl ?_
    refine ex_iload_n 35 dX10_layFirstLives_34 rfl rfl ?_
    refine ex_iald 36 dX10_layFirstLives_35 rfl (ai_of (n := 7) rfl o3 o4 (by decide)) ?_
    obtain ⟨o5, hyp⟩ := hyp
    obtain ⟨o6, hyp⟩ := hyp
    refine ex_iald 37 dX10_layFirstLives_36 rfl (ai_of (n := 18) rfl o5 o6 (by decide)) ?_
    refine s_callVv [vi (m0 15 (x1).toNat), vi (m0 18 (m0 15 (x1).toNat).toNat)] 40 dX10_layFirstLives_37 rfl cvX10_218 rfl rfl ⟨Nat.le_of_ble_eq_true rfl, Nat.le_of_ble_eq_true rfl⟩ (Nat.le_of_ble_eq_true rfl) ⟨_, rfl⟩ hyp (fun h1 hq => ?_)
    obtain ⟨m7, rfl, hyp⟩ := hq
    refine q_iinc [some (vr 0), some (vi (x1 + 1))] 43 dX10_layFirstLives_40 rfl rfl (Nat.le_of_ble_eq_true rfl) rfl rfl ?_
    refine ex_goto 11 dX10_layFirstLives_43 (by decide) ?_
    exact hyp
set_option maxRecDepth 4000 in
theorem uX10_layFirstLives_48 {P : MS → Prop} (m0 : MS) (x1 : Int) (hyp : rng x1 ∧ rng (m0 0 21) ∧ (m0 0 21 ≤ x1 → (YYv mX10_layFirstLives 90 [some (vr 0), some (vi 0)] [] m0 P)) ∧ (x1 < m0 0 21 → (0 ≤ x1 ∧ x1 < 7 ∧ 0 ≤ m0 16 (x1).toNat ∧ m0 16 (x1).toNat < 18 ∧ rng (m0 18 (m0 16 (x1).toNat).toNat) ∧ (¬ m0 18 (m0 16 (x1).toNat).toNat = (-1) → (YYv mX10_layFirstLives 48 [some (vr 0), some (vi (x1 + 1))] [] m0 P)) ∧ (m0 18 (m0 16 (x1).toNat).toNat = (-1) → (MMv mX10_beginLife [vr 0, vi (-1), vi (m0 16 (x1).toNat)] m0 (fun m8 => YYv mX10_layFirstLives 48 [some (vr 0), some (vi (x1 + 1))] [] m8 P)))))) : YYv mX10_layFirstLives 48 [some (vr 0), some (vi x1)] [] m0 P := by
  refine ex_iload_n 49 dX10_layFirstLives_48 rfl rfl ?_
  refine ex_aload_n 50 dX10_layFirstLives_49 rfl rfl ?_
  refine q_getI 10 21 53 dX10_layFirstLives_50 rfl fiX10_194 (Or.inl rfl) ⟨_, rfl⟩ ?_
  obtain ⟨o1, hyp⟩ := hyp
  obtain ⟨o2, hyp⟩ := hyp
  obtain ⟨ht, hf⟩ := hyp
  refine ex_icmp_ge 88 56 dX10_layFirstLives_53 (by decide) rfl o1 o2 (fun c10 => ?_) (fun c10 => ?_)
  · have hyp := ht c10
    clear ht hf
    refine ex_iconst 89 dX10_layFirstLives_88 rfl ?_
    refine q_istore_n [some (vr 0), some (vi 0)] 90 dX10_layFirstLives_89 rfl (Nat.le_of_ble_eq_true rfl) rfl rfl ?_
    exact hyp
  · have hyp := hf c10
    clear ht hf
    refine ex_aload_n 57 dX10_layFirstLives_56 rfl rfl ?_
    refine q_getR (a := 18) 10 25 60 dX10_layFirstLives_57 rfl fiX10_61 rfl ⟨_, rfl⟩ rfl ?_
    refine ex_aload_n 61 dX10_layFirstLives_60 rfl rfl ?_
    refine q_getR (a := 16) 10 23 64 dX10_layFirstLives_61 rfl fiX10_55 rfl ⟨_, rfl⟩ rfl ?_
    refine ex_iload_n 65 dX10_layFirstLives_64 rfl rfl ?_
    obtain ⟨o3, hyp⟩ := hyp
    obtain ⟨o4, hyp⟩ := hyp
    refine ex_iald 66 dX10_layFirstLives_65 rfl (ai_of (n := 7) rfl o3 o4 (by decide)) ?_
    obtain ⟨o5, hyp⟩ := hyp
    obtain ⟨o6, hyp⟩ := hyp
    refine ex_iald 67 dX10_layFirstLives_66 rfl (ai_of (n := 18) rfl o5 o6 (by decide)) ?_
    refine ex_iconst 68 dX10_layFirstLives_67 rfl ?_
    obtain ⟨o7, hyp⟩ := hyp
    obtain ⟨ht, hf⟩ := hyp
    refine ex_icmp_ne 82 71 dX10_layFirstLives_68 (by decide) rfl o7 ⟨by decide, by decide⟩ (fun c9 => ?_) (fun c9 => ?_)
    · have hyp := ht c9
      clear ht hf
      refine q_iinc [some (vr 0), some (vi (x1 + 1))] 85 dX10_layFirstLives_82 rfl rfl (Nat.le_of_ble_eq_true rfl) rfl rfl ?_
      refine ex_goto 48 dX10_layFirstLives_85 (by decide) ?_
      exact hyp
    · have hyp := hf c9
      clear ht hf
      refine ex_aload_n 72 dX10_layFirstLives_71 rfl rfl ?_
      refine ex_iconst 73 dX10_layFirstLives_72 rfl ?_
      refine ex_aload_n 74 dX10_layFirstLives_73 rfl rfl ?_
      refine q_getR (a := 16) 10 23 77 dX10_layFirstLives_74 rfl fiX10_55 rfl ⟨_, rfl⟩ rfl ?_
      refine ex_iload_n 78 dX10_layFirstLives_77 rfl rfl ?_
      refine ex_iald 79 dX10_layFirstLives_78 rfl (ai_of (n := 7) rfl o3 o4 (by decide)) ?_
      refine s_callVv [vi (-1), vi (m0 16 (x1).toNat)] 82 dX10_layFirstLives_79 rfl cvX10_218 rfl rfl ⟨Nat.le_of_ble_eq_true rfl, Nat.le_of_ble_eq_true rfl⟩ (Nat.le_of_ble_eq_true rfl) ⟨_, rfl⟩ hyp (fun h1 hq => ?_)
      obtain ⟨m8, rfl, hyp⟩ := hq
      refine q_iinc [some (vr 0), some (vi (x1 + 1))] 85 dX10_layFirstLives_82 rfl rfl (Nat.le_of_ble_eq_true rfl) rfl rfl ?_
      refine ex_goto 48 dX10_layFirstLives_85 (by decide) ?_
      exact hyp
set_option maxRecDepth 4000 in
theorem uX10_layFirstLives_90 {P : MS → Prop} (m0 : MS) (x1 : Int) (hyp : rng x1 ∧ rng (m0 0 2) ∧ (m0 0 2 ≤ x1 → (P m0)) ∧ (x1 < m0 0 2 → (0 ≤ x1 ∧ x1 < 18 ∧ rng (m0 2 (x1).toNat) ∧ (¬ m0 2 (x1).toNat = 1 → (∀ m7 : MS, m7 = mI m0 22 (x1).toNat (m0 22 (x1).toNat) → (YYv mX10_layFirstLives 90 [some (vr 0), some (vi (x1 + 1))] [] m7 P))) ∧ (m0 2 (x1).toNat = 1 → (∀ m10 : MS, m10 = mI m0 22 (x1).toNat (-1) → (YYv mX10_layFirstLives 90 [some (vr 0), some (vi (x1 + 1))] [] m10 P)))))) : YYv mX10_layFirstLives 90 [some (vr 0), some (vi x1)] [] m0 P := by
  refine ex_iload_n 91 dX10_layFirstLives_90 rfl rfl ?_
  refine ex_aload_n 92 dX10_layFirstLives_91 rfl rfl ?_
  refine q_getI 10 2 95 dX10_layFirstLives_92 rfl fiX10_118 (Or.inl rfl) ⟨_, rfl⟩ ?_
  obtain ⟨o1, hyp⟩ := hyp
  obtain ⟨o2, hyp⟩ := hyp
  obtain ⟨ht, hf⟩ := hyp
  refine ex_icmp_ge 130 98 dX10_layFirstLives_95 (by decide) rfl o1 o2 (fun c13 => ?_) (fun c13 => ?_)
  · have hyp := ht c13
    clear ht hf
    exact ex_vret dX10_layFirstLives_130 rfl ⟨rfl, _, rfl, hyp⟩
  · have hyp := hf c13
    clear ht hf
    refine ex_aload_n 99 dX10_layFirstLives_98 rfl rfl ?_
    refine q_getR (a := 22) 10 32 102 dX10_layFirstLives_99 rfl fiX10_73 rfl ⟨_, rfl⟩ rfl ?_
    refine ex_iload_n 103 dX10_layFirstLives_102 rfl rfl ?_
    refine ex_aload_n 104 dX10_layFirstLives_103 rfl rfl ?_
    refine q_getR (a := 2) 10 3 107 dX10_layFirstLives_104 rfl fiX10_13 rfl ⟨_, rfl⟩ rfl ?_
    refine ex_iload_n 108 dX10_layFirstLives_107 rfl rfl ?_
    obtain ⟨o3, hyp⟩ := hyp
    obtain ⟨o4, hyp⟩ := hyp
    refine ex_iald 109 dX10_layFirstLives_108 rfl (ai_of (n := 18) rfl o3 o4 (by decide)) ?_
    refine ex_iconst 110 dX10_layFirstLives_109 rfl ?_
    obtain ⟨o5, hyp⟩ := hyp
    obtain ⟨ht, hf⟩ := hyp
    refine ex_icmp_ne 117 113 dX10_layFirstLives_110 (by decide) rfl o5 ⟨by decide, by decide⟩ (fun c12 => ?_) (fun c12 => ?_)
    · have hyp := ht c12
      clear ht hf
      refine ex_aload_n 118 dX10_layFirstLives_117 rfl rfl ?_
      refine q_getR (a := 22) 10 32 121 dX10_layFirstLives_118 rfl fiX10_73 rfl ⟨_, rfl⟩ rfl ?_
      refine ex_iload_n 122 dX10_layFirstLives_121 rfl rfl ?_
      refine ex_iald 123 dX10_layFirstLives_122 rfl (ai_of (n := 18) rfl o3 o4 (by decide)) ?_
      refine ex_iast 124 dX10_layFirstLives_123 rfl (ai_of (n := 18) rfl o3 o4 (by decide)) (fun h1 e6 => ?_)
      obtain ⟨m7, eg8⟩ : ∃ z : MS, z = mI m0 22 (x1).toNat (m0 22 (x1).toNat) := ⟨_, rfl⟩
      have hyp := hyp m7 eg8
      obtain rfl : h1 = hM m7 := by rw [e6, eg8]; exact rfl
      clear e6
      refine q_iinc [some (vr 0), some (vi (x1 + 1))] 127 dX10_layFirstLives_124 rfl rfl (Nat.le_of_ble_eq_true rfl) rfl rfl ?_
      refine ex_goto 90 dX10_layFirstLives_127 (by decide) ?_
      exact hyp
    · have hyp := hf c12
      clear ht hf
      refine ex_iconst 114 dX10_layFirstLives_113 rfl ?_
      refine ex_goto 123 dX10_layFirstLives_114 (by decide) ?_
      refine ex_iast 124 dX10_layFirstLives_123 rfl (ai_of (n := 18) rfl o3 o4 (by decide)) (fun h1 e9 => ?_)
      obtain ⟨m10, eg11⟩ : ∃ z : MS, z = mI m0 22 (x1).toNat (-1) := ⟨_, rfl⟩
      have hyp := hyp m10 eg11
      obtain rfl : h1 = hM m10 := by rw [e9, eg11]; exact rfl
      clear e9
      refine q_iinc [some (vr 0), some (vi (x1 + 1))] 127 dX10_layFirstLives_124 rfl rfl (Nat.le_of_ble_eq_true rfl) rfl rfl ?_
      refine ex_goto 90 dX10_layFirstLives_127 (by decide) ?_
      exact hyp
set_option maxRecDepth 4000 in
theorem uX10_isOf {P : Int → MS → Prop} (m0 : MS) (x1 : Int) (x2 : Int) (hyp : 0 ≤ x1 ∧ x1 < 18 ∧ rng (m0 22 (x1).toNat) ∧ rng x2 ∧ (¬ m0 22 (x1).toNat = x2 → (P 0 m0)) ∧ (m0 22 (x1).toNat = x2 → (P 1 m0))) : MMi mX10_isOf [vr 0, vi x1, vi x2] m0 P := by
  refine met_of_ex (by decide +kernel) (Nat.le_of_ble_eq_true rfl) ?_
  show EX mX10_isOf 0 [some (vr 0), some (vi x1), some (vi x2)] [] (hM m0) (0, 0) _
  refine ex_aload_n 1 dX10_isOf_0 rfl rfl ?_
  refine q_getR (a := 22) 10 32 4 dX10_isOf_1 rfl fiX10_73 rfl ⟨_, rfl⟩ rfl ?_
  refine ex_iload_n 5 dX10_isOf_4 rfl rfl ?_
  obtain ⟨o1, hyp⟩ := hyp
  obtain ⟨o2, hyp⟩ := hyp
  refine ex_iald 6 dX10_isOf_5 rfl (ai_of (n := 18) rfl o1 o2 (by decide)) ?_
  refine ex_iload_n 7 dX10_isOf_6 rfl rfl ?_
  obtain ⟨o3, hyp⟩ := hyp
  obtain ⟨o4, hyp⟩ := hyp
  obtain ⟨ht, hf⟩ := hyp
  refine ex_icmp_ne 14 10 dX10_isOf_7 (by decide) rfl o3 o4 (fun c5 => ?_) (fun c5 => ?_)
  · have hyp := ht c5
    clear ht hf
    refine ex_iconst 15 dX10_isOf_14 rfl ?_
    exact ex_iret dX10_isOf_15 (Or.inr ⟨rfl, Or.inl rfl⟩) ⟨_, rfl, _, rfl, hyp⟩
  · have hyp := hf c5
    clear ht hf
    refine ex_iconst 11 dX10_isOf_10 rfl ?_
    refine ex_goto 15 dX10_isOf_11 (by decide) ?_
    exact ex_iret dX10_isOf_15 (Or.inr ⟨rfl, Or.inr rfl⟩) ⟨_, rfl, _, rfl, hyp⟩
set_option maxRecDepth 4000 in
theorem uX10_canGo {P : Int → MS → Prop} (m0 : MS) (x1 : Int) (x2 : Int) (hyp : 0 ≤ x2 ∧ x2 < 18 ∧ rng (m0 21 (x2).toNat) ∧ (3 ≤ m0 21 (x2).toNat → (YYi mX10_canGo 19 [some (vr 0), some (vi x1), some (vi x2), some (vi 0), some (vi 0)] [] m0 P)) ∧ (m0 21 (x2).toNat < 3 → (YYi mX10_canGo 19 [some (vr 0), some (vi x1), some (vi x2), some (vi 1), some (vi 0)] [] m0 P))) : MMi mX10_canGo [vr 0, vi x1, vi x2] m0 P := by
  refine met_of_ex (by decide +kernel) (Nat.le_of_ble_eq_true rfl) ?_
  show EX mX10_canGo 0 [some (vr 0), some (vi x1), some (vi x2), none, none] [] (hM m0) (0, 0) _
  refine ex_aload_n 1 dX10_canGo_0 rfl rfl ?_
  refine q_getR (a := 21) 10 31 4 dX10_canGo_1 rfl fiX10_70 rfl ⟨_, rfl⟩ rfl ?_
  refine ex_iload_n 5 dX10_canGo_4 rfl rfl ?_
  obtain ⟨o1, hyp⟩ := hyp
  obtain ⟨o2, hyp⟩ := hyp
  refine ex_iald 6 dX10_canGo_5 rfl (ai_of (n := 18) rfl o1 o2 (by decide)) ?_
  refine ex_iconst 7 dX10_canGo_6 rfl ?_
  obtain ⟨o3, hyp⟩ := hyp
  obtain ⟨ht, hf⟩ := hyp
  refine ex_icmp_ge 14 10 dX10_canGo_7 (by decide) rfl o3 ⟨by decide, by decide⟩ (fun c4 => ?_) (fun c4 => ?_)
  · have hyp := ht c4
    clear ht hf
    refine ex_iconst 15 dX10_canGo_14 rfl ?_
    refine q_istore_n [some (vr 0), some (vi x1), some (vi x2), some (vi 0), none] 16 dX10_canGo_15 rfl (Nat.le_of_ble_eq_true rfl) rfl rfl ?_
    refine ex_iconst 17 dX10_canGo_16 rfl ?_
    refine q_istore [some (vr 0), some (vi x1), some (vi x2), some (vi 0), some (vi 0)] 19 dX10_canGo_17 rfl (Nat.le_of_ble_eq_true rfl) rfl rfl ?_
    exact hyp
  · have hyp := hf c4
    clear ht hf
    refine ex_iconst 11 dX10_canGo_10 rfl ?_
    refine ex_goto 15 dX10_canGo_11 (by decide) ?_
    refine q_istore_n [some (vr 0), some (vi x1), some (vi x2), some (vi 1), none] 16 dX10_canGo_15 rfl (Nat.le_of_ble_eq_true rfl) rfl rfl ?_
    refine ex_iconst 17 dX10_canGo_16 rfl ?_
    refine q_istore [some (vr 0), some (vi x1), some (vi x2), some (vi 1), some (vi 0)] 19 dX10_canGo_17 rfl (Nat.le_of_ble_eq_true rfl) rfl rfl ?_
    exact hyp
set_option maxRecDepth 4000 in
theorem uX10_canGo_19 {P : Int → MS → Prop} (m0 : MS) (x1 : Int) (x2 : Int) (x3 : Int) (x4 : Int) (hyp : rng x4 ∧ rng (m0 0 2) ∧ (m0 0 2 ≤ x4 → ((x3 = 0 ∨ x3 = 1) ∧ P x3 m0)) ∧ (x4 < m0 0 2 → (rng x3 ∧ (x3 = 0 → (YYi mX10_canGo 19 [some (vr 0), some (vi x1), some (vi x2), some (vi 0), some (vi (x4 + 1))] [] m0 P)) ∧ (¬ x3 = 0 → (MMi mX10_isOf [vr 0, vi x4, vi x2] m0 (fun y5 m4 => rng y5 ∧ (y5 = 0 → (YYi mX10_canGo 19 [some (vr 0), some (vi x1), some (vi x2), some (vi 1), some (vi (x4 + 1))] [] m4 P)) ∧ (¬ y5 = 0 → (MMi mX10_isFit [vr 0, vi x1, vi x4] m4 (fun y8 m7 => rng y8 ∧ (y8 = 0 → (YYi mX10_canGo 19 [some (vr 0), some (vi x1), some (vi x2), some (vi 0), some (vi (x4 + 1))] [] m7 P)) ∧ (¬ y8 = 0 → (YYi mX10_canGo 19 [some (vr 0), some (vi x1), some (vi x2), some (vi 1), some (vi (x4 + 1))] [] m7 P))))))))))) : YYi mX10_canGo 19 [some (vr 0), some (vi x1), some (vi x2), some (vi x3), some (vi x4)] [] m0 P := by
  refine ex_iload 21 dX10_canGo_19 rfl rfl ?_
  refine ex_aload_n 22 dX10_canGo_21 rfl rfl ?_
  refine q_getI 10 2 25 dX10_canGo_22 rfl fiX10_118 (Or.inl rfl) ⟨_, rfl⟩ ?_
  obtain ⟨o1, hyp⟩ := hyp
  obtain ⟨o2, hyp⟩ := hyp
  obtain ⟨ht, hf⟩ := hyp
  refine ex_icmp_ge 64 28 dX10_canGo_25 (by decide) rfl o1 o2 (fun c13 => ?_) (fun c13 => ?_)
  · have hyp := ht c13
    clear ht hf
    refine ex_iload_n 65 dX10_canGo_64 rfl rfl ?_
    exact ex_iret dX10_canGo_65 (Or.inr ⟨rfl, hyp.1⟩) ⟨_, rfl, _, rfl, hyp.2⟩
  · have hyp := hf c13
    clear ht hf
    refine ex_iload_n 29 dX10_canGo_28 rfl rfl ?_
    obtain ⟨o3, hyp⟩ := hyp
    obtain ⟨ht, hf⟩ := hyp
    refine ex_if_eq 56 32 dX10_canGo_29 (by decide) rfl o3 (fun c12 => ?_) (fun c12 => ?_)
    · have hyp := ht c12
      clear ht hf
      refine ex_iconst 57 dX10_canGo_56 rfl ?_
      refine q_istore_n [some (vr 0), some (vi x1), some (vi x2), some (vi 0), some (vi x4)] 58 dX10_canGo_57 rfl (Nat.le_of_ble_eq_true rfl) rfl rfl ?_
      refine q_iinc [some (vr 0), some (vi x1), some (vi x2), some (vi 0), some (vi (x4 + 1))] 61 dX10_canGo_58 rfl rfl (Nat.le_of_ble_eq_true rfl) rfl rfl ?_
      refine ex_goto 19 dX10_canGo_61 (by decide) ?_
      exact hyp
    · have hyp := hf c12
      clear ht hf
      refine ex_aload_n 33 dX10_canGo_32 rfl rfl ?_
      refine ex_iload 35 dX10_canGo_33 rfl rfl ?_
      refine ex_iload_n 36 dX10_canGo_35 rfl rfl ?_
      refine s_callVi [vi x4, vi x2] 39 dX10_canGo_36 rfl cvX10_222 rfl rfl ⟨Nat.le_of_ble_eq_true rfl, Nat.le_of_ble_eq_true rfl⟩ (Nat.le_of_ble_eq_true rfl) ⟨_, rfl⟩ hyp (fun y5 h1 hq => ?_)
      obtain ⟨m4, rfl, hyp⟩ := hq
      obtain ⟨o6, hyp⟩ := hyp
      obtain ⟨ht, hf⟩ := hyp
      refine ex_if_eq 52 42 dX10_canGo_39 (by decide) rfl o6 (fun c11 => ?_) (fun c11 => ?_)
      · have hyp := ht c11
        clear ht hf
        refine ex_iconst 53 dX10_canGo_52 rfl ?_
        refine ex_goto 57 dX10_canGo_53 (by decide) ?_
        refine q_istore_n [some (vr 0), some (vi x1), some (vi x2), some (vi 1), some (vi x4)] 58 dX10_canGo_57 rfl (Nat.le_of_ble_eq_true rfl) rfl rfl ?_
        refine q_iinc [some (vr 0), some (vi x1), some (vi x2), some (vi 1), some (vi (x4 + 1))] 61 dX10_canGo_58 rfl rfl (Nat.le_of_ble_eq_true rfl) rfl rfl ?_
        refine ex_goto 19 dX10_canGo_61 (by decide) ?_
        exact hyp
      · have hyp := hf c11
        clear ht hf
        refine ex_aload_n 43 dX10_canGo_42 rfl rfl ?_
        refine ex_iload_n 44 dX10_canGo_43 rfl rfl ?_
        refine ex_iload 46 dX10_canGo_44 rfl rfl ?_
        refine s_callVi [vi x1, vi x4] 49 dX10_canGo_46 rfl cvX10_172 rfl rfl ⟨Nat.le_of_ble_eq_true rfl, Nat.le_of_ble_eq_true rfl⟩ (Nat.le_of_ble_eq_true rfl) ⟨_, rfl⟩ hyp (fun y8 h1 hq => ?_)
        obtain ⟨m7, rfl, hyp⟩ := hq
        obtain ⟨o9, hyp⟩ := hyp
        obtain ⟨ht, hf⟩ := hyp
        refine ex_if_eq 56 52 dX10_canGo_49 (by decide) rfl o9 (fun c10 => ?_) (fun c10 => ?_)
        · have hyp := ht c10
          clear ht hf
          refine ex_iconst 57 dX10_canGo_56 rfl ?_
          refine q_istore_n [some (vr 0), some (vi x1), some (vi x2), some (vi 0), some (vi x4)] 58 dX10_canGo_57 rfl (Nat.le_of_ble_eq_true rfl) rfl rfl ?_
          refine q_iinc [some (vr 0), some (vi x1), some (vi x2), some (vi 0), some (vi (x4 + 1))] 61 dX10_canGo_58 rfl rfl (Nat.le_of_ble_eq_true rfl) rfl rfl ?_
          refine ex_goto 19 dX10_canGo_61 (by decide) ?_
          exact hyp
        · have hyp := hf c10
          clear ht hf
          refine ex_iconst 53 dX10_canGo_52 rfl ?_
          refine ex_goto 57 dX10_canGo_53 (by decide) ?_
          refine q_istore_n [some (vr 0), some (vi x1), some (vi x2), some (vi 1), some (vi x4)] 58 dX10_canGo_57 rfl (Nat.le_of_ble_eq_true rfl) rfl rfl ?_
          refine q_iinc [some (vr 0), some (vi x1), some (vi x2), some (vi 1), some (vi (x4 + 1))] 61 dX10_canGo_58 rfl rfl (Nat.le_of_ble_eq_true rfl) rfl rfl ?_
          refine ex_goto 19 dX10_canGo_61 (by decide) ?_
          exact hyp
set_option maxRecDepth 4000 in
theorem uX10_worthAt {P : Int → MS → Prop} (m0 : MS) (x1 : Int) (x2 : Int) (hyp : 0 ≤ x2 ∧ x2 < 18 ∧ rng (m0 19 (x2).toNat) ∧ (¬ m0 19 (x2).toNat = (-1) → (YYi mX10_worthAt 35 [some (vr 0), some (vi x1), some (vi x2), some (vi 0), some (vi 0), some (vi 0), some (vi 0)] [] m0 P)) ∧ (m0 19 (x2).toNat = (-1) → (rng (m0 20 (x2).toNat) ∧ (¬ m0 20 (x2).toNat = (-1) → (YYi mX10_worthAt 35 [some (vr 0), some (vi x1), some (vi x2), some (vi 0), some (vi 0), some (vi 0), some (vi 0)] [] m0 P)) ∧ (m0 20 (x2).toNat = (-1) → (YYi mX10_worthAt 35 [some (vr 0), some (vi x1), some (vi x2), some (vi 1), some (vi 0), some (vi 0), some (vi 0)] [] m0 P))))) : MMi mX10_worthAt [vr 0, vi x1, vi x2] m0 P := by
  refine met_of_ex (by decide +kernel) (Nat.le_of_ble_eq_true rfl) ?_
  show EX mX10_worthAt 0 [some (vr 0), some (vi x1), some (vi x2), none, none, none, none] [] (hM m0) (0, 0) _
  refine ex_aload_n 1 dX10_worthAt_0 rfl rfl ?_
  refine q_getR (a := 19) 10 29 4 dX10_worthAt_1 rfl fiX10_64 rfl ⟨_, rfl⟩ rfl ?_
  refine ex_iload_n 5 dX10_worthAt_4 rfl rfl ?_
  obtain ⟨o1, hyp⟩ := hyp
  obtain ⟨o2, hyp⟩ := hyp
  refine ex_iald 6 dX10_worthAt_5 rfl (ai_of (n := 18) rfl o1 o2 (by decide)) ?_
  refine ex_iconst 7 dX10_worthAt_6 rfl ?_
  obtain ⟨o3, hyp⟩ := hyp
  obtain ⟨ht, hf⟩ := hyp
  refine ex_icmp_ne 24 10 dX10_worthAt_7 (by decide) rfl o3 ⟨by decide, by decide⟩ (fun c6 => ?_) (fun c6 => ?_)
  · have hyp := ht c6
    clear ht hf
    refine ex_iconst 25 dX10_worthAt_24 rfl ?_
    refine q_istore_n [some (vr 0), some (vi x1), some (vi x2), some (vi 0), none, none, none] 26 dX10_worthAt_25 rfl (Nat.le_of_ble_eq_true rfl) rfl rfl ?_
    refine ex_iconst 27 dX10_worthAt_26 rfl ?_
    refine q_istore [some (vr 0), some (vi x1), some (vi x2), some (vi 0), some (vi 0), none, none] 29 dX10_worthAt_27 rfl (Nat.le_of_ble_eq_true rfl) rfl rfl ?_
    refine ex_iconst 30 dX10_worthAt_29 rfl ?_
    refine q_istore [some (vr 0), some (vi x1), some (vi x2), some (vi 0), some (vi 0), some (vi 0), none] 32 dX10_worthAt_30 rfl (Nat.le_of_ble_eq_true rfl) rfl rfl ?_
    refine ex_iconst 33 dX10_worthAt_32 rfl ?_
    refine q_istore [some (vr 0), some (vi x1), some (vi x2), some (vi 0), some (vi 0), some (vi 0), some (vi 0)] 35 dX10_worthAt_33 rfl (Nat.le_of_ble_eq_true rfl) rfl rfl ?_
    exact hyp
  · have hyp := hf c6
    clear ht hf
    refine ex_aload_n 11 dX10_worthAt_10 rfl rfl ?_
    refine q_getR (a := 20) 10 30 14 dX10_worthAt_11 rfl fiX10_67 rfl ⟨_, rfl⟩ rfl ?_
    refine ex_iload_n 15 dX10_worthAt_14 rfl rfl ?_
    refine ex_iald 16 dX10_worthAt_15 rfl (ai_of (n := 18) rfl o1 o2 (by decide)) ?_
    refine ex_iconst 17 dX10_worthAt_16 rfl ?_
    obtain ⟨o4, hyp⟩ := hyp
    obtain ⟨ht, hf⟩ := hyp
    refine ex_icmp_ne 24 20 dX10_worthAt_17 (by decide) rfl o4 ⟨by decide, by decide⟩ (fun c5 => ?_) (fun c5 => ?_)
    · have hyp := ht c5
      clear ht hf
      refine ex_iconst 25 dX10_worthAt_24 rfl ?_
      refine q_istore_n [some (vr 0), some (vi x1), some (vi x2), some (vi 0), none, none, none] 26 dX10_worthAt_25 rfl (Nat.le_of_ble_eq_true rfl) rfl rfl ?_
      refine ex_iconst 27 dX10_worthAt_26 rfl ?_
      refine q_istore [some (vr 0), some (vi x1), some (vi x2), some (vi 0), some (vi 0), none, none] 29 dX10_worthAt_27 rfl (Nat.le_of_ble_eq_true rfl) rfl rfl ?_
      refine ex_iconst 30 dX10_worthAt_29 rfl ?_
      refine q_istore [some (vr 0), some (vi x1), some (vi x2), some (vi 0), some (vi 0), some (vi 0), none] 32 dX10_worthAt_30 rfl (Nat.le_of_ble_eq_true rfl) rfl rfl ?_
      refine ex_iconst 33 dX10_worthAt_32 rfl ?_
      refine q_istore [some (vr 0), some (vi x1), some (vi x2), some (vi 0), some (vi 0), some (vi 0), some (vi 0)] 35 dX10_worthAt_33 rfl (Nat.le_of_ble_eq_true rfl) rfl rfl ?_
      exact hyp
    · have hyp := hf c5
      clear ht hf
      refine ex_iconst 21 dX10_worthAt_20 rfl ?_
      refine ex_goto 25 dX10_worthAt_21 (by decide) ?_
      refine q_istore_n [some (vr 0), some (vi x1), some (vi x2), some (vi 1), none, none, none] 26 dX10_worthAt_25 rfl (Nat.le_of_ble_eq_true rfl) rfl rfl ?_
      refine ex_iconst 27 dX10_worthAt_26 rfl ?_
      refine q_istore [some (vr 0), some (vi x1), some (vi x2), some (vi 1), some (vi 0), none, none] 29 dX10_worthAt_27 rfl (Nat.le_of_ble_eq_true rfl) rfl rfl ?_
      refine ex_iconst 30 dX10_worthAt_29 rfl ?_
      refine q_istore [some (vr 0), some (vi x1), some (vi x2), some (vi 1), some (vi 0), some (vi 0), none] 32 dX10_worthAt_30 rfl (Nat.le_of_ble_eq_true rfl) rfl rfl ?_
      refine ex_iconst 33 dX10_worthAt_32 rfl ?_
      refine q_istore [some (vr 0), some (vi x1), some (vi x2), some (vi 1), some (vi 0), some (vi 0), some (vi 0)] 35 dX10_worthAt_33 rfl (Nat.le_of_ble_eq_true rfl) rfl rfl ?_
      exact hyp
set_option maxRecDepth 4000 in
theorem uX10_worthAt_35 {P : Int → MS → Prop} (m0 : MS) (x1 : Int) (x2 : Int) (x3 : Int) (x4 : Int) (x5 : Int) (x6 : Int) (hyp : rng x6 ∧ rng (m0 0 2) ∧ (m0 0 2 ≤ x6 → (rng x4 ∧ rng x5 ∧ ¬ x5 = 0 ∧ P (Int.tdiv x4 x5) m0)) ∧ (x6 < m0 0 2 → (MMi mX10_isOf [vr 0, vi x6, vi x2] m0 (fun y7 m6 => rng y7 ∧ (y7 = 0 → (YYi mX10_worthAt 35 [some (vr 0), some (vi x1), some (vi x2), some (vi x3), some (vi x4), some (vi x5), some (vi (x6 + 1))] [] m6 P)) ∧ (¬ y7 = 0 → (rng x3 ∧ (¬ x3 = 0 → (MMi mX10_worthOf [vr 0, vi x1, vi x6] m6 (fun y11 m10 => YYi mX10_worthAt 35 [some (vr 0), some (vi x1), some (vi x2), some (vi x3), some (vi (x4 + y11)), some (vi (x5 + 1)), some (vi (x6 + 1))] [] m10 P))) ∧ (x3 = 0 → (0 ≤ x6 ∧ x6 < 18 ∧ rng (m6 2 (x6).toNat) ∧ (m6 2 (x6).toNat = 1 → (YYi mX10_worthAt 35 [some (vr 0), some (vi x1), some (vi x2), some (vi x3), some (vi x4), some (vi x5), some (vi (x6 + 1))] [] m6 P)) ∧ (¬ m6 2 (x6).toNat = 1 → (MMi mX10_worthOf [vr 0, vi x1, vi x6] m6 (fun y16 m15 => YYi mX10_worthAt 35 [some (vr 0), some (vi x1), some (vi x2), some (vi x3), some (vi (x4 + y16)), some (vi (x5 + 1)), some (vi (x6 + 1))] [] m15 P))))))))))) : YYi mX10_worthAt 35 [some (vr 0), some (vi x1), some (vi x2), some (vi x3), some (vi x4), some (vi x5), some (vi x6)] [] m0 P := by
  refine ex_iload 37 dX10_worthAt_35 rfl rfl ?_
  refine ex_aload_n 38 dX10_worthAt_37 rfl rfl ?_
  refine q_getI 10 2 41 dX10_worthAt_38 rfl fiX10_118 (Or.inl rfl) ⟨_, rfl⟩ ?_
  obtain ⟨o1, hyp⟩ := hyp
  obtain ⟨o2, hyp⟩ := hyp
  obtain ⟨ht, hf⟩ := hyp
  refine ex_icmp_ge 90 44 dX10_worthAt_41 (by decide) rfl o1 o2 (fun c20 => ?_) (fun c20 => ?_)
  · have hyp := ht c20
    clear ht hf
    refine ex_iload 92 dX10_worthAt_90 rfl rfl ?_
    refine ex_iload 94 dX10_worthAt_92 rfl rfl ?_
    obtain ⟨o3, hyp⟩ := hyp
    obtain ⟨o4, hyp⟩ := hyp
    obtain ⟨o5, hyp⟩ := hyp
    refine ex_idiv 95 dX10_worthAt_94 rfl o3 o4 o5 ?_
    exact ex_iret dX10_worthAt_95 (Or.inl rfl) ⟨_, rfl, _, rfl, hyp⟩
  · have hyp := hf c20
    clear ht hf
    refine ex_aload_n 45 dX10_worthAt_44 rfl rfl ?_
    refine ex_iload 47 dX10_worthAt_45 rfl rfl ?_
    refine ex_iload_n 48 dX10_worthAt_47 rfl rfl ?_
    refine s_callVi [vi x6, vi x2] 51 dX10_worthAt_48 rfl cvX10_222 rfl rfl ⟨Nat.le_of_ble_eq_true rfl, Nat.le_of_ble_eq_true rfl⟩ (Nat.le_of_ble_eq_true rfl) ⟨_, rfl⟩ hyp (fun y7 h1 hq => ?_)
    obtain ⟨m6, rfl, hyp⟩ := hq
    obtain ⟨o8, hyp⟩ := hyp
    obtain ⟨ht, hf⟩ := hyp
    refine ex_if_eq 84 54 dX10_worthAt_51 (by decide) rfl o8 (fun c19 => ?_) (fun c19 => ?_)
    · have hyp := ht c19
      clear ht hf
      refine q_iinc [some (vr 0), some (vi x1), some (vi x2), some (vi x3), some (vi x4), some (vi x5), some (vi (x6 + 1))] 87 dX10_worthAt_84 rfl rfl (Nat.le_of_ble_eq_true rfl) rfl rfl ?_
      refine ex_goto 35 dX10_worthAt_87 (by decide) ?_
      exact hyp
    · have hyp := hf c19
      clear ht hf
      refine ex_iload_n 55 dX10_worthAt_54 rfl rfl ?_
      obtain ⟨o9, hyp⟩ := hyp
      obtain ⟨ht, hf⟩ := hyp
      refine ex_if_ne 69 58 dX10_worthAt_55 (by decide) rfl o9 (fun c18 => ?_) (fun c18 => ?_)
      · have hyp := ht c18
        clear ht hf
        refine ex_iload 71 dX10_worthAt_69 rfl rfl ?_
        refine ex_aload_n 72 dX10_worthAt_71 rfl rfl ?_
        refine ex_iload_n 73 dX10_worthAt_72 rfl rfl ?_
        refine ex_iload 75 dX10_worthAt_73 rfl rfl ?_
        refine s_callVi [vi x1, vi x6] 78 dX10_worthAt_75 rfl cvX10_175 rfl rfl ⟨Nat.le_of_ble_eq_true rfl, Nat.le_of_ble_eq_true rfl⟩ (Nat.le_of_ble_eq_true rfl) ⟨_, rfl⟩ hyp (fun y11 h1 hq => ?_)
        obtain ⟨m10, rfl, hyp⟩ := hq
        refine ex_iadd 79 dX10_worthAt_78 rfl ?_
        refine q_istore [some (vr 0), some (vi x1), some (vi x2), some (vi x3), some (vi (x4 + y11)), some (vi x5), some (vi x6)] 81 dX10_worthAt_79 rfl (Nat.le_of_ble_eq_true rfl) rfl rfl ?_
        refine q_iinc [some (vr 0), some (vi x1), some (vi x2), some (vi x3), some (vi (x4 + y11)), some (vi (x5 + 1)), some (vi x6)] 84 dX10_worthAt_81 rfl rfl (Nat.le_of_ble_eq_true rfl) rfl rfl ?_
        refine q_iinc [some (vr 0), some (vi x1), some (vi x2), some (vi x3), some (vi (x4 + y11)), some (vi (x5 + 1)), some (vi (x6 + 1))] 87 dX10_worthAt_84 rfl rfl (Nat.le_of_ble_eq_true rfl) rfl rfl ?_
        refine ex_goto 35 dX10_worthAt_87 (by decide) ?_
        exact hyp
      · have hyp := hf c18
        clear ht hf
        refine ex_aload_n 59 dX10_worthAt_58 rfl rfl ?_
        refine q_getR (a := 2) 10 3 62 dX10_worthAt_59 rfl fiX10_13 rfl ⟨_, rfl⟩ rfl ?_
        refine ex_iload 64 dX10_worthAt_62 rfl rfl ?_
        obtain ⟨o12, hyp⟩ := hyp
        obtain ⟨o13, hyp⟩ := hyp
        refine ex_iald 65 dX10_worthAt_64 rfl (ai_of (n := 18) rfl o12 o13 (by decide)) ?_
        refine ex_iconst 66 dX10_worthAt_65 rfl ?_
        obtain ⟨o14, hyp⟩ := hyp
        obtain ⟨ht, hf⟩ := hyp
        refine ex_icmp_eq 84 69 dX10_worthAt_66 (by decide) rfl o14 ⟨by decide, by decide⟩ (fun c17 => ?_) (fun c17 => ?_)
        · have hyp := ht c17
          clear ht hf
          refine q_iinc [some (vr 0), some (vi x1), some (vi x2), some (vi x3), some (vi x4), some (vi x5), some (vi (x6 + 1))] 87 dX10_worthAt_84 rfl rfl (Nat.le_of_ble_eq_true rfl) rfl rfl ?_
          refine ex_goto 35 dX10_worthAt_87 (by decide) ?_
          exact hyp
        · have hyp := hf c17
          clear ht hf
          refine ex_iload 71 dX10_worthAt_69 rfl rfl ?_
          refine ex_aload_n 72 dX10_worthAt_71 rfl rfl ?_
          refine ex_iload_n 73 dX10_worthAt_72 rfl rfl ?_
          refine ex_iload 75 dX10_worthAt_73 rfl rfl ?_
          refine s_callVi [vi x1, vi x6] 78 dX10_worthAt_75 rfl cvX10_175 rfl rfl ⟨Nat.le_of_ble_eq_true rfl, Nat.le_of_ble_eq_true rfl⟩ (Nat.le_of_ble_eq_true rfl) ⟨_, rfl⟩ hyp (fun y16 h1 hq => ?_)
          obtain ⟨m15, rfl, hyp⟩ := hq
          refine ex_iadd 79 dX10_worthAt_78 rfl ?_
          refine q_istore [some (vr 0), some (vi x1), some (vi x2), some (vi x3), some (vi (x4 + y16)), some (vi x5), some (vi x6)] 81 dX10_worthAt_79 rfl (Nat.le_of_ble_eq_true rfl) rfl rfl ?_
          refine q_iinc [some (vr 0), some (vi x1), some (vi x2), some (vi x3), some (vi (x4 + y16)), some (vi (x5 + 1)), some (vi x6)] 84 dX10_worthAt_81 rfl rfl (Nat.le_of_ble_eq_true rfl) rfl rfl ?_
          refine q_iinc [some (vr 0), some (vi x1), some (vi x2), some (vi x3), some (vi (x4 + y16)), some (vi (x5 + 1)), some (vi (x6 + 1))] 87 dX10_worthAt_84 rfl rfl (Nat.le_of_ble_eq_true rfl) rfl rfl ?_
          refine ex_goto 35 dX10_worthAt_87 (by decide) ?_
          exact hyp
set_option maxRecDepth 4000 in
theorem uX10_bestLife {P : Int → MS → Prop} (m0 : MS) (x1 : Int) (hyp : YYi mX10_bestLife 4 [some (vr 0), some (vi x1), some (vi (-1)), some (vi 0), none] [] m0 P) : MMi mX10_bestLife [vr 0, vi x1] m0 P := by
  refine met_of_ex (by decide +kernel) (Nat.le_of_ble_eq_true rfl) ?_
  show EX mX10_bestLife 0 [some (vr 0), some (vi x1), none, none, none] [] (hM m0) (0, 0) _
  refine ex_iconst 1 dX10_bestLife_0 rfl ?_
  refine q_istore_n [some (vr 0), some (vi x1), some (vi (-1)), none, none] 2 dX10_bestLife_1 rfl (Nat.le_of_ble_eq_true rfl) rfl rfl ?_
  refine ex_iconst 3 dX10_bestLife_2 rfl ?_
  refine q_istore_n [some (vr 0), some (vi x1), some (vi (-1)), some (vi 0), none] 4 dX10_bestLife_3 rfl (Nat.le_of_ble_eq_true rfl) rfl rfl ?_
  exact hyp
set_option maxRecDepth 4000 in
theorem uX10_bestLife_4 {P : Int → MS → Prop} (m0 : MS) (x1 : Int) (x2 : Int) (x3 : Int) (hyp : rng x3 ∧ rng (m0 0 28) ∧ (m0 0 28 ≤ x3 → (P x2 m0)) ∧ (x3 < m0 0 28 → (MMi mX10_canGo [vr 0, vi x1, vi x3] m0 (fun y4 m3 => rng y4 ∧ (y4 = 0 → (YYi mX10_bestLife 4 [some (vr 0), some (vi x1), some (vi x2), some (vi (x3 + 1)), none] [] m3 P)) ∧ (¬ y4 = 0 → (rng x2 ∧ (x2 = (-1) → (YYi mX10_bestLife 4 [some (vr 0), some (vi x1), some (vi x3), some (vi (x3 + 1)), none] [] m3 P)) ∧ (¬ x2 = (-1) → (MMi mX10_worthAt [vr 0, vi x1, vi x3] m3 (fun y8 m7 => MMi mX10_worthAt [vr 0, vi x1, vi x2] m7 (fun y10 m9 => rng y8 ∧ rng y10 ∧ (y8 ≤ y10 → (YYi mX10_bestLife 4 [some (vr 0), some (vi x1), some (vi x2), some (vi (x3 + 1)), none] [] m9 P)) ∧ (y10 < y8 → (YYi mX10_bestLife 4 [some (vr 0), some (vi x1), some (vi x3), some (vi (x3 + 1)), none] [] m9 P)))))))))))) : YYi mX10_bestLife 4 [some (vr 0), some (vi x1), some (vi x2), some (vi x3), none] [] m0 P := by
  refine ex_iload_n 5 dX10_bestLife_4 rfl rfl ?_
  refine ex_aload_n 6 dX10_bestLife_5 rfl rfl ?_
  refine q_getI 10 28 9 dX10_bestLife_6 rfl fiX10_212 (Or.inl rfl) ⟨_, rfl⟩ ?_
  obtain ⟨o1, hyp⟩ := hyp
  obtain ⟨o2, hyp⟩ := hyp
  obtain ⟨ht, hf⟩ := hyp
  refine ex_icmp_ge 65 12 dX10_bestLife_9 (by decide) rfl o1 o2 (fun c16 => ?_) (fun c16 => ?_)
  · have hyp := ht c16
    clear ht hf
    refine ex_iload_n 66 dX10_bestLife_65 rfl rfl ?_
    exact ex_iret dX10_bestLife_66 (Or.inl rfl) ⟨_, rfl, _, rfl, hyp⟩
  · have hyp := hf c16
    clear ht hf
    refine ex_aload_n 13 dX10_bestLife_12 rfl rfl ?_
    refine ex_iload_n 14 dX10_bestLife_13 rfl rfl ?_
    refine ex_iload_n 15 dX10_bestLife_14 rfl rfl ?_
    refine s_callVi [vi x1, vi x3] 18 dX10_bestLife_15 rfl cvX10_225 rfl rfl ⟨Nat.le_of_ble_eq_true rfl, Nat.le_of_ble_eq_true rfl⟩ (Nat.le_of_ble_eq_true rfl) ⟨_, rfl⟩ hyp (fun y4 h1 hq => ?_)
    obtain ⟨m3, rfl, hyp⟩ := hq
    obtain ⟨o5, hyp⟩ := hyp
    obtain ⟨ht, hf⟩ := hyp
    refine ex_if_eq 45 21 dX10_bestLife_18 (by decide) rfl o5 (fun c15 => ?_) (fun c15 => ?_)
    · have hyp := ht c15
      clear ht hf
      refine ex_iconst 46 dX10_bestLife_45 rfl ?_
      refine q_istore [some (vr 0), some (vi x1), some (vi x2), some (vi x3), some (vi 0)] 48 dX10_bestLife_46 rfl (Nat.le_of_ble_eq_true rfl) rfl rfl ?_
      refine ex_iload 50 dX10_bestLife_48 rfl rfl ?_
      refine ex_if_eq 57 53 dX10_bestLife_50 (by decide) rfl ⟨by decide, by decide⟩ (fun _ => ?_) (fun c => absurd c (by decide))
      refine ex_iload_n 58 dX10_bestLife_57 rfl rfl ?_
      refine q_istore_n [some (vr 0), some (vi x1), some (vi x2), some (vi x3), some (vi 0)] 59 dX10_bestLife_58 rfl (Nat.le_of_ble_eq_true rfl) rfl rfl ?_
      refine q_iinc [some (vr 0), some (vi x1), some (vi x2), some (vi (x3 + 1)), some (vi 0)] 62 dX10_bestLife_59 rfl rfl (Nat.le_of_ble_eq_true rfl) rfl rfl ?_
      refine ex_goto 4 dX10_bestLife_62 (by decide) ?_
      refine ex_dropL (ls' := [some (vr 0), some (vi x1), some (vi x2), some (vi (x3 + 1)), none]) 4 rfl ?_
      exact hyp
    · have hyp := hf c15
      clear ht hf
      refine ex_iload_n 22 dX10_bestLife_21 rfl rfl ?_
      refine ex_iconst 23 dX10_bestLife_22 rfl ?_
      obtain ⟨o6, hyp⟩ := hyp
      obtain ⟨ht, hf⟩ := hyp
      refine ex_icmp_eq 41 26 dX10_bestLife_23 (by decide) rfl o6 ⟨by decide, by decide⟩ (fun c14 => ?_) (fun c14 => ?_)
      · have hyp := ht c14
        clear ht hf
        refine ex_iconst 42 dX10_bestLife_41 rfl ?_
        refine ex_goto 46 dX10_bestLife_42 (by decide) ?_
        refine q_istore [some (vr 0), some (vi x1), some (vi x2), some (vi x3), some (vi 1)] 48 dX10_bestLife_46 rfl (Nat.le_of_ble_eq_true rfl) rfl rfl ?_
        refine ex_iload 50 dX10_bestLife_48 rfl rfl ?_
        refine ex_if_eq 57 53 dX10_bestLife_50 (by decide) rfl ⟨by decide, by decide⟩ (fun c => absurd c (by decide)) (fun _ => ?_)
        refine ex_iload_n 54 dX10_bestLife_53 rfl rfl ?_
        refine ex_goto 58 dX10_bestLife_54 (by decide) ?_
        refine q_istore_n [some (vr 0), some (vi x1), some (vi x3), some (vi x3), some (vi 1)] 59 dX10_bestLife_58 rfl (Nat.le_of_ble_eq_true rfl) rfl rfl ?_
        refine q_iinc [some (vr 0), some (vi x1), some (vi x3), some (vi (x3 + 1)), some (vi 1)] 62 dX10_bestLife_59 rfl rfl (Nat.le_of_ble_eq_true rfl) rfl rfl ?_
        refine ex_goto 4 dX10_bestLife_62 (by decide) ?_
        refine ex_dropL (ls' := [some (vr 0), some (vi x1), some (vi x3), some (vi (x3 + 1)), none]) 4 rfl ?_
        exact hyp
      · have hyp := hf c14
        clear ht hf
        refine ex_aload_n 27 dX10_bestLife_26 rfl rfl ?_
        refine ex_iload_n 28 dX10_bestLife_27 rfl rfl ?_
        refine ex_iload_n 29 dX10_bestLife_28 rfl rfl ?_
        refine s_callVi [vi x1, vi x3] 32 dX10_bestLife_29 rfl cvX10_228 rfl rfl ⟨Nat.le_of_ble_eq_true rfl, Nat.le_of_ble_eq_true rfl⟩ (Nat.le_of_ble_eq_true rfl) ⟨_, rfl⟩ hyp (fun y8 h1 hq => ?_)
        obtain ⟨m7, rfl, hyp⟩ := hq
        refine ex_aload_n 33 dX10_bestLife_32 rfl rfl ?_
        refine ex_iload_n 34 dX10_bestLife_33 rfl rfl ?_
        refine ex_iload_n 35 dX10_bestLife_34 rfl rfl ?_
        refine s_callVi [vi x1, vi x2] 38 dX10_bestLife_35 rfl cvX10_228 rfl rfl ⟨Nat.le_of_ble_eq_true rfl, Nat.le_of_ble_eq_true rfl⟩ (Nat.le_of_ble_eq_true rfl) ⟨_, rfl⟩ hyp (fun y10 h1 hq => ?_)
        obtain ⟨m9, rfl, hyp⟩ := hq
        obtain ⟨o11, hyp⟩ := hyp
        obtain ⟨o12, hyp⟩ := hyp
        obtain ⟨ht, hf⟩ := hyp
        refine ex_icmp_le 45 41 dX10_bestLife_38 (by decide) rfl o11 o12 (fun c13 => ?_) (fun c13 => ?_)
        · have hyp := ht c13
          clear ht hf
          refine ex_iconst 46 dX10_bestLife_45 rfl ?_
          refine q_istore [some (vr 0), some (vi x1), some (vi x2), some (vi x3), some (vi 0)] 48 dX10_bestLife_46 rfl (Nat.le_of_ble_eq_true rfl) rfl rfl ?_
          refine ex_iload 50 dX10_bestLife_48 rfl rfl ?_
          refine ex_if_eq 57 53 dX10_bestLife_50 (by decide) rfl ⟨by decide, by decide⟩ (fun _ => ?_) (fun c => absurd c (by decide))
          refine ex_iload_n 58 dX10_bestLife_57 rfl rfl ?_
          refine q_istore_n [some (vr 0), some (vi x1), some (vi x2), some (vi x3), some (vi 0)] 59 dX10_bestLife_58 rfl (Nat.le_of_ble_eq_true rfl) rfl rfl ?_
          refine q_iinc [some (vr 0), some (vi x1), some (vi x2), some (vi (x3 + 1)), some (vi 0)] 62 dX10_bestLife_59 rfl rfl (Nat.le_of_ble_eq_true rfl) rfl rfl ?_
          refine ex_goto 4 dX10_bestLife_62 (by decide) ?_
          refine ex_dropL (ls' := [some (vr 0), some (vi x1), some (vi x2), some (vi (x3 + 1)), none]) 4 rfl ?_
          exact hyp
        · have hyp := hf c13
          clear ht hf
          refine ex_iconst 42 dX10_bestLife_41 rfl ?_
          refine ex_goto 46 dX10_bestLife_42 (by decide) ?_
          refine q_istore [some (vr 0), some (vi x1), some (vi x2), some (vi x3), some (vi 1)] 48 dX10_bestLife_46 rfl (Nat.le_of_ble_eq_true rfl) rfl rfl ?_
          refine ex_iload 50 dX10_bestLife_48 rfl rfl ?_
          refine ex_if_eq 57 53 dX10_bestLife_50 (by decide) rfl ⟨by decide, by decide⟩ (fun c => absurd c (by decide)) (fun _ => ?_)
          refine ex_iload_n 54 dX10_bestLife_53 rfl rfl ?_
          refine ex_goto 58 dX10_bestLife_54 (by decide) ?_
          refine q_istore_n [some (vr 0), some (vi x1), some (vi x3), some (vi x3), some (vi 1)] 59 dX10_bestLife_58 rfl (Nat.le_of_ble_eq_true rfl) rfl rfl ?_
          refine q_iinc [some (vr 0), some (vi x1), some (vi x3), some (vi (x3 + 1)), some (vi 1)] 62 dX10_bestLife_59 rfl rfl (Nat.le_of_ble_eq_true rfl) rfl rfl ?_
          refine ex_goto 4 dX10_bestLife_62 (by decide) ?_
          refine ex_dropL (ls' := [some (vr 0), some (vi x1), some (vi x3), some (vi (x3 + 1)), none]) 4 rfl ?_
          exact hyp
set_option maxRecDepth 4000 in
theorem uX10_isInDoubt {P : Int → MS → Prop} (m0 : MS) (x1 : Int) (x2 : Int) (hyp : YYi mX10_isInDoubt 5 [some (vr 0), some (vi x1), some (vi x2), some (vi 0), some (vi 0)] [] m0 P) : MMi mX10_isInDoubt [vr 0, vi x1, vi x2] m0 P := by
  refine met_of_ex (by decide +kernel) (Nat.le_of_ble_eq_true rfl) ?_
  show EX mX10_isInDoubt 0 [some (vr 0), some (vi x1), some (vi x2), none, none] [] (hM m0) (0, 0) _
  refine ex_iconst 1 dX10_isInDoubt_0 rfl ?_
  refine q_istore_n [some (vr 0), some (vi x1), some (vi x2), some (vi 0), none] 2 dX10_isInDoubt_1 rfl (Nat.le_of_ble_eq_true rfl) rfl rfl ?_
  refine ex_iconst 3 dX10_isInDoubt_2 rfl ?_
  refine q_istore [some (vr 0), some (vi x1), some (vi x2), some (vi 0), some (vi 0)] 5 dX10_isInDoubt_3 rfl (Nat.le_of_ble_eq_true rfl) rfl rfl ?_
  exact hyp
set_option maxRecDepth 4000 in
theorem uX10_isInDoubt_5 {P : Int → MS → Prop} (m0 : MS) (x1 : Int) (x2 : Int) (x3 : Int) (x4 : Int) (hyp : rng x4 ∧ rng (m0 0 28) ∧ (m0 0 28 ≤ x4 → ((x3 = 0 ∨ x3 = 1) ∧ P x3 m0)) ∧ (x4 < m0 0 28 → (rng x3 ∧ (¬ x3 = 0 → (YYi mX10_isInDoubt 5 [some (vr 0), some (vi x1), some (vi x2), some (vi 1), some (vi (x4 + 1))] [] m0 P)) ∧ (x3 = 0 → (rng x2 ∧ (x4 = x2 → (YYi mX10_isInDoubt 5 [some (vr 0), some (vi x1), some (vi x2), some (vi 0), some (vi (x4 + 1))] [] m0 P)) ∧ (¬ x4 = x2 → (MMi mX10_canGo [vr 0, vi x1, vi x4] m0 (fun y6 m5 => rng y6 ∧ (y6 = 0 → (YYi mX10_isInDoubt 5 [some (vr 0), some (vi x1), some (vi x2), some (vi 0), some (vi (x4 + 1))] [] m5 P)) ∧ (¬ y6 = 0 → (MMi mX10_worthAt [vr 0, vi x1, vi x2] m5 (fun y9 m8 => MMi mX10_worthAt [vr 0, vi x1, vi x4] m8 (fun y11 m10 => rng (y9 - y11) ∧ rng (m10 8 (2 : Int).toNat) ∧ (m10 8 (2 : Int).toNat < y9 - y11 → (YYi mX10_isInDoubt 5 [some (vr 0), some (vi x1), some (vi x2), some (vi 0), some (vi (x4 + 1))] [] m10 P)) ∧ (y9 - y11 ≤ m10 8 (2 : Int).toNat → (YYi mX10_isInDoubt 5 [some (vr 0), some (vi x1), some (vi x2), some (vi 1), some (vi (x4 + 1))] [] m10 P)))))))))))))) : YYi mX10_isInDoubt 5 [some (vr 0), some (vi x1), some (vi x2), some (vi x3), some (vi x4)] [] m0 P := by
  refine ex_iload 7 dX10_isInDoubt_5 rfl rfl ?_
  refine ex_aload_n 8 dX10_isInDoubt_7 rfl rfl ?_
  refine q_getI 10 28 11 dX10_isInDoubt_8 rfl fiX10_212 (Or.inl rfl) ⟨_, rfl⟩ ?_
  obtain ⟨o1, hyp⟩ := hyp
  obtain ⟨o2, hyp⟩ := hyp
  obtain ⟨ht, hf⟩ := hyp
  refine ex_icmp_ge 69 14 dX10_isInDoubt_11 (by decide) rfl o1 o2 (fun c18 => ?_) (fun c18 => ?_)
  · have hyp := ht c18
    clear ht hf
    refine ex_iload_n 70 dX10_isInDoubt_69 rfl rfl ?_
    exact ex_iret dX10_isInDoubt_70 (Or.inr ⟨rfl, hyp.1⟩) ⟨_, rfl, _, rfl, hyp.2⟩
  · have hyp := hf c18
    clear ht hf
    refine ex_iload_n 15 dX10_isInDoubt_14 rfl rfl ?_
    obtain ⟨o3, hyp⟩ := hyp
    obtain ⟨ht, hf⟩ := hyp
    refine ex_if_ne 57 18 dX10_isInDoubt_15 (by decide) rfl o3 (fun c17 => ?_) (fun c17 => ?_)
    · have hyp := ht c17
      clear ht hf
      refine ex_iconst 58 dX10_isInDoubt_57 rfl ?_
      refine ex_goto 62 dX10_isInDoubt_58 (by decide) ?_
      refine q_istore_n [some (vr 0), some (vi x1), some (vi x2), some (vi 1), some (vi x4)] 63 dX10_isInDoubt_62 rfl (Nat.le_of_ble_eq_true rfl) rfl rfl ?_
      refine q_iinc [some (vr 0), some (vi x1), some (vi x2), some (vi 1), some (vi (x4 + 1))] 66 dX10_isInDoubt_63 rfl rfl (Nat.le_of_ble_eq_true rfl) rfl rfl ?_
      refine ex_goto 5 dX10_isInDoubt_66 (by decide) ?_
      exact hyp
    · have hyp := hf c17
      clear ht hf
      refine ex_iload 20 dX10_isInDoubt_18 rfl rfl ?_
      refine ex_iload_n 21 dX10_isInDoubt_20 rfl rfl ?_
      obtain ⟨o4, hyp⟩ := hyp
      obtain ⟨ht, hf⟩ := hyp
      refine ex_icmp_eq 61 24 dX10_isInDoubt_21 (by decide) rfl o1 o4 (fun c16 => ?_) (fun c16 => ?_)
      · have hyp := ht c16
        clear ht hf
        refine ex_iconst 62 dX10_isInDoubt_61 rfl ?_
        refine q_istore_n [some (vr 0), some (vi x1), some (vi x2), some (vi 0), some (vi x4)] 63 dX10_isInDoubt_62 rfl (Nat.le_of_ble_eq_true rfl) rfl rfl ?_
        refine q_iinc [some (vr 0), some (vi x1), some (vi x2), some (vi 0), some (vi (x4 + 1))] 66 dX10_isInDoubt_63 rfl rfl (Nat.le_of_ble_eq_true rfl) rfl rfl ?_
        refine ex_goto 5 dX10_isInDoubt_66 (by decide) ?_
        exact hyp
      · have hyp := hf c16
        clear ht hf
        refine ex_aload_n 25 dX10_isInDoubt_24 rfl rfl ?_
        refine ex_iload_n 26 dX10_isInDoubt_25 rfl rfl ?_
        refine ex_iload 28 dX10_isInDoubt_26 rfl rfl ?_
        refine s_callVi [vi x1, vi x4] 31 dX10_isInDoubt_28 rfl cvX10_225 rfl rfl ⟨Nat.le_of_ble_eq_true rfl, Nat.le_of_ble_eq_true rfl⟩ (Nat.le_of_ble_eq_true rfl) ⟨_, rfl⟩ hyp (fun y6 h1 hq => ?_)
        obtain ⟨m5, rfl, hyp⟩ := hq
        obtain ⟨o7, hyp⟩ := hyp
        obtain ⟨ht, hf⟩ := hyp
        refine ex_if_eq 61 34 dX10_isInDoubt_31 (by decide) rfl o7 (fun c15 => ?_) (fun c15 => ?_)
        · have hyp := ht c15
          clear ht hf
          refine ex_iconst 62 dX10_isInDoubt_61 rfl ?_
          refine q_istore_n [some (vr 0), some (vi x1), some (vi x2), some (vi 0), some (vi x4)] 63 dX10_isInDoubt_62 rfl (Nat.le_of_ble_eq_true rfl) rfl rfl ?_
          refine q_iinc [some (vr 0), some (vi x1), some (vi x2), some (vi 0), some (vi (x4 + 1))] 66 dX10_isInDoubt_63 rfl rfl (Nat.le_of_ble_eq_true rfl) rfl rfl ?_
          refine ex_goto 5 dX10_isInDoubt_66 (by decide) ?_
          exact hyp
        · have hyp := hf c15
          clear ht hf
          refine ex_aload_n 35 dX10_isInDoubt_34 rfl rfl ?_
          refine ex_iload_n 36 dX10_isInDoubt_35 rfl rfl ?_
          refine ex_iload_n 37 dX10_isInDoubt_36 rfl rfl ?_
          refine s_callVi [vi x1, vi x2] 40 dX10_isInDoubt_37 rfl cvX10_228 rfl rfl ⟨Nat.le_of_ble_eq_true rfl, Nat.le_of_ble_eq_true rfl⟩ (Nat.le_of_ble_eq_true rfl) ⟨_, rfl⟩ hyp (fun y9 h1 hq => ?_)
          obtain ⟨m8, rfl, hyp⟩ := hq
          refine ex_aload_n 41 dX10_isInDoubt_40 rfl rfl ?_
          refine ex_iload_n 42 dX10_isInDoubt_41 rfl rfl ?_
          refine ex_iload 44 dX10_isInDoubt_42 rfl rfl ?_
          refine s_callVi [vi x1, vi x4] 47 dX10_isInDoubt_44 rfl cvX10_228 rfl rfl ⟨Nat.le_of_ble_eq_true rfl, Nat.le_of_ble_eq_true rfl⟩ (Nat.le_of_ble_eq_true rfl) ⟨_, rfl⟩ hyp (fun y11 h1 hq => ?_)
          obtain ⟨m10, rfl, hyp⟩ := hq
          refine ex_isub 48 dX10_isInDoubt_47 rfl ?_
          refine ex_aload_n 49 dX10_isInDoubt_48 rfl rfl ?_
          refine q_getR (a := 8) 10 9 52 dX10_isInDoubt_49 rfl fiX10_31 rfl ⟨_, rfl⟩ rfl ?_
          refine ex_iconst 53 dX10_isInDoubt_52 rfl ?_
          refine ex_iald 54 dX10_isInDoubt_53 rfl (ai_of (n := 3) rfl (by decide) (by decide) (by decide)) ?_
          obtain ⟨o12, hyp⟩ := hyp
          obtain ⟨o13, hyp⟩ := hyp
          obtain ⟨ht, hf⟩ := hyp
          refine ex_icmp_gt 61 57 dX10_isInDoubt_54 (by decide) rfl o12 o13 (fun c14 => ?_) (fun c14 => ?_)
          · have hyp := ht c14
            clear ht hf
            refine ex_iconst 62 dX10_isInDoubt_61 rfl ?_
            refine q_istore_n [some (vr 0), some (vi x1), some (vi x2), some (vi 0), some (vi x4)] 63 dX10_isInDoubt_62 rfl (Nat.le_of_ble_eq_true rfl) rfl rfl ?_
            refine q_iinc [some (vr 0), some (vi x1), some (vi x2), some (vi 0), some (vi (x4 + 1))] 66 dX10_isInDoubt_63 rfl rfl (Nat.le_of_ble_eq_true rfl) rfl rfl ?_
            refine ex_goto 5 dX10_isInDoubt_66 (by decide) ?_
            exact hyp
          · have hyp := hf c14
            clear ht hf
            refine ex_iconst 58 dX10_isInDoubt_57 rfl ?_
            refine ex_goto 62 dX10_isInDoubt_58 (by decide) ?_
            refine q_istore_n [some (vr 0), some (vi x1), some (vi x2), some (vi 1), some (vi x4)] 63 dX10_isInDoubt_62 rfl (Nat.le_of_ble_eq_true rfl) rfl rfl ?_
            refine q_iinc [some (vr 0), some (vi x1), some (vi x2), some (vi 1), some (vi (x4 + 1))] 66 dX10_isInDoubt_63 rfl rfl (Nat.le_of_ble_eq_true rfl) rfl rfl ?_
            refine ex_goto 5 dX10_isInDoubt_66 (by decide) ?_
            exact hyp
set_option maxRecDepth 4000 in
theorem uX10_layLives {P : MS → Prop} (m0 : MS)  (hyp : MMv mX10_layFirstLives [vr 0] m0 (fun m1 => YYv mX10_layLives 6 [some (vr 0), some (vi 0)] [] m1 P)) : MMv mX10_layLives [vr 0] m0 P := by
  refine met_of_ex (by decide +kernel) (Nat.le_of_ble_eq_true rfl) ?_
  show EX mX10_layLives 0 [some (vr 0), none] [] (hM m0) (0, 0) _
  refine ex_aload_n 1 dX10_layLives_0 rfl rfl ?_
  refine s_callVv [] 4 dX10_layLives_1 rfl cvX10_231 rfl rfl ⟨Nat.le_of_ble_eq_true rfl, Nat.le_of_ble_eq_true rfl⟩ (Nat.le_of_ble_eq_true rfl) ⟨_, rfl⟩ hyp (fun h1 hq => ?_)
  obtain ⟨m1, rfl, hyp⟩ := hq
  refine ex_iconst 5 dX10_layLives_4 rfl ?_
  refine q_istore_n [some (vr 0), some (vi 0)] 6 dX10_layLives_5 rfl (Nat.le_of_ble_eq_true rfl) rfl rfl ?_
  exact hyp
set_option maxRecDepth 4000 in
theorem uX10_layLives_6 {P : MS → Prop} (m0 : MS) (x1 : Int) (hyp : rng x1 ∧ rng (m0 0 2) ∧ (m0 0 2 ≤ x1 → (P m0)) ∧ (x1 < m0 0 2 → (0 ≤ x1 ∧ x1 < 18 ∧ rng (m0 2 (x1).toNat) ∧ (¬ m0 2 (x1).toNat = 1 → (YYv mX10_layLives 6 [some (vr 0), some (vi (x1 + 1))] [] m0 P)) ∧ (m0 2 (x1).toNat = 1 → (MMv mX10_layWedding [vr 0, vi x1] m0 (fun m6 => YYv mX10_layLives 6 [some (vr 0), some (vi (x1 + 1))] [] m6 P)))))) : YYv mX10_layLives 6 [some (vr 0), some (vi x1)] [] m0 P := by
  refine ex_iload_n 7 dX10_layLives_6 rfl rfl ?_
  refine ex_aload_n 8 dX10_layLives_7 rfl rfl ?_
  refine q_getI 10 2 11 dX10_layLives_8 rfl fiX10_118 (Or.inl rfl) ⟨_, rfl⟩ ?_
  obtain ⟨o1, hyp⟩ := hyp
  obtain ⟨o2, hyp⟩ := hyp
  obtain ⟨ht, hf⟩ := hyp
  refine ex_icmp_ge 35 14 dX10_layLives_11 (by decide) rfl o1 o2 (fun c8 => ?_) (fun c8 => ?_)
  · have hyp := ht c8
    clear ht hf
    exact ex_vret dX10_layLives_35 rfl ⟨rfl, _, rfl, hyp⟩
  · have hyp := hf c8
    clear ht hf
    refine ex_aload_n 15 dX10_layLives_14 rfl rfl ?_
    refine q_getR (a := 2) 10 3 18 dX10_layLives_15 rfl fiX10_13 rfl ⟨_, rfl⟩ rfl ?_
    refine ex_iload_n 19 dX10_layLives_18 rfl rfl ?_
    obtain ⟨o3, hyp⟩ := hyp
    obtain ⟨o4, hyp⟩ := hyp
    refine ex_iald 20 dX10_layLives_19 rfl (ai_of (n := 18) rfl o3 o4 (by decide)) ?_
    refine ex_iconst 21 dX10_layLives_20 rfl ?_
    obtain ⟨o5, hyp⟩ := hyp
    obtain ⟨ht, hf⟩ := hyp
    refine ex_icmp_ne 29 24 dX10_layLives_21 (by decide) rfl o5 ⟨by decide, by decide⟩ (fun c7 => ?_) (fun c7 => ?_)
    · have hyp := ht c7
      clear ht hf
      refine q_iinc [some (vr 0), some (vi (x1 + 1))] 32 dX10_layLives_29 rfl rfl (Nat.le_of_ble_eq_true rfl) rfl rfl ?_
      refine ex_goto 6 dX10_layLives_32 (by decide) ?_
      exact hyp
    · have hyp := hf c7
      clear ht hf
      refine ex_aload_n 25 dX10_layLives_24 rfl rfl ?_
      refine ex_iload_n 26 dX10_layLives_25 rfl rfl ?_
      refine s_callVv [vi x1] 29 dX10_layLives_26 rfl cvX10_234 rfl rfl ⟨Nat.le_of_ble_eq_true rfl, Nat.le_of_ble_eq_true rfl⟩ (Nat.le_of_ble_eq_true rfl) ⟨_, rfl⟩ hyp (fun h1 hq => ?_)
      obtain ⟨m6, rfl, hyp⟩ := hq
      refine q_iinc [some (vr 0), some (vi (x1 + 1))] 32 dX10_layLives_29 rfl rfl (Nat.le_of_ble_eq_true rfl) rfl rfl ?_
      refine ex_goto 6 dX10_layLives_32 (by decide) ?_
      exact hyp
set_option maxRecDepth 4000 in
theorem uX10_layWedding {P : MS → Prop} (m0 : MS) (x1 : Int) (hyp : MMi mX10_bestLife [vr 0, vi x1] m0 (fun y2 m1 => rng y2 ∧ (¬ y2 = (-1) → (MMi mX10_isInDoubt [vr 0, vi x1, vi y2] m1 (fun y5 m4 => rng y5 ∧ (¬ y5 = 0 → (P m4)) ∧ (y5 = 0 → (0 ≤ x1 ∧ x1 < 18 ∧ ∀ m10 : MS, m10 = mI m4 22 (x1).toNat y2 → (0 ≤ y2 ∧ y2 < 18 ∧ ∀ m15 : MS, m15 = mI m10 21 (y2).toNat ((m10 21 (y2).toNat) + 1) → (P m15))))))) ∧ (y2 = (-1) → (0 ≤ x1 ∧ x1 < 18 ∧ ∀ m21 : MS, m21 = mI m1 22 (x1).toNat (m1 0 28) → (MMv mX10_beginLife [vr 0, vi (-1), vi (-1)] m21 (fun m23 => 0 ≤ (m23 0 28) - 1 ∧ (m23 0 28) - 1 < 18 ∧ ∀ m27 : MS, m27 = mI m23 21 ((m23 0 28) - 1).toNat 1 → (P m27))))))) : MMv mX10_layWedding [vr 0, vi x1] m0 P := by
  refine met_of_ex (by decide +kernel) (Nat.le_of_ble_eq_true rfl) ?_
  show EX mX10_layWedding 0 [some (vr 0), some (vi x1), none] [] (hM m0) (0, 0) _
  refine ex_aload_n 1 dX10_layWedding_0 rfl rfl ?_
  refine ex_iload_n 2 dX10_layWedding_1 rfl rfl ?_
  refine s_callVi [vi x1] 5 dX10_layWedding_2 rfl cvX10_238 rfl rfl ⟨Nat.le_of_ble_eq_true rfl, Nat.le_of_ble_eq_true rfl⟩ (Nat.le_of_ble_eq_true rfl) ⟨_, rfl⟩ hyp (fun y2 h1 hq => ?_)
  obtain ⟨m1, rfl, hyp⟩ := hq
  refine q_istore_n [some (vr 0), some (vi x1), some (vi y2)] 6 dX10_layWedding_5 rfl (Nat.le_of_ble_eq_true rfl) rfl rfl ?_
  refine ex_iload_n 7 dX10_layWedding_6 rfl rfl ?_
  refine ex_iconst 8 dX10_layWedding_7 rfl ?_
  obtain ⟨o3, hyp⟩ := hyp
  obtain ⟨ht, hf⟩ := hyp
  refine ex_icmp_ne 42 11 dX10_layWedding_8 (by decide) rfl o3 ⟨by decide, by decide⟩ (fun c29 => ?_) (fun c29 => ?_)
  · have hyp := ht c29
    clear ht hf
    refine ex_aload_n 43 dX10_layWedding_42 rfl rfl ?_
    refine ex_iload_n 44 dX10_layWedding_43 rfl rfl ?_
    refine ex_iload_n 45 dX10_layWedding_44 rfl rfl ?_
    refine s_callVi [vi x1, vi y2] 48 dX10_layWedding_45 rfl cvX10_241 rfl rfl ⟨Nat.le_of_ble_eq_true rfl, Nat.le_of_ble_eq_true rfl⟩ (Nat.le_of_ble_eq_true rfl) ⟨_, rfl⟩ hyp (fun y5 h1 hq => ?_)
    obtain ⟨m4, rfl, hyp⟩ := hq
    obtain ⟨o6, hyp⟩ := hyp
    obtain ⟨ht, hf⟩ := hyp
    refine ex_if_ne 68 51 dX10_layWedding_48 (by decide) rfl o6 (fun c17 => ?_) (fun c17 => ?_)
    · have hyp := ht c17
      clear ht hf
      exact ex_vret dX10_layWedding_68 rfl ⟨rfl, _, rfl, hyp⟩
    · have hyp := hf c17
      clear ht hf
      refine ex_aload_n 52 dX10_layWedding_51 rfl rfl ?_
      refine q_getR (a := 22) 10 32 55 dX10_layWedding_52 rfl fiX10_73 rfl ⟨_, rfl⟩ rfl ?_
      refine ex_iload_n 56 dX10_layWedding_55 rfl rfl ?_
      refine ex_iload_n 57 dX10_layWedding_56 rfl rfl ?_
      obtain ⟨o7, hyp⟩ := hyp
      obtain ⟨o8, hyp⟩ := hyp
      refine ex_iast 58 dX10_layWedding_57 rfl (ai_of (n := 18) rfl o7 o8 (by decide)) (fun h1 e9 => ?_)
      obtain ⟨m10, eg11⟩ : ∃ z : MS, z = mI m4 22 (x1).toNat y2 := ⟨_, rfl⟩
      have hyp := hyp m10 eg11
      obtain rfl : h1 = hM m10 := by rw [e9, eg11]; exact rfl
      clear e9
      refine ex_aload_n 59 dX10_layWedding_58 rfl rfl ?_
      refine q_getR (a := 21) 10 31 62 dX10_layWedding_59 rfl fiX10_70 rfl ⟨_, rfl⟩ rfl ?_
      refine ex_iload_n 63 dX10_layWedding_62 rfl rfl ?_
      refine ex_dup2 64 dX10_layWedding_63 rfl rfl rfl ?_
      obtain ⟨o12, hyp⟩ := hyp
      obtain ⟨o13, hyp⟩ := hyp
      refine ex_iald 65 dX10_layWedding_64 rfl (ai_of (n := 18) rfl o12 o13 (by decide)) ?_
      refine ex_iconst 66 dX10_layWedding_65 rfl ?_
      refine ex_iadd 67 dX10_layWedding_66 rfl ?_
      refine ex_iast 68 dX10_layWedding_67 rfl (ai_of (n := 18) rfl o12 o13 (by decide)) (fun h1 e14 => ?_)
      obtain ⟨m15, eg16⟩ : ∃ z : MS, z = mI m10 21 (y2).toNat ((m10 21 (y2).toNat) + 1) := ⟨_, rfl⟩
      have hyp := hyp m15 eg16
      obtain rfl : h1 = hM m15 := by rw [e14, eg16]; exact rfl
      clear e14
      exact ex_vret dX10_layWedding_68 rfl ⟨rfl, _, rfl, hyp⟩
  · have hyp := hf c29
    clear ht hf
    refine ex_aload_n 12 dX10_layWedding_11 rfl rfl ?_
    refine q_getR (a := 22) 10 32 15 dX10_layWedding_12 rfl fiX10_73 rfl ⟨_, rfl⟩ rfl ?_
    refine ex_iload_n 16 dX10_layWedding_15 rfl rfl ?_
    refine ex_aload_n 17 dX10_layWedding_16 rfl rfl ?_
    refine q_getI 10 28 20 dX10_layWedding_17 rfl fiX10_212 (Or.inl rfl) ⟨_, rfl⟩ ?_
    obtain ⟨o18, hyp⟩ := hyp
    obtain ⟨o19, hyp⟩ := hyp
    refine ex_iast 21 dX10_layWedding_20 rfl (ai_of (n := 18) rfl o18 o19 (by decide)) (fun h1 e20 => ?_)
    obtain ⟨m21, eg22⟩ : ∃ z : MS, z = mI m1 22 (x1).toNat (m1 0 28) := ⟨_, rfl⟩
    have hyp := hyp m21 eg22
    obtain rfl : h1 = hM m21 := by rw [e20, eg22]; exact rfl
    clear e20
    refine ex_aload_n 22 dX10_layWedding_21 rfl rfl ?_
    refine ex_iconst 23 dX10_layWedding_22 rfl ?_
    refine ex_iconst 24 dX10_layWedding_23 rfl ?_
    refine s_callVv [vi (-1), vi (-1)] 27 dX10_layWedding_24 rfl cvX10_218 rfl rfl ⟨Nat.le_of_ble_eq_true rfl, Nat.le_of_ble_eq_true rfl⟩ (Nat.le_of_ble_eq_true rfl) ⟨_, rfl⟩ hyp (fun h1 hq => ?_)
    obtain ⟨m23, rfl, hyp⟩ := hq
    refine ex_aload_n 28 dX10_layWedding_27 rfl rfl ?_
    refine q_getR (a := 21) 10 31 31 dX10_layWedding_28 rfl fiX10_70 rfl ⟨_, rfl⟩ rfl ?_
    refine ex_aload_n 32 dX10_layWedding_31 rfl rfl ?_
    refine q_getI 10 28 35 dX10_layWedding_32 rfl fiX10_212 (Or.inl rfl) ⟨_, rfl⟩ ?_
    refine ex_iconst 36 dX10_layWedding_35 rfl ?_
    refine ex_isub 37 dX10_layWedding_36 rfl ?_
    refine ex_iconst 38 dX10_layWedding_37 rfl ?_
    obtain ⟨o24, hyp⟩ := hyp
    obtain ⟨o25, hyp⟩ := hyp
    refine ex_iast 39 dX10_layWedding_38 rfl (ai_of (n := 18) rfl o24 o25 (by decide)) (fun h1 e26 => ?_)
    obtain ⟨m27, eg28⟩ : ∃ z : MS, z = mI m23 21 ((m23 0 28) - 1).toNat 1 := ⟨_, rfl⟩
    have hyp := hyp m27 eg28
    obtain rfl : h1 = hM m27 := by rw [e26, eg28]; exact rfl
    clear e26
    refine ex_goto 68 dX10_layWedding_39 (by decide) ?_
    exact ex_vret dX10_layWedding_68 rfl ⟨rfl, _, rfl, hyp⟩
set_option maxRecDepth 4000 in
theorem uX10_isShaky {P : Int → MS → Prop} (m0 : MS) (x1 : Int) (hyp : 0 ≤ x1 ∧ x1 < 18 ∧ rng (m0 19 (x1).toNat) ∧ (m0 19 (x1).toNat = (-1) → (P 0 m0)) ∧ (¬ m0 19 (x1).toNat = (-1) → (rng (m0 20 (x1).toNat) ∧ (¬ m0 20 (x1).toNat = (-1) → (MMi mX10_worthOf [vr 0, vi (m0 19 (x1).toNat), vi (m0 20 (x1).toNat)] m0 (fun y6 m5 => YYi mX10_isShaky 47 [some (vr 0), none, some (vi (m0 19 (x1).toNat)), some (vi (m0 20 (x1).toNat)), some (vi (y6 - (m5 8 (2 : Int).toNat))), some (vi 0), some (vi 0), none, none] [] m5 P))) ∧ (m0 20 (x1).toNat = (-1) → (P 0 m0))))) : MMi mX10_isShaky [vr 0, vi x1] m0 P := by
  refine met_of_ex (by decide +kernel) (Nat.le_of_ble_eq_true rfl) ?_
  show EX mX10_isShaky 0 [some (vr 0), some (vi x1), none, none, none, none, none, none, none] [] (hM m0) (0, 0) _
  refine ex_aload_n 1 dX10_isShaky_0 rfl rfl ?_
  refine q_getR (a := 19) 10 29 4 dX10_isShaky_1 rfl fiX10_64 rfl ⟨_, rfl⟩ rfl ?_
  refine ex_iload_n 5 dX10_isShaky_4 rfl rfl ?_
  obtain ⟨o1, hyp⟩ := hyp
  obtain ⟨o2, hyp⟩ := hyp
  refine ex_iald 6 dX10_isShaky_5 rfl (ai_of (n := 18) rfl o1 o2 (by decide)) ?_
  refine q_istore_n [some (vr 0), some (vi x1), some (vi (m0 19 (x1).toNat)), none, none, none, none, none, none] 7 dX10_isShaky_6 rfl (Nat.le_of_ble_eq_true rfl) rfl rfl ?_
  refine ex_aload_n 8 dX10_isShaky_7 rfl rfl ?_
  refine q_getR (a := 20) 10 30 11 dX10_isShaky_8 rfl fiX10_67 rfl ⟨_, rfl⟩ rfl ?_
  refine ex_iload_n 12 dX10_isShaky_11 rfl rfl ?_
  refine ex_iald 13 dX10_isShaky_12 rfl (ai_of (n := 18) rfl o1 o2 (by decide)) ?_
  refine q_istore_n [some (vr 0), some (vi x1), some (vi (m0 19 (x1).toNat)), some (vi (m0 20 (x1).toNat)), none, none, none, none, none] 14 dX10_isShaky_13 rfl (Nat.le_of_ble_eq_true rfl) rfl rfl ?_
  refine ex_iload_n 15 dX10_isShaky_14 rfl rfl ?_
  refine ex_iconst 16 dX10_isShaky_15 rfl ?_
  obtain ⟨o3, hyp⟩ := hyp
  obtain ⟨ht, hf⟩ := hyp
  refine ex_icmp_eq 24 19 dX10_isShaky_16 (by decide) rfl o3 ⟨by decide, by decide⟩ (fun c8 => ?_) (fun c8 => ?_)
  · have hyp := ht c8
    clear ht hf
    refine ex_iconst 25 dX10_isShaky_24 rfl ?_
    exact ex_iret dX10_isShaky_25 (Or.inr ⟨rfl, Or.inl rfl⟩) ⟨_, rfl, _, rfl, hyp⟩
  · have hyp := hf c8
    clear ht hf
    refine ex_iload_n 20 dX10_isShaky_19 rfl rfl ?_
    refine ex_iconst 21 dX10_isShaky_20 rfl ?_
    obtain ⟨o4, hyp⟩ := hyp
    obtain ⟨ht, hf⟩ := hyp
    refine ex_icmp_ne 26 24 dX10_isShaky_21 (by decide) rfl o4 ⟨by decide, by decide⟩ (fun c7 => ?_) (fun c7 => ?_)
    · have hyp := ht c7
      clear ht hf
      refine ex_aload_n 27 dX10_isShaky_26 rfl rfl ?_
      refine ex_iload_n 28 dX10_isShaky_27 rfl rfl ?_
      refine ex_iload_n 29 dX10_isShaky_28 rfl rfl ?_
      refine s_callVi [vi (m0 19 (x1).toNat), vi (m0 20 (x1).toNat)] 32 dX10_isShaky_29 rfl cvX10_175 rfl rfl ⟨Nat.le_of_ble_eq_true rfl, Nat.le_of_ble_eq_true rfl⟩ (Nat.le_of_ble_eq_true rfl) ⟨_, rfl⟩ hyp (fun y6 h1 hq => ?_)
      obtain ⟨m5, rfl, hyp⟩ := hq
      refine ex_aload_n 33 dX10_isShaky_32 rfl rfl ?_
      refine q_getR (a := 8) 10 9 36 dX10_isShaky_33 rfl fiX10_31 rfl ⟨_, rfl⟩ rfl ?_
      refine ex_iconst 37 dX10_isShaky_36 rfl ?_
      refine ex_iald 38 dX10_isShaky_37 rfl (ai_of (n := 3) rfl (by decide) (by decide) (by decide)) ?_
      refine ex_isub 39 dX10_isShaky_38 rfl ?_
      refine q_istore [some (vr 0), some (vi x1), some (vi (m0 19 (x1).toNat)), some (vi (m0 20 (x1).toNat)), some (vi (y6 - (m5 8 (2 : Int).toNat))), none, none, none, none] 41 dX10_isShaky_39 rfl (Nat.le_of_ble_eq_true rfl) rfl rfl ?_
      refine ex_iconst 42 dX10_isShaky_41 rfl ?_
      refine q_istore [some (vr 0), some (vi x1), some (vi (m0 19 (x1).toNat)), some (vi (m0 20 (x1).toNat)), some (vi (y6 - (m5 8 (2 : Int).toNat))), some (vi 0), none, none, none] 44 dX10_isShaky_42 rfl (Nat.le_of_ble_eq_true rfl) rfl rfl ?_
      refine ex_iconst 45 dX10_isShaky_44 rfl ?_
      refine q_istore [some (vr 0), some (vi x1), some (vi (m0 19 (x1).toNat)), some (vi (m0 20 (x1).toNat)), some (vi (y6 - (m5 8 (2 : Int).toNat))), some (vi 0), some (vi 0), none, none] 47 dX10_isShaky_45 rfl (Nat.le_of_ble_eq_true rfl) rfl rfl ?_
      refine ex_dropL (ls' := [some (vr 0), none, some (vi (m0 19 (x1).toNat)), some (vi (m0 20 (x1).toNat)), some (vi (y6 - (m5 8 (2 : Int).toNat))), some (vi 0), some (vi 0), none, none]) 1 rfl ?_
      exact hyp
    · have hyp := hf c7
      clear ht hf
      refine ex_iconst 25 dX10_isShaky_24 rfl ?_
      exact ex_iret dX10_isShaky_25 (Or.inr ⟨rfl, Or.inl rfl⟩) ⟨_, rfl, _, rfl, hyp⟩
set_option maxRecDepth 4000 in
theorem uX10_isShaky_47 {P : Int → MS → Prop} (m0 : MS) (x2 : Int) (x3 : Int) (x4 : Int) (x5 : Int) (x6 : Int) (hyp : rng x6 ∧ rng (m0 0 2) ∧ (m0 0 2 ≤ x6 → ((x5 = 0 ∨ x5 = 1) ∧ P x5 m0)) ∧ (x6 < m0 0 2 → (0 ≤ x6 ∧ x6 < 18 ∧ rng (m0 2 (x6).toNat) ∧ (¬ m0 2 (x6).toNat = 2 → (YYi mX10_isShaky 99 [some (vr 0), none, some (vi x2), some (vi x3), some (vi x4), some (vi x5), some (vi x6), none, none] [] m0 P)) ∧ (m0 2 (x6).toNat = 2 → (rng x3 ∧ (x6 = x3 → (YYi mX10_isShaky 99 [some (vr 0), none, some (vi x2), some (vi x3), some (vi x4), some (vi x5), some (vi x6), none, none] [] m0 P)) ∧ (¬ x6 = x3 → (MMi mX10_isFit [vr 0, vi x2, vi x6] m0 (fun y8 m7 => rng y8 ∧ (y8 = 0 → (YYi mX10_isShaky 99 [some (vr 0), none, some (vi x2), some (vi x3), some (vi x4), some (vi x5), some (vi x6), none, none] [] m7 P)) ∧ (¬ y8 = 0 → (MMi mX10_worthOf [vr 0, vi x2, vi x6] m7 (fun y11 m10 => rng y11 ∧ rng x4 ∧ (y11 < x4 → (YYi mX10_isShaky 99 [some (vr 0), none, some (vi x2), some (vi x3), some (vi x4), some (vi x5), some (vi x6), none, none] [] m10 P)) ∧ (x4 ≤ y11 → (YYi mX10_isShaky 100 [some (vr 0), none, some (vi x2), some (vi x3), some (vi x4), some (vi x5), some (vi x6), none, none] [vi 1] m10 P))))))))))))) : YYi mX10_isShaky 47 [some (vr 0), none, some (vi x2), some (vi x3), some (vi x4), some (vi x5), some (vi x6), none, none] [] m0 P := by
  refine ex_iload 49 dX10_isShaky_47 rfl rfl ?_
  refine ex_aload_n 50 dX10_isShaky_49 rfl rfl ?_
  refine q_getI 10 2 53 dX10_isShaky_50 rfl fiX10_118 (Or.inl rfl) ⟨_, rfl⟩ ?_
  obtain ⟨o1, hyp⟩ := hyp
  obtain ⟨o2, hyp⟩ := hyp
  obtain ⟨ht, hf⟩ := hyp
  refine ex_icmp_ge 175 56 dX10_isShaky_53 (by decide) rfl o1 o2 (fun c18 => ?_) (fun c18 => ?_)
  · have hyp := ht c18
    clear ht hf
    refine ex_iload 177 dX10_isShaky_175 rfl rfl ?_
    exact ex_iret dX10_isShaky_177 (Or.inr ⟨rfl, hyp.1⟩) ⟨_, rfl, _, rfl, hyp.2⟩
  · have hyp := hf c18
    clear ht hf
    refine ex_aload_n 57 dX10_isShaky_56 rfl rfl ?_
    refine q_getR (a := 2) 10 3 60 dX10_isShaky_57 rfl fiX10_13 rfl ⟨_, rfl⟩ rfl ?_
    refine ex_iload 62 dX10_isShaky_60 rfl rfl ?_
    obtain ⟨o3, hyp⟩ := hyp
    obtain ⟨o4, hyp⟩ := hyp
    refine ex_iald 63 dX10_isShaky_62 rfl (ai_of (n := 18) rfl o3 o4 (by decide)) ?_
    refine ex_iconst 64 dX10_isShaky_63 rfl ?_
    obtain ⟨o5, hyp⟩ := hyp
    obtain ⟨ht, hf⟩ := hyp
    refine ex_icmp_ne 99 67 dX10_isShaky_64 (by decide) rfl o5 ⟨by decide, by decide⟩ (fun c17 => ?_) (fun c17 => ?_)
    · have hyp := ht c17
      clear ht hf
      exact hyp
    · have hyp := hf c17
      clear ht hf
      refine ex_iload 69 dX10_isShaky_67 rfl rfl ?_
      refine ex_iload_n 70 dX10_isShaky_69 rfl rfl ?_
      obtain ⟨o6, hyp⟩ := hyp
      obtain ⟨ht, hf⟩ := hyp
      refine ex_icmp_eq 99 73 dX10_isShaky_70 (by decide) rfl o1 o6 (fun c16 => ?_) (fun c16 => ?_)
      · have hyp := ht c16
        clear ht hf
        exact hyp
      · have hyp := hf c16
        clear ht hf
        refine ex_aload_n 74 dX10_isShaky_73 rfl rfl ?_
        refine ex_iload_n 75 dX10_isShaky_74 rfl rfl ?_
        refine ex_iload 77 dX10_isShaky_75 rfl rfl ?_
        refine s_callVi [vi x2, vi x6] 80 dX10_isShaky_77 rfl cvX10_172 rfl rfl ⟨Nat.le_of_ble_eq_true rfl, Nat.le_of_ble_eq_true rfl⟩ (Nat.le_of_ble_eq_true rfl) ⟨_, rfl⟩ hyp (fun y8 h1 hq => ?_)
        obtain ⟨m7, rfl, hyp⟩ := hq
        obtain ⟨o9, hyp⟩ := hyp
        obtain ⟨ht, hf⟩ := hyp
        refine ex_if_eq 99 83 dX10_isShaky_80 (by decide) rfl o9 (fun c15 => ?_) (fun c15 => ?_)
        · have hyp := ht c15
          clear ht hf
          exact hyp
        · have hyp := hf c15
          clear ht hf
          refine ex_aload_n 84 dX10_isShaky_83 rfl rfl ?_
          refine ex_iload_n 85 dX10_isShaky_84 rfl rfl ?_
          refine ex_iload 87 dX10_isShaky_85 rfl rfl ?_
          refine s_callVi [vi x2, vi x6] 90 dX10_isShaky_87 rfl cvX10_175 rfl rfl ⟨Nat.le_of_ble_eq_true rfl, Nat.le_of_ble_eq_true rfl⟩ (Nat.le_of_ble_eq_true rfl) ⟨_, rfl⟩ hyp (fun y11 h1 hq => ?_)
          obtain ⟨m10, rfl, hyp⟩ := hq
          refine ex_iload 92 dX10_isShaky_90 rfl rfl ?_
          obtain ⟨o12, hyp⟩ := hyp
          obtain ⟨o13, hyp⟩ := hyp
          obtain ⟨ht, hf⟩ := hyp
          refine ex_icmp_lt 99 95 dX10_isShaky_92 (by decide) rfl o12 o13 (fun c14 => ?_) (fun c14 => ?_)
          · have hyp := ht c14
            clear ht hf
            exact hyp
          · have hyp := hf c14
            clear ht hf
            refine ex_iconst 96 dX10_isShaky_95 rfl ?_
            refine ex_goto 100 dX10_isShaky_96 (by decide) ?_
            exact hyp
set_option maxRecDepth 4000 in
theorem uX10_isShaky_99 {P : Int → MS → Prop} (m0 : MS) (x2 : Int) (x3 : Int) (x4 : Int) (x5 : Int) (x6 : Int) (hyp : YYi mX10_isShaky 100 [some (vr 0), none, some (vi x2), some (vi x3), some (vi x4), some (vi x5), some (vi x6), none, none] [vi 0] m0 P) : YYi mX10_isShaky 99 [some (vr 0), none, some (vi x2), some (vi x3), some (vi x4), some (vi x5), some (vi x6), none, none] [] m0 P := by
  refine ex_iconst 100 dX10_isShaky_99 rfl ?_
  exact hyp
set_option maxRecDepth 4000 in
theorem uX10_isShaky_100 {P : Int → MS → Prop} (m0 : MS) (x2 : Int) (x3 : Int) (x4 : Int) (x5 : Int) (x6 : Int) (xs0 : Int) (hyp : 0 ≤ x6 ∧ x6 < 18 ∧ rng (m0 2 (x6).toNat) ∧ (¬ m0 2 (x6).toNat = 0 → (rng x5 ∧ (¬ x5 = 0 → (YYi mX10_isShaky 47 [some (vr 0), none, some (vi x2), some (vi x3), some (vi x4), some (vi 1), some (vi (x6 + 1)), none, none] [] m0 P)) ∧ (x5 = 0 → (rng xs0 ∧ (¬ xs0 = 0 → (YYi mX10_isShaky 47 [some (vr 0), none, some (vi x2), some (vi x3), some (vi x4), some (vi 1), some (vi (x6 + 1)), none, none] [] m0 P)) ∧ (xs0 = 0 → (YYi mX10_isShaky 47 [some (vr 0), none, some (vi x2), some (vi x3), some (vi x4), some (vi 0), some (vi (x6 + 1)), none, none] [] m0 P)))))) ∧ (m0 2 (x6).toNat = 0 → (rng x6 ∧ rng x2 ∧ (x6 = x2 → (rng x5 ∧ (¬ x5 = 0 → (YYi mX10_isShaky 47 [some (vr 0), none, some (vi x2), some (vi x3), some (vi x4), some (vi 1), some (vi (x6 + 1)), none, none] [] m0 P)) ∧ (x5 = 0 → (rng xs0 ∧ (¬ xs0 = 0 → (YYi mX10_isShaky 47 [some (vr 0), none, some (vi x2), some (vi x3), some (vi x4), some (vi 1), some (vi (x6 + 1)), none, none] [] m0 P)) ∧ (xs0 = 0 → (YYi mX10_isShaky 47 [some (vr 0), none, some (vi x2), some (vi x3), some (vi x4), some (vi 0), some (vi (x6 + 1)), none, none] [] m0 P)))))) ∧ (¬ x6 = x2 → (MMi mX10_isFit [vr 0, vi x6, vi x3] m0 (fun y15 m14 => rng y15 ∧ (y15 = 0 → (rng x5 ∧ (¬ x5 = 0 → (YYi mX10_isShaky 47 [some (vr 0), none, some (vi x2), some (vi x3), some (vi x4), some (vi 1), some (vi (x6 + 1)), none, none] [] m14 P)) ∧ (x5 = 0 → (rng xs0 ∧ (¬ xs0 = 0 → (YYi mX10_isShaky 47 [some (vr 0), none, some (vi x2), some (vi x3), some (vi x4), some (vi 1), some (vi (x6 + 1)), none, none] [] m14 P)) ∧ (xs0 = 0 → (YYi mX10_isShaky 47 [some (vr 0), none, some (vi x2), some (vi x3), some (vi x4), some (vi 0), some (vi (x6 + 1)), none, none] [] m14 P)))))) ∧ (¬ y15 = 0 → (MMi mX10_worthOf [vr 0, vi x6, vi x3] m14 (fun y22 m21 => rng y22 ∧ rng x4 ∧ (y22 < x4 → (rng x5 ∧ (¬ x5 = 0 → (YYi mX10_isShaky 47 [some (vr 0), none, some (vi x2), some (vi x3), some (vi x4), some (vi 1), some (vi (x6 + 1)), none, none] [] m21 P)) ∧ (x5 = 0 → (rng xs0 ∧ (¬ xs0 = 0 → (YYi mX10_isShaky 47 [some (vr 0), none, some (vi x2), some (vi x3), some (vi x4), some (vi 1), some (vi (x6 + 1)), none, none] [] m21 P)) ∧ (xs0 = 0 → (YYi mX10_isShaky 47 [some (vr 0), none, some (vi x2), some (vi x3), some (vi x4), some (vi 0), some (vi (x6 + 1)), none, none] [] m21 P)))))) ∧ (x4 ≤ y22 → (rng x5 ∧ (¬ x5 = 0 → (YYi mX10_isShaky 47 [some (vr 0), none, some (vi x2), some (vi x3), some (vi x4), some (vi 1), some (vi (x6 + 1)), none, none] [] m21 P)) ∧ (x5 = 0 → (rng xs0 ∧ (¬ xs0 = 0 → (YYi mX10_isShaky 47 [some (vr 0), none, some (vi x2), some (vi x3), some (vi x4), some (vi 1), some (vi (x6 + 1)), none, none] [] m21 P)) ∧ (xs0 = 0 → (YYi mX10_isShaky 47 [some (vr 0), none, some (vi x2), some (vi x3), some (vi x4), some (vi 1), some (vi (x6 + 1)), none, none] [] m21 P))))))))))))))) : YYi mX10_isShaky 100 [some (vr 0), none, some (vi x2), some (vi x3), some (vi x4), some (vi x5), some (vi x6), none, none] [vi xs0] m0 P := by
  refine q_istore [some (vr 0), none, some (vi x2), some (vi x3), some (vi x4), some (vi x5), some (vi x6), some (vi xs0), none] 102 dX10_isShaky_100 rfl (Nat.le_of_ble_eq_true rfl) rfl rfl ?_
  refine ex_aload_n 103 dX10_isShaky_102 rfl rfl ?_
  refine q_getR (a := 2) 10 3 106 dX10_isShaky_103 rfl fiX10_13 rfl ⟨_, rfl⟩ rfl ?_
  refine ex_iload 108 dX10_isShaky_106 rfl rfl ?_
  obtain ⟨o1, hyp⟩ := hyp
  obtain ⟨o2, hyp⟩ := hyp
  refine ex_iald 109 dX10_isShaky_108 rfl (ai_of (n := 18) rfl o1 o2 (by decide)) ?_
  obtain ⟨o3, hyp⟩ := hyp
  obtain ⟨ht, hf⟩ := hyp
  refine ex_if_ne 144 112 dX10_isShaky_109 (by decide) rfl o3 (fun c36 => ?_) (fun c36 => ?_)
  · have hyp := ht c36
    clear ht hf
    refine ex_iconst 145 dX10_isShaky_144 rfl ?_
    refine q_istore [some (vr 0), none, some (vi x2), some (vi x3), some (vi x4), some (vi x5), some (vi x6), some (vi xs0), some (vi 0)] 147 dX10_isShaky_145 rfl (Nat.le_of_ble_eq_true rfl) rfl rfl ?_
    refine ex_iload 149 dX10_isShaky_147 rfl rfl ?_
    obtain ⟨o4, hyp⟩ := hyp
    obtain ⟨ht, hf⟩ := hyp
    refine ex_if_ne 162 152 dX10_isShaky_149 (by decide) rfl o4 (fun c7 => ?_) (fun c7 => ?_)
    · have hyp := ht c7
      clear ht hf
      refine ex_iconst 163 dX10_isShaky_162 rfl ?_
      refine ex_goto 167 dX10_isShaky_163 (by decide) ?_
      refine q_istore [some (vr 0), none, some (vi x2), some (vi x3), some (vi x4), some (vi 1), some (vi x6), some (vi xs0), some (vi 0)] 169 dX10_isShaky_167 rfl (Nat.le_of_ble_eq_true rfl) rfl rfl ?_
      refine q_iinc [some (vr 0), none, some (vi x2), some (vi x3), some (vi x4), some (vi 1), some (vi (x6 + 1)), some (vi xs0), some (vi 0)] 172 dX10_isShaky_169 rfl rfl (Nat.le_of_ble_eq_true rfl) rfl rfl ?_
      refine ex_goto 47 dX10_isShaky_172 (by decide) ?_
      refine ex_dropL (ls' := [some (vr 0), none, some (vi x2), some (vi x3), some (vi x4), some (vi 1), some (vi (x6 + 1)), none, some (vi 0)]) 7 rfl ?_
      refine ex_dropL (ls' := [some (vr 0), none, some (vi x2), some (vi x3), some (vi x4), some (vi 1), some (vi (x6 + 1)), none, none]) 8 rfl ?_
      exact hyp
    · have hyp := hf c7
      clear ht hf
      refine ex_iload 154 dX10_isShaky_152 rfl rfl ?_
      obtain ⟨o5, hyp⟩ := hyp
      obtain ⟨ht, hf⟩ := hyp
      refine ex_if_ne 162 157 dX10_isShaky_154 (by decide) rfl o5 (fun c6 => ?_) (fun c6 => ?_)
      · have hyp := ht c6
        clear ht hf
        refine ex_iconst 163 dX10_isShaky_162 rfl ?_
        refine ex_goto 167 dX10_isShaky_163 (by decide) ?_
        refine q_istore [some (vr 0), none, some (vi x2), some (vi x3), some (vi x4), some (vi 1), some (vi x6), some (vi xs0), some (vi 0)] 169 dX10_isShaky_167 rfl (Nat.le_of_ble_eq_true rfl) rfl rfl ?_
        refine q_iinc [some (vr 0), none, some (vi x2), some (vi x3), some (vi x4), some (vi 1), some (vi (x6 + 1)), some (vi xs0), some (vi 0)] 172 dX10_isShaky_169 rfl rfl (Nat.le_of_ble_eq_true rfl) rfl rfl ?_
        refine ex_goto 47 dX10_isShaky_172 (by decide) ?_
        refine ex_dropL (ls' := [some (vr 0), none, some (vi x2), some (vi x3), some (vi x4), some (vi 1), some (vi (x6 + 1)), none, some (vi 0)]) 7 rfl ?_
        refine ex_dropL (ls' := [some (vr 0), none, some (vi x2), some (vi x3), some (vi x4), some (vi 1), some (vi (x6 + 1)), none, none]) 8 rfl ?_
        exact hyp
      · have hyp := hf c6
        clear ht hf
        refine ex_iload 159 dX10_isShaky_157 rfl rfl ?_
        refine ex_if_eq 166 162 dX10_isShaky_159 (by decide) rfl ⟨by decide, by decide⟩ (fun _ => ?_) (fun c => absurd c (by decide))
        refine ex_iconst 167 dX10_isShaky_166 rfl ?_
        refine q_istore [some (vr 0), none, some (vi x2), some (vi x3), some (vi x4), some (vi 0), some (vi x6), some (vi xs0), some (vi 0)] 169 dX10_isShaky_167 rfl (Nat.le_of_ble_eq_true rfl) rfl rfl ?_
        refine q_iinc [some (vr 0), none, some (vi x2), some (vi x3), some (vi x4), some (vi 0), some (vi (x6 + 1)), some (vi xs0), some (vi 0)] 172 dX10_isShaky_169 rfl rfl (Nat.le_of_ble_eq_true rfl) rfl rfl ?_
        refine ex_goto 47 dX10_isShaky_172 (by decide) ?_
        refine ex_dropL (ls' := [some (vr 0), none, some (vi x2), some (vi x3), some (vi x4), some (vi 0), some (vi (x6 + 1)), none, some (vi 0)]) 7 rfl ?_
        refine ex_dropL (ls' := [some (vr 0), none, some (vi x2), some (vi x3), some (vi x4), some (vi 0), some (vi (x6 + 1)), none, none]) 8 rfl ?_
        exact hyp
  · have hyp := hf c36
    clear ht hf
    refine ex_iload 114 dX10_isShaky_112 rfl rfl ?_
    refine ex_iload_n 115 dX10_isShaky_114 rfl rfl ?_
    obtain ⟨o8, hyp⟩ := hyp
    obtain ⟨o9, hyp⟩ := hyp
    obtain ⟨ht, hf⟩ := hyp
    refine ex_icmp_eq 144 118 dX10_isShaky_115 (by decide) rfl o8 o9 (fun c35 => ?_) (fun c35 => ?_)
    · have hyp := ht c35
      clear ht hf
      refine ex_iconst 145 dX10_isShaky_144 rfl ?_
      refine q_istore [some (vr 0), none, some (vi x2), some (vi x3), some (vi x4), some (vi x5), some (vi x6), some (vi xs0), some (vi 0)] 147 dX10_isShaky_145 rfl (Nat.le_of_ble_eq_true rfl) rfl rfl ?_
      refine ex_iload 149 dX10_isShaky_147 rfl rfl ?_
      obtain ⟨o10, hyp⟩ := hyp
      obtain ⟨ht, hf⟩ := hyp
      refine ex_if_ne 162 152 dX10_isShaky_149 (by decide) rfl o10 (fun c13 => ?_) (fun c13 => ?_)
      · have hyp := ht c13
        clear ht hf
        refine ex_iconst 163 dX10_isShaky_162 rfl ?_
        refine ex_goto 167 dX10_isShaky_163 (by decide) ?_
        refine q_istore [some (vr 0), none, some (vi x2), some (vi x3), some (vi x4), some (vi 1), some (vi x6), some (vi xs0), some (vi 0)] 169 dX10_isShaky_167 rfl (Nat.le_of_ble_eq_true rfl) rfl rfl ?_
        refine q_iinc [some (vr 0), none, some (vi x2), some (vi x3), some (vi x4), some (vi 1), some (vi (x6 + 1)), some (vi xs0), some (vi 0)] 172 dX10_isShaky_169 rfl rfl (Nat.le_of_ble_eq_true rfl) rfl rfl ?_
        refine ex_goto 47 dX10_isShaky_172 (by decide) ?_
        refine ex_dropL (ls' := [some (vr 0), none, some (vi x2), some (vi x3), some (vi x4), some (vi 1), some (vi (x6 + 1)), none, some (vi 0)]) 7 rfl ?_
        refine ex_dropL (ls' := [some (vr 0), none, some (vi x2), some (vi x3), some (vi x4), some (vi 1), some (vi (x6 + 1)), none, none]) 8 rfl ?_
        exact hyp
      · have hyp := hf c13
        clear ht hf
        refine ex_iload 154 dX10_isShaky_152 rfl rfl ?_
        obtain ⟨o11, hyp⟩ := hyp
        obtain ⟨ht, hf⟩ := hyp
        refine ex_if_ne 162 157 dX10_isShaky_154 (by decide) rfl o11 (fun c12 => ?_) (fun c12 => ?_)
        · have hyp := ht c12
          clear ht hf
          refine ex_iconst 163 dX10_isShaky_162 rfl ?_
          refine ex_goto 167 dX10_isShaky_163 (by decide) ?_
          refine q_istore [some (vr 0), none, some (vi x2), some (vi x3), some (vi x4), some (vi 1), some (vi x6), some (vi xs0), some (vi 0)] 169 dX10_isShaky_167 rfl (Nat.le_of_ble_eq_true rfl) rfl rfl ?_
          refine q_iinc [some (vr 0), none, some (vi x2), some (vi x3), some (vi x4), some (vi 1), some (vi (x6 + 1)), some (vi xs0), some (vi 0)] 172 dX10_isShaky_169 rfl rfl (Nat.le_of_ble_eq_true rfl) rfl rfl ?_
          refine ex_goto 47 dX10_isShaky_172 (by decide) ?_
          refine ex_dropL (ls' := [some (vr 0), none, some (vi x2), some (vi x3), some (vi x4), some (vi 1), some (vi (x6 + 1)), none, some (vi 0)]) 7 rfl ?_
          refine ex_dropL (ls' := [some (vr 0), none, some (vi x2), some (vi x3), some (vi x4), some (vi 1), some (vi (x6 + 1)), none, none]) 8 rfl ?_
          exact hyp
        · have hyp := hf c12
          clear ht hf
          refine ex_iload 159 dX10_isShaky_157 rfl rfl ?_
          refine ex_if_eq 166 162 dX10_isShaky_159 (by decide) rfl ⟨by decide, by decide⟩ (fun _ => ?_) (fun c => absurd c (by decide))
          refine ex_iconst 167 dX10_isShaky_166 rfl ?_
          refine q_istore [some (vr 0), none, some (vi x2), some (vi x3), some (vi x4), some (vi 0), some (vi x6), some (vi xs0), some (vi 0)] 169 dX10_isShaky_167 rfl (Nat.le_of_ble_eq_true rfl) rfl rfl ?_
          refine q_iinc [some (vr 0), none, some (vi x2), some (vi x3), some (vi x4), some (vi 0), some (vi (x6 + 1)), some (vi xs0), some (vi 0)] 172 dX10_isShaky_169 rfl rfl (Nat.le_of_ble_eq_true rfl) rfl rfl ?_
          refine ex_goto 47 dX10_isShaky_172 (by decide) ?_
          refine ex_dropL (ls' := [some (vr 0), none, some (vi x2), some (vi x3), some (vi x4), some (vi 0), some (vi (x6 + 1)), none, some (vi 0)]) 7 rfl ?_
          refine ex_dropL (ls' := [some (vr 0), none, some (vi x2), some (vi x3), some (vi x4), some (vi 0), some (vi (x6 + 1)), none, none]) 8 rfl ?_
          exact hyp
    · have hyp := hf c35
      clear ht hf
      refine ex_aload_n 119 dX10_isShaky_118 rfl rfl ?_
      refine ex_iload 121 dX10_isShaky_119 rfl rfl ?_
      refine ex_iload_n 122 dX10_isShaky_121 rfl rfl ?_
      refine s_callVi [vi x6, vi x3] 125 dX10_isShaky_122 rfl cvX10_172 rfl rfl ⟨Nat.le_of_ble_eq_true rfl, Nat.le_of_ble_eq_true rfl⟩ (Nat.le_of_ble_eq_true rfl) ⟨_, rfl⟩ hyp (fun y15 h1 hq => ?_)
      obtain ⟨m14, rfl, hyp⟩ := hq
      obtain ⟨o16, hyp⟩ := hyp
      obtain ⟨ht, hf⟩ := hyp
      refine ex_if_eq 144 128 dX10_isShaky_125 (by decide) rfl o16 (fun c34 => ?_) (fun c34 => ?_)
      · have hyp := ht c34
        clear ht hf
        refine ex_iconst 145 dX10_isShaky_144 rfl ?_
        refine q_istore [some (vr 0), none, some (vi x2), some (vi x3), some (vi x4), some (vi x5), some (vi x6), some (vi xs0), some (vi 0)] 147 dX10_isShaky_145 rfl (Nat.le_of_ble_eq_true rfl) rfl rfl ?_
        refine ex_iload 149 dX10_isShaky_147 rfl rfl ?_
        obtain ⟨o17, hyp⟩ := hyp
        obtain ⟨ht, hf⟩ := hyp
        refine ex_if_ne 162 152 dX10_isShaky_149 (by decide) rfl o17 (fun c20 => ?_) (fun c20 => ?_)
        · have hyp := ht c20
          clear ht hf
          refine ex_iconst 163 dX10_isShaky_162 rfl ?_
          refine ex_goto 167 dX10_isShaky_163 (by decide) ?_
          refine q_istore [some (vr 0), none, some (vi x2), some (vi x3), some (vi x4), some (vi 1), some (vi x6), some (vi xs0), some (vi 0)] 169 dX10_isShaky_167 rfl (Nat.le_of_ble_eq_true rfl) rfl rfl ?_
          refine q_iinc [some (vr 0), none, some (vi x2), some (vi x3), some (vi x4), some (vi 1), some (vi (x6 + 1)), some (vi xs0), some (vi 0)] 172 dX10_isShaky_169 rfl rfl (Nat.le_of_ble_eq_true rfl) rfl rfl ?_
          refine ex_goto 47 dX10_isShaky_172 (by decide) ?_
          refine ex_dropL (ls' := [some (vr 0), none, some (vi x2), some (vi x3), some (vi x4), some (vi 1), some (vi (x6 + 1)), none, some (vi 0)]) 7 rfl ?_
          refine ex_dropL (ls' := [some (vr 0), none, some (vi x2), some (vi x3), some (vi x4), some (vi 1), some (vi (x6 + 1)), none, none]) 8 rfl ?_
          exact hyp
        · have hyp := hf c20
          clear ht hf
          refine ex_iload 154 dX10_isShaky_152 rfl rfl ?_
          obtain ⟨o18, hyp⟩ := hyp
          obtain ⟨ht, hf⟩ := hyp
          refine ex_if_ne 162 157 dX10_isShaky_154 (by decide) rfl o18 (fun c19 => ?_) (fun c19 => ?_)
          · have hyp := ht c19
            clear ht hf
            refine ex_iconst 163 dX10_isShaky_162 rfl ?_
            refine ex_goto 167 dX10_isShaky_163 (by decide) ?_
            refine q_istore [some (vr 0), none, some (vi x2), some (vi x3), some (vi x4), some (vi 1), some (vi x6), some (vi xs0), some (vi 0)] 169 dX10_isShaky_167 rfl (Nat.le_of_ble_eq_true rfl) rfl rfl ?_
            refine q_iinc [some (vr 0), none, some (vi x2), some (vi x3), some (vi x4), some (vi 1), some (vi (x6 + 1)), some (vi xs0), some (vi 0)] 172 dX10_isShaky_169 rfl rfl (Nat.le_of_ble_eq_true rfl) rfl rfl ?_
            refine ex_goto 47 dX10_isShaky_172 (by decide) ?_
            refine ex_dropL (ls' := [some (vr 0), none, some (vi x2), some (vi x3), some (vi x4), some (vi 1), some (vi (x6 + 1)), none, some (vi 0)]) 7 rfl ?_
            refine ex_dropL (ls' := [some (vr 0), none, some (vi x2), some (vi x3), some (vi x4), some (vi 1), some (vi (x6 + 1)), none, none]) 8 rfl ?_
            exact hyp
          · have hyp := hf c19
            clear ht hf
            refine ex_iload 159 dX10_isShaky_157 rfl rfl ?_
            refine ex_if_eq 166 162 dX10_isShaky_159 (by decide) rfl ⟨by decide, by decide⟩ (fun _ => ?_) (fun c => absurd c (by decide))
            refine ex_iconst 167 dX10_isShaky_166 rfl ?_
            refine q_istore [some (vr 0), none, some (vi x2), some (vi x3), some (vi x4), some (vi 0), some (vi x6), some (vi xs0), some (vi 0)] 169 dX10_isShaky_167 rfl (Nat.le_of_ble_eq_true rfl) rfl rfl ?_
            refine q_iinc [some (vr 0), none, some (vi x2), some (vi x3), some (vi x4), some (vi 0), some (vi (x6 + 1)), some (vi xs0), some (vi 0)] 172 dX10_isShaky_169 rfl rfl (Nat.le_of_ble_eq_true rfl) rfl rfl ?_
            refine ex_goto 47 dX10_isShaky_172 (by decide) ?_
            refine ex_dropL (ls' := [some (vr 0), none, some (vi x2), some (vi x3), some (vi x4), some (vi 0), some (vi (x6 + 1)), none, some (vi 0)]) 7 rfl ?_
            refine ex_dropL (ls' := [some (vr 0), none, some (vi x2), some (vi x3), some (vi x4), some (vi 0), some (vi (x6 + 1)), none, none]) 8 rfl ?_
            exact hyp
      · have hyp := hf c34
        clear ht hf
        refine ex_aload_n 129 dX10_isShaky_128 rfl rfl ?_
        refine ex_iload 131 dX10_isShaky_129 rfl rfl ?_
        refine ex_iload_n 132 dX10_isShaky_131 rfl rfl ?_
        refine s_callVi [vi x6, vi x3] 135 dX10_isShaky_132 rfl cvX10_175 rfl rfl ⟨Nat.le_of_ble_eq_true rfl, Nat.le_of_ble_eq_true rfl⟩ (Nat.le_of_ble_eq_true rfl) ⟨_, rfl⟩ hyp (fun y22 h1 hq => ?_)
        obtain ⟨m21, rfl, hyp⟩ := hq
        refine ex_iload 137 dX10_isShaky_135 rfl rfl ?_
        obtain ⟨o23, hyp⟩ := hyp
        obtain ⟨o24, hyp⟩ := hyp
        obtain ⟨ht, hf⟩ := hyp
        refine ex_icmp_lt 144 140 dX10_isShaky_137 (by decide) rfl o23 o24 (fun c33 => ?_) (fun c33 => ?_)
        · have hyp := ht c33
          clear ht hf
          refine ex_iconst 145 dX10_isShaky_144 rfl ?_
          refine q_istore [some (vr 0), none, some (vi x2), some (vi x3), some (vi x4), some (vi x5), some (vi x6), some (vi xs0), some (vi 0)] 147 dX10_isShaky_145 rfl (Nat.le_of_ble_eq_true rfl) rfl rfl ?_
          refine ex_iload 149 dX10_isShaky_147 rfl rfl ?_
          obtain ⟨o25, hyp⟩ := hyp
          obtain ⟨ht, hf⟩ := hyp
          refine ex_if_ne 162 152 dX10_isShaky_149 (by decide) rfl o25 (fun c28 => ?_) (fun c28 => ?_)
          · have hyp := ht c28
            clear ht hf
            refine ex_iconst 163 dX10_isShaky_162 rfl ?_
            refine ex_goto 167 dX10_isShaky_163 (by decide) ?_
            refine q_istore [some (vr 0), none, some (vi x2), some (vi x3), some (vi x4), some (vi 1), some (vi x6), some (vi xs0), some (vi 0)] 169 dX10_isShaky_167 rfl (Nat.le_of_ble_eq_true rfl) rfl rfl ?_
            refine q_iinc [some (vr 0), none, some (vi x2), some (vi x3), some (vi x4), some (vi 1), some (vi (x6 + 1)), some (vi xs0), some (vi 0)] 172 dX10_isShaky_169 rfl rfl (Nat.le_of_ble_eq_true rfl) rfl rfl ?_
            refine ex_goto 47 dX10_isShaky_172 (by decide) ?_
            refine ex_dropL (ls' := [some (vr 0), none, some (vi x2), some (vi x3), some (vi x4), some (vi 1), some (vi (x6 + 1)), none, some (vi 0)]) 7 rfl ?_
            refine ex_dropL (ls' := [some (vr 0), none, some (vi x2), some (vi x3), some (vi x4), some (vi 1), some (vi (x6 + 1)), none, none]) 8 rfl ?_
            exact hyp
          · have hyp := hf c28
            clear ht hf
            refine ex_iload 154 dX10_isShaky_152 rfl rfl ?_
            obtain ⟨o26, hyp⟩ := hyp
            obtain ⟨ht, hf⟩ := hyp
            refine ex_if_ne 162 157 dX10_isShaky_154 (by decide) rfl o26 (fun c27 => ?_) (fun c27 => ?_)
            · have hyp := ht c27
              clear ht hf
              refine ex_iconst 163 dX10_isShaky_162 rfl ?_
              refine ex_goto 167 dX10_isShaky_163 (by decide) ?_
              refine q_istore [some (vr 0), none, some (vi x2), some (vi x3), some (vi x4), some (vi 1), some (vi x6), some (vi xs0), some (vi 0)] 169 dX10_isShaky_167 rfl (Nat.le_of_ble_eq_true rfl) rfl rfl ?_
              refine q_iinc [some (vr 0), none, some (vi x2), some (vi x3), some (vi x4), some (vi 1), some (vi (x6 + 1)), some (vi xs0), some (vi 0)] 172 dX10_isShaky_169 rfl rfl (Nat.le_of_ble_eq_true rfl) rfl rfl ?_
              refine ex_goto 47 dX10_isShaky_172 (by decide) ?_
              refine ex_dropL (ls' := [some (vr 0), none, some (vi x2), some (vi x3), some (vi x4), some (vi 1), some (vi (x6 + 1)), none, some (vi 0)]) 7 rfl ?_
              refine ex_dropL (ls' := [some (vr 0), none, some (vi x2), some (vi x3), some (vi x4), some (vi 1), some (vi (x6 + 1)), none, none]) 8 rfl ?_
              exact hyp
            · have hyp := hf c27
              clear ht hf
              refine ex_iload 159 dX10_isShaky_157 rfl rfl ?_
              refine ex_if_eq 166 162 dX10_isShaky_159 (by decide) rfl ⟨by decide, by decide⟩ (fun _ => ?_) (fun c => absurd c (by decide))
              refine ex_iconst 167 dX10_isShaky_166 rfl ?_
              refine q_istore [some (vr 0), none, some (vi x2), some (vi x3), some (vi x4), some (vi 0), some (vi x6), some (vi xs0), some (vi 0)] 169 dX10_isShaky_167 rfl (Nat.le_of_ble_eq_true rfl) rfl rfl ?_
              refine q_iinc [some (vr 0), none, some (vi x2), some (vi x3), some (vi x4), some (vi 0), some (vi (x6 + 1)), some (vi xs0), some (vi 0)] 172 dX10_isShaky_169 rfl rfl (Nat.le_of_ble_eq_true rfl) rfl rfl ?_
              refine ex_goto 47 dX10_isShaky_172 (by decide) ?_
              refine ex_dropL (ls' := [some (vr 0), none, some (vi x2), some (vi x3), some (vi x4), some (vi 0), some (vi (x6 + 1)), none, some (vi 0)]) 7 rfl ?_
              refine ex_dropL (ls' := [some (vr 0), none, some (vi x2), some (vi x3), some (vi x4), some (vi 0), some (vi (x6 + 1)), none, none]) 8 rfl ?_
              exact hyp
        · have hyp := hf c33
          clear ht hf
          refine ex_iconst 141 dX10_isShaky_140 rfl ?_
          refine ex_goto 145 dX10_isShaky_141 (by decide) ?_
          refine q_istore [some (vr 0), none, some (vi x2), some (vi x3), some (vi x4), some (vi x5), some (vi x6), some (vi xs0), some (vi 1)] 147 dX10_isShaky_145 rfl (Nat.le_of_ble_eq_true rfl) rfl rfl ?_
          refine ex_iload 149 dX10_isShaky_147 rfl rfl ?_
          obtain ⟨o29, hyp⟩ := hyp
          obtain ⟨ht, hf⟩ := hyp
          refine ex_if_ne 162 152 dX10_isShaky_149 (by decide) rfl o29 (fun c32 => ?_) (fun c32 => ?_)
          · have hyp := ht c32
            clear ht hf
            refine ex_iconst 163 dX10_isShaky_162 rfl ?_
            refine ex_goto 167 dX10_isShaky_163 (by decide) ?_
            refine q_istore [some (vr 0), none, some (vi x2), some (vi x3), some (vi x4), some (vi 1), some (vi x6), some (vi xs0), some (vi 1)] 169 dX10_isShaky_167 rfl (Nat.le_of_ble_eq_true rfl) rfl rfl ?_
            refine q_iinc [some (vr 0), none, some (vi x2), some (vi x3), some (vi x4), some (vi 1), some (vi (x6 + 1)), some (vi xs0), some (vi 1)] 172 dX10_isShaky_169 rfl rfl (Nat.le_of_ble_eq_true rfl) rfl rfl ?_
            refine ex_goto 47 dX10_isShaky_172 (by decide) ?_
            refine ex_dropL (ls' := [some (vr 0), none, some (vi x2), some (vi x3), some (vi x4), some (vi 1), some (vi (x6 + 1)), none, some (vi 1)]) 7 rfl ?_
            refine ex_dropL (ls' := [some (vr 0), none, some (vi x2), some (vi x3), some (vi x4), some (vi 1), some (vi (x6 + 1)), none, none]) 8 rfl ?_
            exact hyp
          · have hyp := hf c32
            clear ht hf
            refine ex_iload 154 dX10_isShaky_152 rfl rfl ?_
            obtain ⟨o30, hyp⟩ := hyp
            obtain ⟨ht, hf⟩ := hyp
            refine ex_if_ne 162 157 dX10_isShaky_154 (by decide) rfl o30 (fun c31 => ?_) (fun c31 => ?_)
            · have hyp := ht c31
              clear ht hf
              refine ex_iconst 163 dX10_isShaky_162 rfl ?_
              refine ex_goto 167 dX10_isShaky_163 (by decide) ?_
              refine q_istore [some (vr 0), none, some (vi x2), some (vi x3), some (vi x4), some (vi 1), some (vi x6), some (vi xs0), some (vi 1)] 169 dX10_isShaky_167 rfl (Nat.le_of_ble_eq_true rfl) rfl rfl ?_
              refine q_iinc [some (vr 0), none, some (vi x2), some (vi x3), some (vi x4), some (vi 1), some (vi (x6 + 1)), some (vi xs0), some (vi 1)] 172 dX10_isShaky_169 rfl rfl (Nat.le_of_ble_eq_true rfl) rfl rfl ?_
              refine ex_goto 47 dX10_isShaky_172 (by decide) ?_
              refine ex_dropL (ls' := [some (vr 0), none, some (vi x2), some (vi x3), some (vi x4), some (vi 1), some (vi (x6 + 1)), none, some (vi 1)]) 7 rfl ?_
              refine ex_dropL (ls' := [some (vr 0), none, some (vi x2), some (vi x3), some (vi x4), some (vi 1), some (vi (x6 + 1)), none, none]) 8 rfl ?_
              exact hyp
            · have hyp := hf c31
              clear ht hf
              refine ex_iload 159 dX10_isShaky_157 rfl rfl ?_
              refine ex_if_eq 166 162 dX10_isShaky_159 (by decide) rfl ⟨by decide, by decide⟩ (fun c => absurd c (by decide)) (fun _ => ?_)
              refine ex_iconst 163 dX10_isShaky_162 rfl ?_
              refine ex_goto 167 dX10_isShaky_163 (by decide) ?_
              refine q_istore [some (vr 0), none, some (vi x2), some (vi x3), some (vi x4), some (vi 1), some (vi x6), some (vi xs0), some (vi 1)] 169 dX10_isShaky_167 rfl (Nat.le_of_ble_eq_true rfl) rfl rfl ?_
              refine q_iinc [some (vr 0), none, some (vi x2), some (vi x3), some (vi x4), some (vi 1), some (vi (x6 + 1)), some (vi xs0), some (vi 1)] 172 dX10_isShaky_169 rfl rfl (Nat.le_of_ble_eq_true rfl) rfl rfl ?_
              refine ex_goto 47 dX10_isShaky_172 (by decide) ?_
              refine ex_dropL (ls' := [some (vr 0), none, some (vi x2), some (vi x3), some (vi x4), some (vi 1), some (vi (x6 + 1)), none, some (vi 1)]) 7 rfl ?_
              refine ex_dropL (ls' := [some (vr 0), none, some (vi x2), some (vi x3), some (vi x4), some (vi 1), some (vi (x6 + 1)), none, none]) 8 rfl ?_
              exact hyp
set_option maxRecDepth 4000 in
theorem uX10_entriesOf {P : Int → MS → Prop} (m0 : MS) (x1 : Int) (hyp : YYi mX10_entriesOf 4 [some (vr 0), some (vi x1), some (vi 0), some (vi 0)] [] m0 P) : MMi mX10_entriesOf [vr 0, vi x1] m0 P := by
  refine met_of_ex (by decide +kernel) (Nat.le_of_ble_eq_true rfl) ?_
  show EX mX10_entriesOf 0 [some (vr 0), some (vi x1), none, none] [] (hM m0) (0, 0) _
  refine ex_iconst 1 dX10_entriesOf_0 rfl ?_
  refine q_istore_n [some (vr 0), some (vi x1), some (vi 0), none] 2 dX10_entriesOf_1 rfl (Nat.le_of_ble_eq_true rfl) rfl rfl ?_
  refine ex_iconst 3 dX10_entriesOf_2 rfl ?_
  refine q_istore_n [some (vr 0), some (vi x1), some (vi 0), some (vi 0)] 4 dX10_entriesOf_3 rfl (Nat.le_of_ble_eq_true rfl) rfl rfl ?_
  exact hyp
set_option maxRecDepth 4000 in
theorem uX10_entriesOf_4 {P : Int → MS → Prop} (m0 : MS) (x1 : Int) (x2 : Int) (x3 : Int) (hyp : rng x3 ∧ rng (m0 0 2) ∧ (m0 0 2 ≤ x3 → (P x2 m0)) ∧ (x3 < m0 0 2 → (MMi mX10_isOf [vr 0, vi x3, vi x1] m0 (fun y4 m3 => rng y4 ∧ (y4 = 0 → (YYi mX10_entriesOf 4 [some (vr 0), some (vi x1), some (vi (x2 + 0)), some (vi (x3 + 1))] [] m3 P)) ∧ (¬ y4 = 0 → (YYi mX10_entriesOf 4 [some (vr 0), some (vi x1), some (vi (x2 + 1)), some (vi (x3 + 1))] [] m3 P)))))) : YYi mX10_entriesOf 4 [some (vr 0), some (vi x1), some (vi x2), some (vi x3)] [] m0 P := by
  refine ex_iload_n 5 dX10_entriesOf_4 rfl rfl ?_
  refine ex_aload_n 6 dX10_entriesOf_5 rfl rfl ?_
  refine q_getI 10 2 9 dX10_entriesOf_6 rfl fiX10_118 (Or.inl rfl) ⟨_, rfl⟩ ?_
  obtain ⟨o1, hyp⟩ := hyp
  obtain ⟨o2, hyp⟩ := hyp
  obtain ⟨ht, hf⟩ := hyp
  refine ex_icmp_ge 35 12 dX10_entriesOf_9 (by decide) rfl o1 o2 (fun c7 => ?_) (fun c7 => ?_)
  · have hyp := ht c7
    clear ht hf
    refine ex_iload_n 36 dX10_entriesOf_35 rfl rfl ?_
    exact ex_iret dX10_entriesOf_36 (Or.inl rfl) ⟨_, rfl, _, rfl, hyp⟩
  · have hyp := hf c7
    clear ht hf
    refine ex_iload_n 13 dX10_entriesOf_12 rfl rfl ?_
    refine ex_aload_n 14 dX10_entriesOf_13 rfl rfl ?_
    refine ex_iload_n 15 dX10_entriesOf_14 rfl rfl ?_
    refine ex_iload_n 16 dX10_entriesOf_15 rfl rfl ?_
    refine s_callVi [vi x3, vi x1] 19 dX10_entriesOf_16 rfl cvX10_222 rfl rfl ⟨Nat.le_of_ble_eq_true rfl, Nat.le_of_ble_eq_true rfl⟩ (Nat.le_of_ble_eq_true rfl) ⟨_, rfl⟩ hyp (fun y4 h1 hq => ?_)
    obtain ⟨m3, rfl, hyp⟩ := hq
    obtain ⟨o5, hyp⟩ := hyp
    obtain ⟨ht, hf⟩ := hyp
    refine ex_if_eq 26 22 dX10_entriesOf_19 (by decide) rfl o5 (fun c6 => ?_) (fun c6 => ?_)
    · have hyp := ht c6
      clear ht hf
      refine ex_iconst 27 dX10_entriesOf_26 rfl ?_
      refine ex_iadd 28 dX10_entriesOf_27 rfl ?_
      refine q_istore_n [some (vr 0), some (vi x1), some (vi (x2 + 0)), some (vi x3)] 29 dX10_entriesOf_28 rfl (Nat.le_of_ble_eq_true rfl) rfl rfl ?_
      refine q_iinc [some (vr 0), some (vi x1), some (vi (x2 + 0)), some (vi (x3 + 1))] 32 dX10_entriesOf_29 rfl rfl (Nat.le_of_ble_eq_true rfl) rfl rfl ?_
      refine ex_goto 4 dX10_entriesOf_32 (by decide) ?_
      exact hyp
    · have hyp := hf c6
      clear ht hf
      refine ex_iconst 23 dX10_entriesOf_22 rfl ?_
      refine ex_goto 27 dX10_entriesOf_23 (by decide) ?_
      refine ex_iadd 28 dX10_entriesOf_27 rfl ?_
      refine q_istore_n [some (vr 0), some (vi x1), some (vi (x2 + 1)), some (vi x3)] 29 dX10_entriesOf_28 rfl (Nat.le_of_ble_eq_true rfl) rfl rfl ?_
      refine q_iinc [some (vr 0), some (vi x1), some (vi (x2 + 1)), some (vi (x3 + 1))] 32 dX10_entriesOf_29 rfl rfl (Nat.le_of_ble_eq_true rfl) rfl rfl ?_
      refine ex_goto 4 dX10_entriesOf_32 (by decide) ?_
      exact hyp
set_option maxRecDepth 4000 in
theorem uX10_doubtful {P : Int → MS → Prop} (m0 : MS)  (hyp : YYi mX10_doubtful 4 [some (vr 0), some (vi 0), some (vi 0)] [] m0 P) : MMi mX10_doubtful [vr 0] m0 P := by
  refine met_of_ex (by decide +kernel) (Nat.le_of_ble_eq_true rfl) ?_
  show EX mX10_doubtful 0 [some (vr 0), none, none] [] (hM m0) (0, 0) _
  refine ex_iconst 1 dX10_doubtful_0 rfl ?_
  refine q_istore_n [some (vr 0), some (vi 0), none] 2 dX10_doubtful_1 rfl (Nat.le_of_ble_eq_true rfl) rfl rfl ?_
  refine ex_iconst 3 dX10_doubtful_2 rfl ?_
  refine q_istore_n [some (vr 0), some (vi 0), some (vi 0)] 4 dX10_doubtful_3 rfl (Nat.le_of_ble_eq_true rfl) rfl rfl ?_
  exact hyp
set_option maxRecDepth 4000 in
theorem uX10_doubtful_4 {P : Int → MS → Prop} (m0 : MS) (x1 : Int) (x2 : Int) (hyp : rng x2 ∧ rng (m0 0 2) ∧ (m0 0 2 ≤ x2 → (P x1 m0)) ∧ (x2 < m0 0 2 → (0 ≤ x2 ∧ x2 < 18 ∧ rng (m0 22 (x2).toNat) ∧ (¬ m0 22 (x2).toNat = (-1) → (YYi mX10_doubtful 4 [some (vr 0), some (vi (x1 + 0)), some (vi (x2 + 1))] [] m0 P)) ∧ (m0 22 (x2).toNat = (-1) → (YYi mX10_doubtful 4 [some (vr 0), some (vi (x1 + 1)), some (vi (x2 + 1))] [] m0 P))))) : YYi mX10_doubtful 4 [some (vr 0), some (vi x1), some (vi x2)] [] m0 P := by
  refine ex_iload_n 5 dX10_doubtful_4 rfl rfl ?_
  refine ex_aload_n 6 dX10_doubtful_5 rfl rfl ?_
  refine q_getI 10 2 9 dX10_doubtful_6 rfl fiX10_118 (Or.inl rfl) ⟨_, rfl⟩ ?_
  obtain ⟨o1, hyp⟩ := hyp
  obtain ⟨o2, hyp⟩ := hyp
  obtain ⟨ht, hf⟩ := hyp
  refine ex_icmp_ge 36 12 dX10_doubtful_9 (by decide) rfl o1 o2 (fun c7 => ?_) (fun c7 => ?_)
  · have hyp := ht c7
    clear ht hf
    refine ex_iload_n 37 dX10_doubtful_36 rfl rfl ?_
    exact ex_iret dX10_doubtful_37 (Or.inl rfl) ⟨_, rfl, _, rfl, hyp⟩
  · have hyp := hf c7
    clear ht hf
    refine ex_iload_n 13 dX10_doubtful_12 rfl rfl ?_
    refine ex_aload_n 14 dX10_doubtful_13 rfl rfl ?_
    refine q_getR (a := 22) 10 32 17 dX10_doubtful_14 rfl fiX10_73 rfl ⟨_, rfl⟩ rfl ?_
    refine ex_iload_n 18 dX10_doubtful_17 rfl rfl ?_
    obtain ⟨o3, hyp⟩ := hyp
    obtain ⟨o4, hyp⟩ := hyp
    refine ex_iald 19 dX10_doubtful_18 rfl (ai_of (n := 18) rfl o3 o4 (by decide)) ?_
    refine ex_iconst 20 dX10_doubtful_19 rfl ?_
    obtain ⟨o5, hyp⟩ := hyp
    obtain ⟨ht, hf⟩ := hyp
    refine ex_icmp_ne 27 23 dX10_doubtful_20 (by decide) rfl o5 ⟨by decide, by decide⟩ (fun c6 => ?_) (fun c6 => ?_)
    · have hyp := ht c6
      clear ht hf
      refine ex_iconst 28 dX10_doubtful_27 rfl ?_
      refine ex_iadd 29 dX10_doubtful_28 rfl ?_
      refine q_istore_n [some (vr 0), some (vi (x1 + 0)), some (vi x2)] 30 dX10_doubtful_29 rfl (Nat.le_of_ble_eq_true rfl) rfl rfl ?_
      refine q_iinc [some (vr 0), some (vi (x1 + 0)), some (vi (x2 + 1))] 33 dX10_doubtful_30 rfl rfl (Nat.le_of_ble_eq_true rfl) rfl rfl ?_
      refine ex_goto 4 dX10_doubtful_33 (by decide) ?_
      exact hyp
    · have hyp := hf c6
      clear ht hf
      refine ex_iconst 24 dX10_doubtful_23 rfl ?_
      refine ex_goto 28 dX10_doubtful_24 (by decide) ?_
      refine ex_iadd 29 dX10_doubtful_28 rfl ?_
      refine q_istore_n [some (vr 0), some (vi (x1 + 1)), some (vi x2)] 30 dX10_doubtful_29 rfl (Nat.le_of_ble_eq_true rfl) rfl rfl ?_
      refine q_iinc [some (vr 0), some (vi (x1 + 1)), some (vi (x2 + 1))] 33 dX10_doubtful_30 rfl rfl (Nat.le_of_ble_eq_true rfl) rfl rfl ?_
      refine ex_goto 4 dX10_doubtful_33 (by decide) ?_
      exact hyp
set_option maxRecDepth 4000 in
theorem uX10_shakyMany {P : Int → MS → Prop} (m0 : MS)  (hyp : YYi mX10_shakyMany 4 [some (vr 0), some (vi 0), some (vi 0)] [] m0 P) : MMi mX10_shakyMany [vr 0] m0 P := by
  refine met_of_ex (by decide +kernel) (Nat.le_of_ble_eq_true rfl) ?_
  show EX mX10_shakyMany 0 [some (vr 0), none, none] [] (hM m0) (0, 0) _
  refine ex_iconst 1 dX10_shakyMany_0 rfl ?_
  refine q_istore_n [some (vr 0), some (vi 0), none] 2 dX10_shakyMany_1 rfl (Nat.le_of_ble_eq_true rfl) rfl rfl ?_
  refine ex_iconst 3 dX10_shakyMany_2 rfl ?_
  refine q_istore_n [some (vr 0), some (vi 0), some (vi 0)] 4 dX10_shakyMany_3 rfl (Nat.le_of_ble_eq_true rfl) rfl rfl ?_
  exact hyp
set_option maxRecDepth 4000 in
theorem uX10_shakyMany_4 {P : Int → MS → Prop} (m0 : MS) (x1 : Int) (x2 : Int) (hyp : rng x2 ∧ rng (m0 0 28) ∧ (m0 0 28 ≤ x2 → (P x1 m0)) ∧ (x2 < m0 0 28 → (MMi mX10_isShaky [vr 0, vi x2] m0 (fun y4 m3 => rng y4 ∧ (y4 = 0 → (YYi mX10_shakyMany 4 [some (vr 0), some (vi (x1 + 0)), some (vi (x2 + 1))] [] m3 P)) ∧ (¬ y4 = 0 → (YYi mX10_shakyMany 4 [some (vr 0), some (vi (x1 + 1)), some (vi (x2 + 1))] [] m3 P)))))) : YYi mX10_shakyMany 4 [some (vr 0), some (vi x1), some (vi x2)] [] m0 P := by
  refine ex_iload_n 5 dX10_shakyMany_4 rfl rfl ?_
  refine ex_aload_n 6 dX10_shakyMany_5 rfl rfl ?_
  refine q_getI 10 28 9 dX10_shakyMany_6 rfl fiX10_212 (Or.inl rfl) ⟨_, rfl⟩ ?_
  obtain ⟨o1, hyp⟩ := hyp
  obtain ⟨o2, hyp⟩ := hyp
  obtain ⟨ht, hf⟩ := hyp
  refine ex_icmp_ge 34 12 dX10_shakyMany_9 (by decide) rfl o1 o2 (fun c7 => ?_) (fun c7 => ?_)
  · have hyp := ht c7
    clear ht hf
    refine ex_iload_n 35 dX10_shakyMany_34 rfl rfl ?_
    exact ex_iret dX10_shakyMany_35 (Or.inl rfl) ⟨_, rfl, _, rfl, hyp⟩
  · have hyp := hf c7
    clear ht hf
    refine ex_iload_n 13 dX10_shakyMany_12 rfl rfl ?_
    refine ex_aload_n 14 dX10_shakyMany_13 rfl rfl ?_
    refine ex_iload_n 15 dX10_shakyMany_14 rfl rfl ?_
    refine s_callVi [vi x2] 18 dX10_shakyMany_15 rfl cvX10_244 rfl rfl ⟨Nat.le_of_ble_eq_true rfl, Nat.le_of_ble_eq_true rfl⟩ (Nat.le_of_ble_eq_true rfl) ⟨_, rfl⟩ hyp (fun y4 h1 hq => ?_)
    obtain ⟨m3, rfl, hyp⟩ := hq
    obtain ⟨o5, hyp⟩ := hyp
    obtain ⟨ht, hf⟩ := hyp
    refine ex_if_eq 25 21 dX10_shakyMany_18 (by decide) rfl o5 (fun c6 => ?_) (fun c6 => ?_)
    · have hyp := ht c6
      clear ht hf
      refine ex_iconst 26 dX10_shakyMany_25 rfl ?_
      refine ex_iadd 27 dX10_shakyMany_26 rfl ?_
      refine q_istore_n [some (vr 0), some (vi (x1 + 0)), some (vi x2)] 28 dX10_shakyMany_27 rfl (Nat.le_of_ble_eq_true rfl) rfl rfl ?_
      refine q_iinc [some (vr 0), some (vi (x1 + 0)), some (vi (x2 + 1))] 31 dX10_shakyMany_28 rfl rfl (Nat.le_of_ble_eq_true rfl) rfl rfl ?_
      refine ex_goto 4 dX10_shakyMany_31 (by decide) ?_
      exact hyp
    · have hyp := hf c6
      clear ht hf
      refine ex_iconst 22 dX10_shakyMany_21 rfl ?_
      refine ex_goto 26 dX10_shakyMany_22 (by decide) ?_
      refine ex_iadd 27 dX10_shakyMany_26 rfl ?_
      refine q_istore_n [some (vr 0), some (vi (x1 + 1)), some (vi x2)] 28 dX10_shakyMany_27 rfl (Nat.le_of_ble_eq_true rfl) rfl rfl ?_
      refine q_iinc [some (vr 0), some (vi (x1 + 1)), some (vi (x2 + 1))] 31 dX10_shakyMany_28 rfl rfl (Nat.le_of_ble_eq_true rfl) rfl rfl ?_
      refine ex_goto 4 dX10_shakyMany_31 (by decide) ?_
      exact hyp
set_option maxRecDepth 4000 in
theorem uX10_onlyMany {P : Int → MS → Prop} (m0 : MS)  (hyp : YYi mX10_onlyMany 4 [some (vr 0), some (vi 0), some (vi 0)] [] m0 P) : MMi mX10_onlyMany [vr 0] m0 P := by
  refine met_of_ex (by decide +kernel) (Nat.le_of_ble_eq_true rfl) ?_
  show EX mX10_onlyMany 0 [some (vr 0), none, none] [] (hM m0) (0, 0) _
  refine ex_iconst 1 dX10_onlyMany_0 rfl ?_
  refine q_istore_n [some (vr 0), some (vi 0), none] 2 dX10_onlyMany_1 rfl (Nat.le_of_ble_eq_true rfl) rfl rfl ?_
  refine ex_iconst 3 dX10_onlyMany_2 rfl ?_
  refine q_istore_n [some (vr 0), some (vi 0), some (vi 0)] 4 dX10_onlyMany_3 rfl (Nat.le_of_ble_eq_true rfl) rfl rfl ?_
  exact hyp
set_option maxRecDepth 4000 in
theorem uX10_onlyMany_4 {P : Int → MS → Prop} (m0 : MS) (x1 : Int) (x2 : Int) (hyp : rng x2 ∧ rng (m0 0 28) ∧ (m0 0 28 ≤ x2 → (P x1 m0)) ∧ (x2 < m0 0 28 → (MMi mX10_entriesOf [vr 0, vi x2] m0 (fun y4 m3 => rng y4 ∧ (¬ y4 = 1 → (YYi mX10_onlyMany 4 [some (vr 0), some (vi (x1 + 0)), some (vi (x2 + 1))] [] m3 P)) ∧ (y4 = 1 → (YYi mX10_onlyMany 4 [some (vr 0), some (vi (x1 + 1)), some (vi (x2 + 1))] [] m3 P)))))) : YYi mX10_onlyMany 4 [some (vr 0), some (vi x1), some (vi x2)] [] m0 P := by
  refine ex_iload_n 5 dX10_onlyMany_4 rfl rfl ?_
  refine ex_aload_n 6 dX10_onlyMany_5 rfl rfl ?_
  refine q_getI 10 28 9 dX10_onlyMany_6 rfl fiX10_212 (Or.inl rfl) ⟨_, rfl⟩ ?_
  obtain ⟨o1, hyp⟩ := hyp
  obtain ⟨o2, hyp⟩ := hyp
  obtain ⟨ht, hf⟩ := hyp
  refine ex_icmp_ge 35 12 dX10_onlyMany_9 (by decide) rfl o1 o2 (fun c7 => ?_) (fun c7 => ?_)
  · have hyp := ht c7
    clear ht hf
    refine ex_iload_n 36 dX10_onlyMany_35 rfl rfl ?_
    exact ex_iret dX10_onlyMany_36 (Or.inl rfl) ⟨_, rfl, _, rfl, hyp⟩
  · have hyp := hf c7
    clear ht hf
    refine ex_iload_n 13 dX10_onlyMany_12 rfl rfl ?_
    refine ex_aload_n 14 dX10_onlyMany_13 rfl rfl ?_
    refine ex_iload_n 15 dX10_onlyMany_14 rfl rfl ?_
    refine s_callVi [vi x2] 18 dX10_onlyMany_15 rfl cvX10_247 rfl rfl ⟨Nat.le_of_ble_eq_true rfl, Nat.le_of_ble_eq_true rfl⟩ (Nat.le_of_ble_eq_true rfl) ⟨_, rfl⟩ hyp (fun y4 h1 hq => ?_)
    obtain ⟨m3, rfl, hyp⟩ := hq
    refine ex_iconst 19 dX10_onlyMany_18 rfl ?_
    obtain ⟨o5, hyp⟩ := hyp
    obtain ⟨ht, hf⟩ := hyp
    refine ex_icmp_ne 26 22 dX10_onlyMany_19 (by decide) rfl o5 ⟨by decide, by decide⟩ (fun c6 => ?_) (fun c6 => ?_)
    · have hyp := ht c6
      clear ht hf
      refine ex_iconst 27 dX10_onlyMany_26 rfl ?_
      refine ex_iadd 28 dX10_onlyMany_27 rfl ?_
      refine q_istore_n [some (vr 0), some (vi (x1 + 0)), some (vi x2)] 29 dX10_onlyMany_28 rfl (Nat.le_of_ble_eq_true rfl) rfl rfl ?_
      refine q_iinc [some (vr 0), some (vi (x1 + 0)), some (vi (x2 + 1))] 32 dX10_onlyMany_29 rfl rfl (Nat.le_of_ble_eq_true rfl) rfl rfl ?_
      refine ex_goto 4 dX10_onlyMany_32 (by decide) ?_
      exact hyp
    · have hyp := hf c6
      clear ht hf
      refine ex_iconst 23 dX10_onlyMany_22 rfl ?_
      refine ex_goto 27 dX10_onlyMany_23 (by decide) ?_
      refine ex_iadd 28 dX10_onlyMany_27 rfl ?_
      refine q_istore_n [some (vr 0), some (vi (x1 + 1)), some (vi x2)] 29 dX10_onlyMany_28 rfl (Nat.le_of_ble_eq_true rfl) rfl rfl ?_
      refine q_iinc [some (vr 0), some (vi (x1 + 1)), some (vi (x2 + 1))] 32 dX10_onlyMany_29 rfl rfl (Nat.le_of_ble_eq_true rfl) rfl rfl ?_
      refine ex_goto 4 dX10_onlyMany_32 (by decide) ?_
      exact hyp
set_option maxRecDepth 4000 in
theorem uX10_livesNow {P : Int → MS → Prop} (m0 : MS) (x1 : Int) (hyp : MMv mX10_layLives [vr 0] m0 (fun m1 => rng x1 ∧ (x1 < 0 ∨ 4 < x1 → (MMi mX10_onlyMany [vr 0] m1 (fun y4 m3 => P y4 m3))) ∧ (x1 = 0 → (P (m1 0 28) m1)) ∧ (x1 = 1 → (P (m1 0 26) m1)) ∧ (x1 = 2 → (P (m1 0 27) m1)) ∧ (x1 = 3 → (MMi mX10_doubtful [vr 0] m1 (fun y6 m5 => P y6 m5))) ∧ (x1 = 4 → (MMi mX10_shakyMany [vr 0] m1 (fun y8 m7 => P y8 m7))))) : MMi mX10_livesNow [vr 0, vi x1] m0 P := by
  refine met_of_ex (by decide +kernel) (Nat.le_of_ble_eq_true rfl) ?_
  show EX mX10_livesNow 0 [some (vr 0), some (vi x1)] [] (hM m0) (0, 0) _
  refine ex_aload_n 1 dX10_livesNow_0 rfl rfl ?_
  refine s_callVv [] 4 dX10_livesNow_1 rfl cvX10_250 rfl rfl ⟨Nat.le_of_ble_eq_true rfl, Nat.le_of_ble_eq_true rfl⟩ (Nat.le_of_ble_eq_true rfl) ⟨_, rfl⟩ hyp (fun h1 hq => ?_)
  obtain ⟨m1, rfl, hyp⟩ := hq
  refine ex_iload_n 5 dX10_livesNow_4 rfl rfl ?_
  obtain ⟨o2, hyp⟩ := hyp
  obtain ⟨hd, hv0, hv1, hv2, hv3, hv4⟩ := hyp
  rcases (show (x1 < 0 ∨ 4 < x1) ∨ x1 = 0 ∨ x1 = 1 ∨ x1 = 2 ∨ x1 = 3 ∨ x1 = 4 by omega) with c | c | c | c | c | c
  · refine ex_tswOut 65 dX10_livesNow_5 o2 c (by decide) ?_
    have hyp := hd c
    refine ex_aload_n 66 dX10_livesNow_65 rfl rfl ?_
    refine s_callVi [] 69 dX10_livesNow_66 rfl cvX10_259 rfl rfl ⟨Nat.le_of_ble_eq_true rfl, Nat.le_of_ble_eq_true rfl⟩ (Nat.le_of_ble_eq_true rfl) ⟨_, rfl⟩ hyp (fun y4 h1 hq => ?_)
    obtain ⟨m3, rfl, hyp⟩ := hq
    exact ex_iret dX10_livesNow_69 (Or.inl rfl) ⟨_, rfl, _, rfl, hyp⟩
  · refine ex_tswIn 0 40 dX10_livesNow_5 c ⟨by decide, by decide⟩ (by decide) (by decide) rfl (by decide) ?_
    have hyp := hv0 c
    refine ex_aload_n 41 dX10_livesNow_40 rfl rfl ?_
    refine q_getI 10 28 44 dX10_livesNow_41 rfl fiX10_212 (Or.inl rfl) ⟨_, rfl⟩ ?_
    exact ex_iret dX10_livesNow_44 (Or.inl rfl) ⟨_, rfl, _, rfl, hyp⟩
  · refine ex_tswIn 1 45 dX10_livesNow_5 c ⟨by decide, by decide⟩ (by decide) (by decide) rfl (by decide) ?_
    have hyp := hv1 c
    refine ex_aload_n 46 dX10_livesNow_45 rfl rfl ?_
    refine q_getI 10 26 49 dX10_livesNow_46 rfl fiX10_206 (Or.inl rfl) ⟨_, rfl⟩ ?_
    exact ex_iret dX10_livesNow_49 (Or.inl rfl) ⟨_, rfl, _, rfl, hyp⟩
  · refine ex_tswIn 2 50 dX10_livesNow_5 c ⟨by decide, by decide⟩ (by decide) (by decide) rfl (by decide) ?_
    have hyp := hv2 c
    refine ex_aload_n 51 dX10_livesNow_50 rfl rfl ?_
    refine q_getI 10 27 54 dX10_livesNow_51 rfl fiX10_209 (Or.inl rfl) ⟨_, rfl⟩ ?_
    exact ex_iret dX10_livesNow_54 (Or.inl rfl) ⟨_, rfl, _, rfl, hyp⟩
  · refine ex_tswIn 3 55 dX10_livesNow_5 c ⟨by decide, by decide⟩ (by decide) (by decide) rfl (by decide) ?_
    have hyp := hv3 c
    refine ex_aload_n 56 dX10_livesNow_55 rfl rfl ?_
    refine s_callVi [] 59 dX10_livesNow_56 rfl cvX10_253 rfl rfl ⟨Nat.le_of_ble_eq_true rfl, Nat.le_of_ble_eq_true rfl⟩ (Nat.le_of_ble_eq_true rfl) ⟨_, rfl⟩ hyp (fun y6 h1 hq => ?_)
    obtain ⟨m5, rfl, hyp⟩ := hq
    exact ex_iret dX10_livesNow_59 (Or.inl rfl) ⟨_, rfl, _, rfl, hyp⟩
  · refine ex_tswIn 4 60 dX10_livesNow_5 c ⟨by decide, by decide⟩ (by decide) (by decide) rfl (by decide) ?_
    have hyp := hv4 c
    refine ex_aload_n 61 dX10_livesNow_60 rfl rfl ?_
    refine s_callVi [] 64 dX10_livesNow_61 rfl cvX10_256 rfl rfl ⟨Nat.le_of_ble_eq_true rfl, Nat.le_of_ble_eq_true rfl⟩ (Nat.le_of_ble_eq_true rfl) ⟨_, rfl⟩ hyp (fun y8 h1 hq => ?_)
    obtain ⟨m7, rfl, hyp⟩ := hq
    exact ex_iret dX10_livesNow_64 (Or.inl rfl) ⟨_, rfl, _, rfl, hyp⟩
set_option maxRecDepth 4000 in
theorem uX10_lives {P : Int → MS → Prop} (m0 : MS) (x1 : Int) (hyp : MMi mX10_within [vi x1, vi 0, vi 5] m0 (fun y2 m1 => rng y2 ∧ (y2 = 0 → (P (-102) m1)) ∧ (¬ y2 = 0 → (MMi mX10_livesNow [vr 0, vi x1] m1 (fun y5 m4 => P y5 m4))))) : MMi mX10_lives [vr 0, vi x1] m0 P := by
  refine met_of_ex (by decide +kernel) (Nat.le_of_ble_eq_true rfl) ?_
  show EX mX10_lives 0 [some (vr 0), some (vi x1)] [] (hM m0) (0, 0) _
  refine ex_iload_n 1 dX10_lives_0 rfl rfl ?_
  refine ex_iconst 2 dX10_lives_1 rfl ?_
  refine ex_iconst 3 dX10_lives_2 rfl ?_
  refine s_callSi [vi x1, vi 0, vi 5] 6 dX10_lives_3 rfl cvX10_76 rfl rfl ⟨Nat.le_of_ble_eq_true rfl, Nat.le_of_ble_eq_true rfl⟩ (Nat.le_of_ble_eq_true rfl) hyp (fun y2 h1 hq => ?_)
  obtain ⟨m1, rfl, hyp⟩ := hq
  obtain ⟨o3, hyp⟩ := hyp
  obtain ⟨ht, hf⟩ := hyp
  refine ex_if_eq 17 9 dX10_lives_6 (by decide) rfl o3 (fun c6 => ?_) (fun c6 => ?_)
  · have hyp := ht c6
    clear ht hf
    refine ex_bipush 19 dX10_lives_17 rfl ⟨by decide, by decide⟩ ?_
    exact ex_iret dX10_lives_19 (Or.inl rfl) ⟨_, rfl, _, rfl, hyp⟩
  · have hyp := hf c6
    clear ht hf
    refine ex_aload_n 10 dX10_lives_9 rfl rfl ?_
    refine ex_iload_n 11 dX10_lives_10 rfl rfl ?_
    refine s_callVi [vi x1] 14 dX10_lives_11 rfl cvX10_262 rfl rfl ⟨Nat.le_of_ble_eq_true rfl, Nat.le_of_ble_eq_true rfl⟩ (Nat.le_of_ble_eq_true rfl) ⟨_, rfl⟩ hyp (fun y5 h1 hq => ?_)
    obtain ⟨m4, rfl, hyp⟩ := hq
    refine ex_goto 19 dX10_lives_14 (by decide) ?_
    exact ex_iret dX10_lives_19 (Or.inl rfl) ⟨_, rfl, _, rfl, hyp⟩
set_option maxRecDepth 4000 in
theorem uX10_bornOf {P : Int → MS → Prop} (m0 : MS) (x1 : Int) (x2 : Int) (hyp : YYi mX10_bornOf 10 [some (vr 0), some (vi x1), some (vi x2), some (vi 0), some (vi 100000), some (vi 0)] [] m0 P) : MMi mX10_bornOf [vr 0, vi x1, vi x2] m0 P := by
  refine met_of_ex (by decide +kernel) (Nat.le_of_ble_eq_true rfl) ?_
  show EX mX10_bornOf 0 [some (vr 0), some (vi x1), some (vi x2), none, none, none] [] (hM m0) (0, 0) _
  refine ex_iconst 1 dX10_bornOf_0 rfl ?_
  refine q_istore_n [some (vr 0), some (vi x1), some (vi x2), some (vi 0), none, none] 2 dX10_bornOf_1 rfl (Nat.le_of_ble_eq_true rfl) rfl rfl ?_
  refine ex_ldcw (n := 100000) 5 dX10_bornOf_2 rfl (wt5 189 rfl rfl) ?_
  refine q_istore [some (vr 0), some (vi x1), some (vi x2), some (vi 0), some (vi 100000), none] 7 dX10_bornOf_5 rfl (Nat.le_of_ble_eq_true rfl) rfl rfl ?_
  refine ex_iconst 8 dX10_bornOf_7 rfl ?_
  refine q_istore [some (vr 0), some (vi x1), some (vi x2), some (vi 0), some (vi 100000), some (vi 0)] 10 dX10_bornOf_8 rfl (Nat.le_of_ble_eq_true rfl) rfl rfl ?_
  exact hyp
set_option maxRecDepth 4000 in
theorem uX10_bornOf_10 {P : Int → MS → Prop} (m0 : MS) (x1 : Int) (x2 : Int) (x3 : Int) (x4 : Int) (x5 : Int) (hyp : rng x5 ∧ rng (m0 0 2) ∧ (m0 0 2 ≤ x5 → (rng x3 ∧ rng x4 ∧ (x3 ≤ x4 → (rng x2 ∧ (x2 = 0 → (P x4 m0)) ∧ (¬ x2 = 0 → (P x3 m0)))) ∧ (x4 < x3 → (P (-1) m0)))) ∧ (x5 < m0 0 2 → (MMi mX10_isOf [vr 0, vi x5, vi x1] m0 (fun y9 m8 => rng y9 ∧ (y9 = 0 → (YYi mX10_bornOf 10 [some (vr 0), some (vi x1), some (vi x2), some (vi x3), some (vi x4), some (vi (x5 + 1))] [] m8 P)) ∧ (¬ y9 = 0 → (MMi mX10_firstBorn [vr 0, vi x5] m8 (fun y12 m11 => MMi mX10_greater [vi x3, vi y12] m11 (fun y14 m13 => MMi mX10_lastBorn [vr 0, vi x5] m13 (fun y16 m15 => MMi mX10_lesser [vi x4, vi y16] m15 (fun y18 m17 => YYi mX10_bornOf 10 [some (vr 0), some (vi x1), some (vi x2), some (vi y14), some (vi y18), some (vi (x5 + 1))] [] m17 P)))))))))) : YYi mX10_bornOf 10 [some (vr 0), some (vi x1), some (vi x2), some (vi x3), some (vi x4), some (vi x5)] [] m0 P := by
  refine ex_iload 12 dX10_bornOf_10 rfl rfl ?_
  refine ex_aload_n 13 dX10_bornOf_12 rfl rfl ?_
  refine q_getI 10 2 16 dX10_bornOf_13 rfl fiX10_118 (Or.inl rfl) ⟨_, rfl⟩ ?_
  obtain ⟨o1, hyp⟩ := hyp
  obtain ⟨o2, hyp⟩ := hyp
  obtain ⟨ht, hf⟩ := hyp
  refine ex_icmp_ge 59 19 dX10_bornOf_16 (by decide) rfl o1 o2 (fun c20 => ?_) (fun c20 => ?_)
  · have hyp := ht c20
    clear ht hf
    refine ex_iload_n 60 dX10_bornOf_59 rfl rfl ?_
    refine ex_iload 62 dX10_bornOf_60 rfl rfl ?_
    obtain ⟨o3, hyp⟩ := hyp
    obtain ⟨o4, hyp⟩ := hyp
    obtain ⟨ht, hf⟩ := hyp
    refine ex_icmp_le 69 65 dX10_bornOf_62 (by decide) rfl o3 o4 (fun c7 => ?_) (fun c7 => ?_)
    · have hyp := ht c7
      clear ht hf
      refine ex_iload_n 70 dX10_bornOf_69 rfl rfl ?_
      obtain ⟨o5, hyp⟩ := hyp
      obtain ⟨ht, hf⟩ := hyp
      refine ex_if_eq 77 73 dX10_bornOf_70 (by decide) rfl o5 (fun c6 => ?_) (fun c6 => ?_)
      · have hyp := ht c6
        clear ht hf
        refine ex_iload 79 dX10_bornOf_77 rfl rfl ?_
        exact ex_iret dX10_bornOf_79 (Or.inl rfl) ⟨_, rfl, _, rfl, hyp⟩
      · have hyp := hf c6
        clear ht hf
        refine ex_iload_n 74 dX10_bornOf_73 rfl rfl ?_
        refine ex_goto 79 dX10_bornOf_74 (by decide) ?_
        exact ex_iret dX10_bornOf_79 (Or.inl rfl) ⟨_, rfl, _, rfl, hyp⟩
    · have hyp := hf c7
      clear ht hf
      refine ex_iconst 66 dX10_bornOf_65 rfl ?_
      refine ex_goto 79 dX10_bornOf_66 (by decide) ?_
      exact ex_iret dX10_bornOf_79 (Or.inl rfl) ⟨_, rfl, _, rfl, hyp⟩
  · have hyp := hf c20
    clear ht hf
    refine ex_aload_n 20 dX10_bornOf_19 rfl rfl ?_
    refine ex_iload 22 dX10_bornOf_20 rfl rfl ?_
    refine ex_iload_n 23 dX10_bornOf_22 rfl rfl ?_
    refine s_callVi [vi x5, vi x1] 26 dX10_bornOf_23 rfl cvX10_222 rfl rfl ⟨Nat.le_of_ble_eq_true rfl, Nat.le_of_ble_eq_true rfl⟩ (Nat.le_of_ble_eq_true rfl) ⟨_, rfl⟩ hyp (fun y9 h1 hq => ?_)
    obtain ⟨m8, rfl, hyp⟩ := hq
    obtain ⟨o10, hyp⟩ := hyp
    obtain ⟨ht, hf⟩ := hyp
    refine ex_if_eq 53 29 dX10_bornOf_26 (by decide) rfl o10 (fun c19 => ?_) (fun c19 => ?_)
    · have hyp := ht c19
      clear ht hf
      refine q_iinc [some (vr 0), some (vi x1), some (vi x2), some (vi x3), some (vi x4), some (vi (x5 + 1))] 56 dX10_bornOf_53 rfl rfl (Nat.le_of_ble_eq_true rfl) rfl rfl ?_
      refine ex_goto 10 dX10_bornOf_56 (by decide) ?_
      exact hyp
    · have hyp := hf c19
      clear ht hf
      refine ex_iload_n 30 dX10_bornOf_29 rfl rfl ?_
      refine ex_aload_n 31 dX10_bornOf_30 rfl rfl ?_
      refine ex_iload 33 dX10_bornOf_31 rfl rfl ?_
      refine s_callVi [vi x5] 36 dX10_bornOf_33 rfl cvX10_151 rfl rfl ⟨Nat.le_of_ble_eq_true rfl, Nat.le_of_ble_eq_true rfl⟩ (Nat.le_of_ble_eq_true rfl) ⟨_, rfl⟩ hyp (fun y12 h1 hq => ?_)
      obtain ⟨m11, rfl, hyp⟩ := hq
      refine s_callSi [vi x3, vi y12] 39 dX10_bornOf_36 rfl cvX10_148 rfl rfl ⟨Nat.le_of_ble_eq_true rfl, Nat.le_of_ble_eq_true rfl⟩ (Nat.le_of_ble_eq_true rfl) hyp (fun y14 h1 hq => ?_)
      obtain ⟨m13, rfl, hyp⟩ := hq
      refine q_istore_n [some (vr 0), some (vi x1), some (vi x2), some (vi y14), some (vi x4), some (vi x5)] 40 dX10_bornOf_39 rfl (Nat.le_of_ble_eq_true rfl) rfl rfl ?_
      refine ex_iload 42 dX10_bornOf_40 rfl rfl ?_
      refine ex_aload_n 43 dX10_bornOf_42 rfl rfl ?_
      refine ex_iload 45 dX10_bornOf_43 rfl rfl ?_
      refine s_callVi [vi x5] 48 dX10_bornOf_45 rfl cvX10_154 rfl rfl ⟨Nat.le_of_ble_eq_true rfl, Nat.le_of_ble_eq_true rfl⟩ (Nat.le_of_ble_eq_true rfl) ⟨_, rfl⟩ hyp (fun y16 h1 hq => ?_)
      obtain ⟨m15, rfl, hyp⟩ := hq
      refine s_callSi [vi x4, vi y16] 51 dX10_bornOf_48 rfl cvX10_138 rfl rfl ⟨Nat.le_of_ble_eq_true rfl, Nat.le_of_ble_eq_true rfl⟩ (Nat.le_of_ble_eq_true rfl) hyp (fun y18 h1 hq => ?_)
      obtain ⟨m17, rfl, hyp⟩ := hq
      refine q_istore [some (vr 0), some (vi x1), some (vi x2), some (vi y14), some (vi y18), some (vi x5)] 53 dX10_bornOf_51 rfl (Nat.le_of_ble_eq_true rfl) rfl rfl ?_
      refine q_iinc [some (vr 0), some (vi x1), some (vi x2), some (vi y14), some (vi y18), some (vi (x5 + 1))] 56 dX10_bornOf_53 rfl rfl (Nat.le_of_ble_eq_true rfl) rfl rfl ?_
      refine ex_goto 10 dX10_bornOf_56 (by decide) ?_
      exact hyp
set_option maxRecDepth 4000 in
theorem uX10_lastYear {P : Int → MS → Prop} (m0 : MS) (x1 : Int) (hyp : YYi mX10_lastYear 4 [some (vr 0), some (vi x1), some (vi 0), some (vi 0)] [] m0 P) : MMi mX10_lastYear [vr 0, vi x1] m0 P := by
  refine met_of_ex (by decide +kernel) (Nat.le_of_ble_eq_true rfl) ?_
  show EX mX10_lastYear 0 [some (vr 0), some (vi x1), none, none] [] (hM m0) (0, 0) _
  refine ex_iconst 1 dX10_lastYear_0 rfl ?_
  refine q_istore_n [some (vr 0), some (vi x1), some (vi 0), none] 2 dX10_lastYear_1 rfl (Nat.le_of_ble_eq_true rfl) rfl rfl ?_
  refine ex_iconst 3 dX10_lastYear_2 rfl ?_
  refine q_istore_n [some (vr 0), some (vi x1), some (vi 0), some (vi 0)] 4 dX10_lastYear_3 rfl (Nat.le_of_ble_eq_true rfl) rfl rfl ?_
  exact hyp
set_option maxRecDepth 4000 in
theorem uX10_lastYear_4 {P : Int → MS → Prop} (m0 : MS) (x1 : Int) (x2 : Int) (x3 : Int) (hyp : rng x3 ∧ rng (m0 0 2) ∧ (m0 0 2 ≤ x3 → (P x2 m0)) ∧ (x3 < m0 0 2 → (MMi mX10_isOf [vr 0, vi x3, vi x1] m0 (fun y4 m3 => rng y4 ∧ (y4 = 0 → (YYi mX10_lastYear 4 [some (vr 0), some (vi x1), some (vi x2), some (vi (x3 + 1))] [] m3 P)) ∧ (¬ y4 = 0 → (0 ≤ x3 ∧ x3 < 18 ∧ MMi mX10_greater [vi x2, vi (m3 3 (x3).toNat)] m3 (fun y9 m8 => YYi mX10_lastYear 4 [some (vr 0), some (vi x1), some (vi y9), some (vi (x3 + 1))] [] m8 P))))))) : YYi mX10_lastYear 4 [some (vr 0), some (vi x1), some (vi x2), some (vi x3)] [] m0 P := by
  refine ex_iload_n 5 dX10_lastYear_4 rfl rfl ?_
  refine ex_aload_n 6 dX10_lastYear_5 rfl rfl ?_
  refine q_getI 10 2 9 dX10_lastYear_6 rfl fiX10_118 (Or.inl rfl) ⟨_, rfl⟩ ?_
  obtain ⟨o1, hyp⟩ := hyp
  obtain ⟨o2, hyp⟩ := hyp
  obtain ⟨ht, hf⟩ := hyp
  refine ex_icmp_ge 42 12 dX10_lastYear_9 (by decide) rfl o1 o2 (fun c11 => ?_) (fun c11 => ?_)
  · have hyp := ht c11
    clear ht hf
    refine ex_iload_n 43 dX10_lastYear_42 rfl rfl ?_
    exact ex_iret dX10_lastYear_43 (Or.inl rfl) ⟨_, rfl, _, rfl, hyp⟩
  · have hyp := hf c11
    clear ht hf
    refine ex_aload_n 13 dX10_lastYear_12 rfl rfl ?_
    refine ex_iload_n 14 dX10_lastYear_13 rfl rfl ?_
    refine ex_iload_n 15 dX10_lastYear_14 rfl rfl ?_
    refine s_callVi [vi x3, vi x1] 18 dX10_lastYear_15 rfl cvX10_222 rfl rfl ⟨Nat.le_of_ble_eq_true rfl, Nat.le_of_ble_eq_true rfl⟩ (Nat.le_of_ble_eq_true rfl) ⟨_, rfl⟩ hyp (fun y4 h1 hq => ?_)
    obtain ⟨m3, rfl, hyp⟩ := hq
    obtain ⟨o5, hyp⟩ := hyp
    obtain ⟨ht, hf⟩ := hyp
    refine ex_if_eq 34 21 dX10_lastYear_18 (by decide) rfl o5 (fun c10 => ?_) (fun c10 => ?_)
    · have hyp := ht c10
      clear ht hf
      refine ex_iload_n 35 dX10_lastYear_34 rfl rfl ?_
      refine q_istore_n [some (vr 0), some (vi x1), some (vi x2), some (vi x3)] 36 dX10_lastYear_35 rfl (Nat.le_of_ble_eq_true rfl) rfl rfl ?_
      refine q_iinc [some (vr 0), some (vi x1), some (vi x2), some (vi (x3 + 1))] 39 dX10_lastYear_36 rfl rfl (Nat.le_of_ble_eq_true rfl) rfl rfl ?_
      refine ex_goto 4 dX10_lastYear_39 (by decide) ?_
      exact hyp
    · have hyp := hf c10
      clear ht hf
      refine ex_iload_n 22 dX10_lastYear_21 rfl rfl ?_
      refine ex_aload_n 23 dX10_lastYear_22 rfl rfl ?_
      refine q_getR (a := 3) 10 4 26 dX10_lastYear_23 rfl fiX10_16 rfl ⟨_, rfl⟩ rfl ?_
      refine ex_iload_n 27 dX10_lastYear_26 rfl rfl ?_
      obtain ⟨o6, hyp⟩ := hyp
      obtain ⟨o7, hyp⟩ := hyp
      refine ex_iald 28 dX10_lastYear_27 rfl (ai_of (n := 18) rfl o6 o7 (by decide)) ?_
      refine s_callSi [vi x2, vi (m3 3 (x3).toNat)] 31 dX10_lastYear_28 rfl cvX10_148 rfl rfl ⟨Nat.le_of_ble_eq_true rfl, Nat.le_of_ble_eq_true rfl⟩ (Nat.le_of_ble_eq_true rfl) hyp (fun y9 h1 hq => ?_)
      obtain ⟨m8, rfl, hyp⟩ := hq
      refine ex_goto 35 dX10_lastYear_31 (by decide) ?_
      refine q_istore_n [some (vr 0), some (vi x1), some (vi y9), some (vi x3)] 36 dX10_lastYear_35 rfl (Nat.le_of_ble_eq_true rfl) rfl rfl ?_
      refine q_iinc [some (vr 0), some (vi x1), some (vi y9), some (vi (x3 + 1))] 39 dX10_lastYear_36 rfl rfl (Nat.le_of_ble_eq_true rfl) rfl rfl ?_
      refine ex_goto 4 dX10_lastYear_39 (by decide) ?_
      exact hyp
set_option maxRecDepth 4000 in
theorem uX10_lifeNow {P : Int → MS → Prop} (m0 : MS) (x1 : Int) (x2 : Int) (hyp : rng x2 ∧ (x2 < 0 ∨ 6 < x2 → (MMi mX10_lastYear [vr 0, vi x1] m0 (fun y3 m2 => P y3 m2))) ∧ (x2 = 0 → (0 ≤ x1 ∧ x1 < 18 ∧ P (m0 19 (x1).toNat) m0)) ∧ (x2 = 1 → (0 ≤ x1 ∧ x1 < 18 ∧ P (m0 20 (x1).toNat) m0)) ∧ (x2 = 2 → (0 ≤ x1 ∧ x1 < 18 ∧ P (m0 21 (x1).toNat) m0)) ∧ (x2 = 3 → (MMi mX10_bornOf [vr 0, vi x1, vi 1] m0 (fun y11 m10 => P y11 m10))) ∧ (x2 = 4 → (MMi mX10_bornOf [vr 0, vi x1, vi 0] m0 (fun y13 m12 => P y13 m12))) ∧ (x2 = 5 → (MMi mX10_isShaky [vr 0, vi x1] m0 (fun y15 m14 => rng y15 ∧ (y15 = 0 → (P 0 m14)) ∧ (¬ y15 = 0 → (P 1 m14))))) ∧ (x2 = 6 → (MMi mX10_entriesOf [vr 0, vi x1] m0 (fun y19 m18 => P y19 m18)))) : MMi mX10_lifeNow [vr 0, vi x1, vi x2] m0 P := by
  refine met_of_ex (by decide +kernel) (Nat.le_of_ble_eq_true rfl) ?_
  show EX mX10_lifeNow 0 [some (vr 0), some (vi x1), some (vi x2)] [] (hM m0) (0, 0) _
  refine ex_iload_n 1 dX10_lifeNow_0 rfl rfl ?_
  obtain ⟨o1, hyp⟩ := hyp
  obtain ⟨hd, hv0, hv1, hv2, hv3, hv4, hv5, hv6⟩ := hyp
  rcases (show (x2 < 0 ∨ 6 < x2) ∨ x2 = 0 ∨ x2 = 1 ∨ x2 = 2 ∨ x2 = 3 ∨ x2 = 4 ∨ x2 = 5 ∨ x2 = 6 by omega) with c | c | c | c | c | c | c | c
  · refine ex_tswOut 99 dX10_lifeNow_1 o1 c (by decide) ?_
    have hyp := hd c
    refine ex_aload_n 100 dX10_lifeNow_99 rfl rfl ?_
    refine ex_iload_n 101 dX10_lifeNow_100 rfl rfl ?_
    refine s_callVi [vi x1] 104 dX10_lifeNow_101 rfl cvX10_270 rfl rfl ⟨Nat.le_of_ble_eq_true rfl, Nat.le_of_ble_eq_true rfl⟩ (Nat.le_of_ble_eq_true rfl) ⟨_, rfl⟩ hyp (fun y3 h1 hq => ?_)
    obtain ⟨m2, rfl, hyp⟩ := hq
    exact ex_iret dX10_lifeNow_104 (Or.inl rfl) ⟨_, rfl, _, rfl, hyp⟩
  · refine ex_tswIn 0 44 dX10_lifeNow_1 c ⟨by decide, by decide⟩ (by decide) (by decide) rfl (by decide) ?_
    have hyp := hv0 c
    refine ex_aload_n 45 dX10_lifeNow_44 rfl rfl ?_
    refine q_getR (a := 19) 10 29 48 dX10_lifeNow_45 rfl fiX10_64 rfl ⟨_, rfl⟩ rfl ?_
    refine ex_iload_n 49 dX10_lifeNow_48 rfl rfl ?_
    obtain ⟨o4, hyp⟩ := hyp
    obtain ⟨o5, hyp⟩ := hyp
    refine ex_iald 50 dX10_lifeNow_49 rfl (ai_of (n := 18) rfl o4 o5 (by decide)) ?_
    exact ex_iret dX10_lifeNow_50 (Or.inl rfl) ⟨_, rfl, _, rfl, hyp⟩
  · refine ex_tswIn 1 51 dX10_lifeNow_1 c ⟨by decide, by decide⟩ (by decide) (by decide) rfl (by decide) ?_
    have hyp := hv1 c
    refine ex_aload_n 52 dX10_lifeNow_51 rfl rfl ?_
    refine q_getR (a := 20) 10 30 55 dX10_lifeNow_52 rfl fiX10_67 rfl ⟨_, rfl⟩ rfl ?_
    refine ex_iload_n 56 dX10_lifeNow_55 rfl rfl ?_
    obtain ⟨o6, hyp⟩ := hyp
    obtain ⟨o7, hyp⟩ := hyp
    refine ex_iald 57 dX10_lifeNow_56 rfl (ai_of (n := 18) rfl o6 o7 (by decide)) ?_
    exact ex_iret dX10_lifeNow_57 (Or.inl rfl) ⟨_, rfl, _, rfl, hyp⟩
  · refine ex_tswIn 2 58 dX10_lifeNow_1 c ⟨by decide, by decide⟩ (by decide) (by decide) rfl (by decide) ?_
    have hyp := hv2 c
    refine ex_aload_n 59 dX10_lifeNow_58 rfl rfl ?_
    refine q_getR (a := 21) 10 31 62 dX10_lifeNow_59 rfl fiX10_70 rfl ⟨_, rfl⟩ rfl ?_
    refine ex_iload_n 63 dX10_lifeNow_62 rfl rfl ?_
    obtain ⟨o8, hyp⟩ := hyp
    obtain ⟨o9, hyp⟩ := hyp
    refine ex_iald 64 dX10_lifeNow_63 rfl (ai_of (n := 18) rfl o8 o9 (by decide)) ?_
    exact ex_iret dX10_lifeNow_64 (Or.inl rfl) ⟨_, rfl, _, rfl, hyp⟩
  · refine ex_tswIn 3 65 dX10_lifeNow_1 c ⟨by decide, by decide⟩ (by decide) (by decide) rfl (by decide) ?_
    have hyp := hv3 c
    refine ex_aload_n 66 dX10_lifeNow_65 rfl rfl ?_
    refine ex_iload_n 67 dX10_lifeNow_66 rfl rfl ?_
    refine ex_iconst 68 dX10_lifeNow_67 rfl ?_
    refine s_callVi [vi x1, vi 1] 71 dX10_lifeNow_68 rfl cvX10_266 rfl rfl ⟨Nat.le_of_ble_eq_true rfl, Nat.le_of_ble_eq_true rfl⟩ (Nat.le_of_ble_eq_true rfl) ⟨_, rfl⟩ hyp (fun y11 h1 hq => ?_)
    obtain ⟨m10, rfl, hyp⟩ := hq
    exact ex_iret dX10_lifeNow_71 (Or.inl rfl) ⟨_, rfl, _, rfl, hyp⟩
  · refine ex_tswIn 4 72 dX10_lifeNow_1 c ⟨by decide, by decide⟩ (by decide) (by decide) rfl (by decide) ?_
    have hyp := hv4 c
    refine ex_aload_n 73 dX10_lifeNow_72 rfl rfl ?_
    refine ex_iload_n 74 dX10_lifeNow_73 rfl rfl ?_
    refine ex_iconst 75 dX10_lifeNow_74 rfl ?_
    refine s_callVi [vi x1, vi 0] 78 dX10_lifeNow_75 rfl cvX10_266 rfl rfl ⟨Nat.le_of_ble_eq_true rfl, Nat.le_of_ble_eq_true rfl⟩ (Nat.le_of_ble_eq_true rfl) ⟨_, rfl⟩ hyp (fun y13 h1 hq => ?_)
    obtain ⟨m12, rfl, hyp⟩ := hq
    exact ex_iret dX10_lifeNow_78 (Or.inl rfl) ⟨_, rfl, _, rfl, hyp⟩
  · refine ex_tswIn 5 79 dX10_lifeNow_1 c ⟨by decide, by decide⟩ (by decide) (by decide) rfl (by decide) ?_
    have hyp := hv5 c
    refine ex_aload_n 80 dX10_lifeNow_79 rfl rfl ?_
    refine ex_iload_n 81 dX10_lifeNow_80 rfl rfl ?_
    refine s_callVi [vi x1] 84 dX10_lifeNow_81 rfl cvX10_244 rfl rfl ⟨Nat.le_of_ble_eq_true rfl, Nat.le_of_ble_eq_true rfl⟩ (Nat.le_of_ble_eq_true rfl) ⟨_, rfl⟩ hyp (fun y15 h1 hq => ?_)
    obtain ⟨m14, rfl, hyp⟩ := hq
    obtain ⟨o16, hyp⟩ := hyp
    obtain ⟨ht, hf⟩ := hyp
    refine ex_if_eq 91 87 dX10_lifeNow_84 (by decide) rfl o16 (fun c17 => ?_) (fun c17 => ?_)
    · have hyp := ht c17
      clear ht hf
      refine ex_iconst 92 dX10_lifeNow_91 rfl ?_
      exact ex_iret dX10_lifeNow_92 (Or.inl rfl) ⟨_, rfl, _, rfl, hyp⟩
    · have hyp := hf c17
      clear ht hf
      refine ex_iconst 88 dX10_lifeNow_87 rfl ?_
      refine ex_goto 92 dX10_lifeNow_88 (by decide) ?_
      exact ex_iret dX10_lifeNow_92 (Or.inl rfl) ⟨_, rfl, _, rfl, hyp⟩
  · refine ex_tswIn 6 93 dX10_lifeNow_1 c ⟨by decide, by decide⟩ (by decide) (by decide) rfl (by decide) ?_
    have hyp := hv6 c
    refine ex_aload_n 94 dX10_lifeNow_93 rfl rfl ?_
    refine ex_iload_n 95 dX10_lifeNow_94 rfl rfl ?_
    refine s_callVi [vi x1] 98 dX10_lifeNow_95 rfl cvX10_247 rfl rfl ⟨Nat.le_of_ble_eq_true rfl, Nat.le_of_ble_eq_true rfl⟩ (Nat.le_of_ble_eq_true rfl) ⟨_, rfl⟩ hyp (fun y19 h1 hq => ?_)
    obtain ⟨m18, rfl, hyp⟩ := hq
    exact ex_iret dX10_lifeNow_98 (Or.inl rfl) ⟨_, rfl, _, rfl, hyp⟩
set_option maxRecDepth 4000 in
theorem uX10_life {P : Int → MS → Prop} (m0 : MS) (x1 : Int) (x2 : Int) (hyp : MMv mX10_layLives [vr 0] m0 (fun m1 => MMi mX10_within [vi x1, vi 0, vi ((m1 0 28) - 1)] m1 (fun y3 m2 => rng y3 ∧ (¬ y3 = 0 → (MMi mX10_within [vi x2, vi 0, vi 7] m2 (fun y6 m5 => rng y6 ∧ (y6 = 0 → (P (-102) m5)) ∧ (¬ y6 = 0 → (MMi mX10_lifeNow [vr 0, vi x1, vi x2] m5 (fun y9 m8 => P y9 m8)))))) ∧ (y3 = 0 → (P (-101) m2))))) : MMi mX10_life [vr 0, vi x1, vi x2] m0 P := by
  refine met_of_ex (by decide +kernel) (Nat.le_of_ble_eq_true rfl) ?_
  show EX mX10_life 0 [some (vr 0), some (vi x1), some (vi x2)] [] (hM m0) (0, 0) _
  refine ex_aload_n 1 dX10_life_0 rfl rfl ?_
  refine s_callVv [] 4 dX10_life_1 rfl cvX10_250 rfl rfl ⟨Nat.le_of_ble_eq_true rfl, Nat.le_of_ble_eq_true rfl⟩ (Nat.le_of_ble_eq_true rfl) ⟨_, rfl⟩ hyp (fun h1 hq => ?_)
  obtain ⟨m1, rfl, hyp⟩ := hq
  refine ex_iload_n 5 dX10_life_4 rfl rfl ?_
  refine ex_iconst 6 dX10_life_5 rfl ?_
  refine ex_aload_n 7 dX10_life_6 rfl rfl ?_
  refine q_getI 10 28 10 dX10_life_7 rfl fiX10_212 (Or.inl rfl) ⟨_, rfl⟩ ?_
  refine ex_iconst 11 dX10_life_10 rfl ?_
  refine ex_isub 12 dX10_life_11 rfl ?_
  refine s_callSi [vi x1, vi 0, vi ((m1 0 28) - 1)] 15 dX10_life_12 rfl cvX10_76 rfl rfl ⟨Nat.le_of_ble_eq_true rfl, Nat.le_of_ble_eq_true rfl⟩ (Nat.le_of_ble_eq_true rfl) hyp (fun y3 h1 hq => ?_)
  obtain ⟨m2, rfl, hyp⟩ := hq
  obtain ⟨o4, hyp⟩ := hyp
  obtain ⟨ht, hf⟩ := hyp
  refine ex_if_ne 23 18 dX10_life_15 (by decide) rfl o4 (fun c11 => ?_) (fun c11 => ?_)
  · have hyp := ht c11
    clear ht hf
    refine ex_iload_n 24 dX10_life_23 rfl rfl ?_
    refine ex_iconst 25 dX10_life_24 rfl ?_
    refine ex_bipush 27 dX10_life_25 rfl ⟨by decide, by decide⟩ ?_
    refine s_callSi [vi x2, vi 0, vi 7] 30 dX10_life_27 rfl cvX10_76 rfl rfl ⟨Nat.le_of_ble_eq_true rfl, Nat.le_of_ble_eq_true rfl⟩ (Nat.le_of_ble_eq_true rfl) hyp (fun y6 h1 hq => ?_)
    obtain ⟨m5, rfl, hyp⟩ := hq
    obtain ⟨o7, hyp⟩ := hyp
    obtain ⟨ht, hf⟩ := hyp
    refine ex_if_eq 42 33 dX10_life_30 (by decide) rfl o7 (fun c10 => ?_) (fun c10 => ?_)
    · have hyp := ht c10
      clear ht hf
      refine ex_bipush 44 dX10_life_42 rfl ⟨by decide, by decide⟩ ?_
      exact ex_iret dX10_life_44 (Or.inl rfl) ⟨_, rfl, _, rfl, hyp⟩
    · have hyp := hf c10
      clear ht hf
      refine ex_aload_n 34 dX10_life_33 rfl rfl ?_
      refine ex_iload_n 35 dX10_life_34 rfl rfl ?_
      refine ex_iload_n 36 dX10_life_35 rfl rfl ?_
      refine s_callVi [vi x1, vi x2] 39 dX10_life_36 rfl cvX10_273 rfl rfl ⟨Nat.le_of_ble_eq_true rfl, Nat.le_of_ble_eq_true rfl⟩ (Nat.le_of_ble_eq_true rfl) ⟨_, rfl⟩ hyp (fun y9 h1 hq => ?_)
      obtain ⟨m8, rfl, hyp⟩ := hq
      refine ex_goto 44 dX10_life_39 (by decide) ?_
      exact ex_iret dX10_life_44 (Or.inl rfl) ⟨_, rfl, _, rfl, hyp⟩
  · have hyp := hf c11
    clear ht hf
    refine ex_bipush 20 dX10_life_18 rfl ⟨by decide, by decide⟩ ?_
    refine ex_goto 44 dX10_life_20 (by decide) ?_
    exact ex_iret dX10_life_44 (Or.inl rfl) ⟨_, rfl, _, rfl, hyp⟩
set_option maxRecDepth 4000 in
theorem uX10_weddingAt {P : Int → MS → Prop} (m0 : MS) (x1 : Int) (x2 : Int) (hyp : YYi mX10_weddingAt 5 [some (vr 0), some (vi x1), some (vi x2), some (vi x2), some (vi 0)] [] m0 P) : MMi mX10_weddingAt [vr 0, vi x1, vi x2] m0 P := by
  refine met_of_ex (by decide +kernel) (Nat.le_of_ble_eq_true rfl) ?_
  show EX mX10_weddingAt 0 [some (vr 0), some (vi x1), some (vi x2), none, none] [] (hM m0) (0, 0) _
  refine ex_iload_n 1 dX10_weddingAt_0 rfl rfl ?_
  refine q_istore_n [some (vr 0), some (vi x1), some (vi x2), some (vi x2), none] 2 dX10_weddingAt_1 rfl (Nat.le_of_ble_eq_true rfl) rfl rfl ?_
  refine ex_iconst 3 dX10_weddingAt_2 rfl ?_
  refine q_istore [some (vr 0), some (vi x1), some (vi x2), some (vi x2), some (vi 0)] 5 dX10_weddingAt_3 rfl (Nat.le_of_ble_eq_true rfl) rfl rfl ?_
  exact hyp
set_option maxRecDepth 4000 in
theorem uX10_weddingAt_5 {P : Int → MS → Prop} (m0 : MS) (x1 : Int) (x2 : Int) (x3 : Int) (x4 : Int) (hyp : rng x4 ∧ rng (m0 0 2) ∧ (m0 0 2 ≤ x4 → (P (-101) m0)) ∧ (x4 < m0 0 2 → (rng x2 ∧ (x2 < 0 → (P (-101) m0)) ∧ (0 ≤ x2 → (0 ≤ x4 ∧ x4 < 18 ∧ rng (m0 2 (x4).toNat) ∧ (¬ m0 2 (x4).toNat = 1 → (YYi mX10_weddingAt 5 [some (vr 0), some (vi x1), some (vi x2), some (vi x3), some (vi (x4 + 1))] [] m0 P)) ∧ (m0 2 (x4).toNat = 1 → (MMi mX10_isOf [vr 0, vi x4, vi x1] m0 (fun y8 m7 => rng y8 ∧ (y8 = 0 → (YYi mX10_weddingAt 5 [some (vr 0), some (vi x1), some (vi x2), some (vi x3), some (vi (x4 + 1))] [] m7 P)) ∧ (¬ y8 = 0 → (rng x3 ∧ (¬ x3 = 0 → (YYi mX10_weddingAt 5 [some (vr 0), some (vi x1), some (vi x2), some (vi (x3 + (-1))), some (vi (x4 + 1))] [] m7 P)) ∧ (x3 = 0 → (P x4 m7)))))))))))) : YYi mX10_weddingAt 5 [some (vr 0), some (vi x1), some (vi x2), some (vi x3), some (vi x4)] [] m0 P := by
  refine ex_iload 7 dX10_weddingAt_5 rfl rfl ?_
  refine ex_aload_n 8 dX10_weddingAt_7 rfl rfl ?_
  refine q_getI 10 2 11 dX10_weddingAt_8 rfl fiX10_118 (Or.inl rfl) ⟨_, rfl⟩ ?_
  obtain ⟨o1, hyp⟩ := hyp
  obtain ⟨o2, hyp⟩ := hyp
  obtain ⟨ht, hf⟩ := hyp
  refine ex_icmp_ge 55 14 dX10_weddingAt_11 (by decide) rfl o1 o2 (fun c15 => ?_) (fun c15 => ?_)
  · have hyp := ht c15
    clear ht hf
    refine ex_bipush 57 dX10_weddingAt_55 rfl ⟨by decide, by decide⟩ ?_
    exact ex_iret dX10_weddingAt_57 (Or.inl rfl) ⟨_, rfl, _, rfl, hyp⟩
  · have hyp := hf c15
    clear ht hf
    refine ex_iload_n 15 dX10_weddingAt_14 rfl rfl ?_
    obtain ⟨o3, hyp⟩ := hyp
    obtain ⟨ht, hf⟩ := hyp
    refine ex_if_lt 55 18 dX10_weddingAt_15 (by decide) rfl o3 (fun c14 => ?_) (fun c14 => ?_)
    · have hyp := ht c14
      clear ht hf
      refine ex_bipush 57 dX10_weddingAt_55 rfl ⟨by decide, by decide⟩ ?_
      exact ex_iret dX10_weddingAt_57 (Or.inl rfl) ⟨_, rfl, _, rfl, hyp⟩
    · have hyp := hf c14
      clear ht hf
      refine ex_aload_n 19 dX10_weddingAt_18 rfl rfl ?_
      refine q_getR (a := 2) 10 3 22 dX10_weddingAt_19 rfl fiX10_13 rfl ⟨_, rfl⟩ rfl ?_
      refine ex_iload 24 dX10_weddingAt_22 rfl rfl ?_
      obtain ⟨o4, hyp⟩ := hyp
      obtain ⟨o5, hyp⟩ := hyp
      refine ex_iald 25 dX10_weddingAt_24 rfl (ai_of (n := 18) rfl o4 o5 (by decide)) ?_
      refine ex_iconst 26 dX10_weddingAt_25 rfl ?_
      obtain ⟨o6, hyp⟩ := hyp
      obtain ⟨ht, hf⟩ := hyp
      refine ex_icmp_ne 49 29 dX10_weddingAt_26 (by decide) rfl o6 ⟨by decide, by decide⟩ (fun c13 => ?_) (fun c13 => ?_)
      · have hyp := ht c13
        clear ht hf
        refine q_iinc [some (vr 0), some (vi x1), some (vi x2), some (vi x3), some (vi (x4 + 1))] 52 dX10_weddingAt_49 rfl rfl (Nat.le_of_ble_eq_true rfl) rfl rfl ?_
        refine ex_goto 5 dX10_weddingAt_52 (by decide) ?_
        exact hyp
      · have hyp := hf c13
        clear ht hf
        refine ex_aload_n 30 dX10_weddingAt_29 rfl rfl ?_
        refine ex_iload 32 dX10_weddingAt_30 rfl rfl ?_
        refine ex_iload_n 33 dX10_weddingAt_32 rfl rfl ?_
        refine s_callVi [vi x4, vi x1] 36 dX10_weddingAt_33 rfl cvX10_222 rfl rfl ⟨Nat.le_of_ble_eq_true rfl, Nat.le_of_ble_eq_true rfl⟩ (Nat.le_of_ble_eq_true rfl) ⟨_, rfl⟩ hyp (fun y8 h1 hq => ?_)
        obtain ⟨m7, rfl, hyp⟩ := hq
        obtain ⟨o9, hyp⟩ := hyp
        obtain ⟨ht, hf⟩ := hyp
        refine ex_if_eq 49 39 dX10_weddingAt_36 (by decide) rfl o9 (fun c12 => ?_) (fun c12 => ?_)
        · have hyp := ht c12
          clear ht hf
          refine q_iinc [some (vr 0), some (vi x1), some (vi x2), some (vi x3), some (vi (x4 + 1))] 52 dX10_weddingAt_49 rfl rfl (Nat.le_of_ble_eq_true rfl) rfl rfl ?_
          refine ex_goto 5 dX10_weddingAt_52 (by decide) ?_
          exact hyp
        · have hyp := hf c12
          clear ht hf
          refine ex_iload_n 40 dX10_weddingAt_39 rfl rfl ?_
          obtain ⟨o10, hyp⟩ := hyp
          obtain ⟨ht, hf⟩ := hyp
          refine ex_if_ne 46 43 dX10_weddingAt_40 (by decide) rfl o10 (fun c11 => ?_) (fun c11 => ?_)
          · have hyp := ht c11
            clear ht hf
            refine q_iinc [some (vr 0), some (vi x1), some (vi x2), some (vi (x3 + (-1))), some (vi x4)] 49 dX10_weddingAt_46 rfl rfl (Nat.le_of_ble_eq_true rfl) rfl rfl ?_
            refine q_iinc [some (vr 0), some (vi x1), some (vi x2), some (vi (x3 + (-1))), some (vi (x4 + 1))] 52 dX10_weddingAt_49 rfl rfl (Nat.le_of_ble_eq_true rfl) rfl rfl ?_
            refine ex_goto 5 dX10_weddingAt_52 (by decide) ?_
            exact hyp
          · have hyp := hf c11
            clear ht hf
            refine ex_iload 45 dX10_weddingAt_43 rfl rfl ?_
            exact ex_iret dX10_weddingAt_45 (Or.inl rfl) ⟨_, rfl, _, rfl, hyp⟩
set_option maxRecDepth 4000 in
theorem uX10_wedding {P : Int → MS → Prop} (m0 : MS) (x1 : Int) (x2 : Int) (hyp : MMv mX10_layLives [vr 0] m0 (fun m1 => MMi mX10_within [vi x1, vi 0, vi ((m1 0 28) - 1)] m1 (fun y3 m2 => rng y3 ∧ (y3 = 0 → (P (-101) m2)) ∧ (¬ y3 = 0 → (MMi mX10_weddingAt [vr 0, vi x1, vi x2] m2 (fun y6 m5 => P y6 m5)))))) : MMi mX10_wedding [vr 0, vi x1, vi x2] m0 P := by
  refine met_of_ex (by decide +kernel) (Nat.le_of_ble_eq_true rfl) ?_
  show EX mX10_wedding 0 [some (vr 0), some (vi x1), some (vi x2)] [] (hM m0) (0, 0) _
  refine ex_aload_n 1 dX10_wedding_0 rfl rfl ?_
  refine s_callVv [] 4 dX10_wedding_1 rfl cvX10_250 rfl rfl ⟨Nat.le_of_ble_eq_true rfl, Nat.le_of_ble_eq_true rfl⟩ (Nat.le_of_ble_eq_true rfl) ⟨_, rfl⟩ hyp (fun h1 hq => ?_)
  obtain ⟨m1, rfl, hyp⟩ := hq
  refine ex_iload_n 5 dX10_wedding_4 rfl rfl ?_
  refine ex_iconst 6 dX10_wedding_5 rfl ?_
  refine ex_aload_n 7 dX10_wedding_6 rfl rfl ?_
  refine q_getI 10 28 10 dX10_wedding_7 rfl fiX10_212 (Or.inl rfl) ⟨_, rfl⟩ ?_
  refine ex_iconst 11 dX10_wedding_10 rfl ?_
  refine ex_isub 12 dX10_wedding_11 rfl ?_
  refine s_callSi [vi x1, vi 0, vi ((m1 0 28) - 1)] 15 dX10_wedding_12 rfl cvX10_76 rfl rfl ⟨Nat.le_of_ble_eq_true rfl, Nat.le_of_ble_eq_true rfl⟩ (Nat.le_of_ble_eq_true rfl) hyp (fun y3 h1 hq => ?_)
  obtain ⟨m2, rfl, hyp⟩ := hq
  obtain ⟨o4, hyp⟩ := hyp
  obtain ⟨ht, hf⟩ := hyp
  refine ex_if_eq 27 18 dX10_wedding_15 (by decide) rfl o4 (fun c7 => ?_) (fun c7 => ?_)
  · have hyp := ht c7
    clear ht hf
    refine ex_bipush 29 dX10_wedding_27 rfl ⟨by decide, by decide⟩ ?_
    exact ex_iret dX10_wedding_29 (Or.inl rfl) ⟨_, rfl, _, rfl, hyp⟩
  · have hyp := hf c7
    clear ht hf
    refine ex_aload_n 19 dX10_wedding_18 rfl rfl ?_
    refine ex_iload_n 20 dX10_wedding_19 rfl rfl ?_
    refine ex_iload_n 21 dX10_wedding_20 rfl rfl ?_
    refine s_callVi [vi x1, vi x2] 24 dX10_wedding_21 rfl cvX10_276 rfl rfl ⟨Nat.le_of_ble_eq_true rfl, Nat.le_of_ble_eq_true rfl⟩ (Nat.le_of_ble_eq_true rfl) ⟨_, rfl⟩ hyp (fun y6 h1 hq => ?_)
    obtain ⟨m5, rfl, hyp⟩ := hq
    refine ex_goto 29 dX10_wedding_24 (by decide) ?_
    exact ex_iret dX10_wedding_29 (Or.inl rfl) ⟨_, rfl, _, rfl, hyp⟩
set_option maxRecDepth 4000 in
theorem uX10_worth {P : Int → MS → Prop} (m0 : MS) (x1 : Int) (x2 : Int) (hyp : MMv mX10_layFirstLives [vr 0] m0 (fun m1 => MMi mX10_isEntry [vr 0, vi x1] m1 (fun y3 m2 => rng y3 ∧ (y3 = 0 → (P (-101) m2)) ∧ (¬ y3 = 0 → (0 ≤ x1 ∧ x1 < 18 ∧ rng (m2 2 (x1).toNat) ∧ (¬ m2 2 (x1).toNat = 1 → (P (-101) m2)) ∧ (m2 2 (x1).toNat = 1 → (MMi mX10_within [vi x2, vi 0, vi ((m2 0 28) - 1)] m2 (fun y9 m8 => rng y9 ∧ (¬ y9 = 0 → (MMi mX10_canGo [vr 0, vi x1, vi x2] m8 (fun y12 m11 => rng y12 ∧ (y12 = 0 → (P (-1) m11)) ∧ (¬ y12 = 0 → (MMi mX10_worthAt [vr 0, vi x1, vi x2] m11 (fun y15 m14 => P y15 m14)))))) ∧ (y9 = 0 → (P (-101) m8)))))))))) : MMi mX10_worth [vr 0, vi x1, vi x2] m0 P := by
  refine met_of_ex (by decide +kernel) (Nat.le_of_ble_eq_true rfl) ?_
  show EX mX10_worth 0 [some (vr 0), some (vi x1), some (vi x2)] [] (hM m0) (0, 0) _
  refine ex_aload_n 1 dX10_worth_0 rfl rfl ?_
  refine s_callVv [] 4 dX10_worth_1 rfl cvX10_231 rfl rfl ⟨Nat.le_of_ble_eq_true rfl, Nat.le_of_ble_eq_true rfl⟩ (Nat.le_of_ble_eq_true rfl) ⟨_, rfl⟩ hyp (fun h1 hq => ?_)
  obtain ⟨m1, rfl, hyp⟩ := hq
  refine ex_aload_n 5 dX10_worth_4 rfl rfl ?_
  refine ex_iload_n 6 dX10_worth_5 rfl rfl ?_
  refine s_callVi [vi x1] 9 dX10_worth_6 rfl cvX10_178 rfl rfl ⟨Nat.le_of_ble_eq_true rfl, Nat.le_of_ble_eq_true rfl⟩ (Nat.le_of_ble_eq_true rfl) ⟨_, rfl⟩ hyp (fun y3 h1 hq => ?_)
  obtain ⟨m2, rfl, hyp⟩ := hq
  obtain ⟨o4, hyp⟩ := hyp
  obtain ⟨ht, hf⟩ := hyp
  refine ex_if_eq 36 12 dX10_worth_9 (by decide) rfl o4 (fun c19 => ?_) (fun c19 => ?_)
  · have hyp := ht c19
    clear ht hf
    refine ex_bipush 38 dX10_worth_36 rfl ⟨by decide, by decide⟩ ?_
    exact ex_iret dX10_worth_38 (Or.inl rfl) ⟨_, rfl, _, rfl, hyp⟩
  · have hyp := hf c19
    clear ht hf
    refine ex_aload_n 13 dX10_worth_12 rfl rfl ?_
    refine q_getR (a := 2) 10 3 16 dX10_worth_13 rfl fiX10_13 rfl ⟨_, rfl⟩ rfl ?_
    refine ex_iload_n 17 dX10_worth_16 rfl rfl ?_
    obtain ⟨o5, hyp⟩ := hyp
    obtain ⟨o6, hyp⟩ := hyp
    refine ex_iald 18 dX10_worth_17 rfl (ai_of (n := 18) rfl o5 o6 (by decide)) ?_
    refine ex_iconst 19 dX10_worth_18 rfl ?_
    obtain ⟨o7, hyp⟩ := hyp
    obtain ⟨ht, hf⟩ := hyp
    refine ex_icmp_ne 36 22 dX10_worth_19 (by decide) rfl o7 ⟨by decide, by decide⟩ (fun c18 => ?_) (fun c18 => ?_)
    · have hyp := ht c18
      clear ht hf
      refine ex_bipush 38 dX10_worth_36 rfl ⟨by decide, by decide⟩ ?_
      exact ex_iret dX10_worth_38 (Or.inl rfl) ⟨_, rfl, _, rfl, hyp⟩
    · have hyp := hf c18
      clear ht hf
      refine ex_iload_n 23 dX10_worth_22 rfl rfl ?_
      refine ex_iconst 24 dX10_worth_23 rfl ?_
      refine ex_aload_n 25 dX10_worth_24 rfl rfl ?_
      refine q_getI 10 28 28 dX10_worth_25 rfl fiX10_212 (Or.inl rfl) ⟨_, rfl⟩ ?_
      refine ex_iconst 29 dX10_worth_28 rfl ?_
      refine ex_isub 30 dX10_worth_29 rfl ?_
      refine s_callSi [vi x2, vi 0, vi ((m2 0 28) - 1)] 33 dX10_worth_30 rfl cvX10_76 rfl rfl ⟨Nat.le_of_ble_eq_true rfl, Nat.le_of_ble_eq_true rfl⟩ (Nat.le_of_ble_eq_true rfl) hyp (fun y9 h1 hq => ?_)
      obtain ⟨m8, rfl, hyp⟩ := hq
      obtain ⟨o10, hyp⟩ := hyp
      obtain ⟨ht, hf⟩ := hyp
      refine ex_if_ne 39 36 dX10_worth_33 (by decide) rfl o10 (fun c17 => ?_) (fun c17 => ?_)
      · have hyp := ht c17
        clear ht hf
        refine ex_aload_n 40 dX10_worth_39 rfl rfl ?_
        refine ex_iload_n 41 dX10_worth_40 rfl rfl ?_
        refine ex_iload_n 42 dX10_worth_41 rfl rfl ?_
        refine s_callVi [vi x1, vi x2] 45 dX10_worth_42 rfl cvX10_225 rfl rfl ⟨Nat.le_of_ble_eq_true rfl, Nat.le_of_ble_eq_true rfl⟩ (Nat.le_of_ble_eq_true rfl) ⟨_, rfl⟩ hyp (fun y12 h1 hq => ?_)
        obtain ⟨m11, rfl, hyp⟩ := hq
        obtain ⟨o13, hyp⟩ := hyp
        obtain ⟨ht, hf⟩ := hyp
        refine ex_if_eq 57 48 dX10_worth_45 (by decide) rfl o13 (fun c16 => ?_) (fun c16 => ?_)
        · have hyp := ht c16
          clear ht hf
          refine ex_iconst 58 dX10_worth_57 rfl ?_
          exact ex_iret dX10_worth_58 (Or.inl rfl) ⟨_, rfl, _, rfl, hyp⟩
        · have hyp := hf c16
          clear ht hf
          refine ex_aload_n 49 dX10_worth_48 rfl rfl ?_
          refine ex_iload_n 50 dX10_worth_49 rfl rfl ?_
          refine ex_iload_n 51 dX10_worth_50 rfl rfl ?_
          refine s_callVi [vi x1, vi x2] 54 dX10_worth_51 rfl cvX10_228 rfl rfl ⟨Nat.le_of_ble_eq_true rfl, Nat.le_of_ble_eq_true rfl⟩ (Nat.le_of_ble_eq_true rfl) ⟨_, rfl⟩ hyp (fun y15 h1 hq => ?_)
          obtain ⟨m14, rfl, hyp⟩ := hq
          refine ex_goto 58 dX10_worth_54 (by decide) ?_
          exact ex_iret dX10_worth_58 (Or.inl rfl) ⟨_, rfl, _, rfl, hyp⟩
      · have hyp := hf c17
        clear ht hf
        refine ex_bipush 38 dX10_worth_36 rfl ⟨by decide, by decide⟩ ?_
        exact ex_iret dX10_worth_38 (Or.inl rfl) ⟨_, rfl, _, rfl, hyp⟩
set_option maxRecDepth 4000 in
theorem uX10_mate {P : Int → MS → Prop} (m0 : MS) (x1 : Int) (hyp : MMi mX10_isEntry [vr 0, vi x1] m0 (fun y2 m1 => rng y2 ∧ (y2 = 0 → (P (-101) m1)) ∧ (¬ y2 = 0 → (0 ≤ x1 ∧ x1 < 18 ∧ rng (m1 2 (x1).toNat) ∧ (¬ m1 2 (x1).toNat = 1 → (MMv mX10_layPairs [vr 0] m1 (fun m7 => P (m7 18 (x1).toNat) m7))) ∧ (m1 2 (x1).toNat = 1 → (P (-101) m1)))))) : MMi mX10_mate [vr 0, vi x1] m0 P := by
  refine met_of_ex (by decide +kernel) (Nat.le_of_ble_eq_true rfl) ?_
  show EX mX10_mate 0 [some (vr 0), some (vi x1)] [] (hM m0) (0, 0) _
  refine ex_aload_n 1 dX10_mate_0 rfl rfl ?_
  refine ex_iload_n 2 dX10_mate_1 rfl rfl ?_
  refine s_callVi [vi x1] 5 dX10_mate_2 rfl cvX10_178 rfl rfl ⟨Nat.le_of_ble_eq_true rfl, Nat.le_of_ble_eq_true rfl⟩ (Nat.le_of_ble_eq_true rfl) ⟨_, rfl⟩ hyp (fun y2 h1 hq => ?_)
  obtain ⟨m1, rfl, hyp⟩ := hq
  obtain ⟨o3, hyp⟩ := hyp
  obtain ⟨ht, hf⟩ := hyp
  refine ex_if_eq 18 8 dX10_mate_5 (by decide) rfl o3 (fun c9 => ?_) (fun c9 => ?_)
  · have hyp := ht c9
    clear ht hf
    refine ex_bipush 20 dX10_mate_18 rfl ⟨by decide, by decide⟩ ?_
    exact ex_iret dX10_mate_20 (Or.inl rfl) ⟨_, rfl, _, rfl, hyp⟩
  · have hyp := hf c9
    clear ht hf
    refine ex_aload_n 9 dX10_mate_8 rfl rfl ?_
    refine q_getR (a := 2) 10 3 12 dX10_mate_9 rfl fiX10_13 rfl ⟨_, rfl⟩ rfl ?_
    refine ex_iload_n 13 dX10_mate_12 rfl rfl ?_
    obtain ⟨o4, hyp⟩ := hyp
    obtain ⟨o5, hyp⟩ := hyp
    refine ex_iald 14 dX10_mate_13 rfl (ai_of (n := 18) rfl o4 o5 (by decide)) ?_
    refine ex_iconst 15 dX10_mate_14 rfl ?_
    obtain ⟨o6, hyp⟩ := hyp
    obtain ⟨ht, hf⟩ := hyp
    refine ex_icmp_ne 21 18 dX10_mate_15 (by decide) rfl o6 ⟨by decide, by decide⟩ (fun c8 => ?_) (fun c8 => ?_)
    · have hyp := ht c8
      clear ht hf
      refine ex_aload_n 22 dX10_mate_21 rfl rfl ?_
      refine s_callVv [] 25 dX10_mate_22 rfl cvX10_215 rfl rfl ⟨Nat.le_of_ble_eq_true rfl, Nat.le_of_ble_eq_true rfl⟩ (Nat.le_of_ble_eq_true rfl) ⟨_, rfl⟩ hyp (fun h1 hq => ?_)
      obtain ⟨m7, rfl, hyp⟩ := hq
      refine ex_aload_n 26 dX10_mate_25 rfl rfl ?_
      refine q_getR (a := 18) 10 25 29 dX10_mate_26 rfl fiX10_61 rfl ⟨_, rfl⟩ rfl ?_
      refine ex_iload_n 30 dX10_mate_29 rfl rfl ?_
      refine ex_iald 31 dX10_mate_30 rfl (ai_of (n := 18) rfl o4 o5 (by decide)) ?_
      exact ex_iret dX10_mate_31 (Or.inl rfl) ⟨_, rfl, _, rfl, hyp⟩
    · have hyp := hf c8
      clear ht hf
      refine ex_bipush 20 dX10_mate_18 rfl ⟨by decide, by decide⟩ ?_
      exact ex_iret dX10_mate_20 (Or.inl rfl) ⟨_, rfl, _, rfl, hyp⟩
set_option maxRecDepth 4000 in
theorem uX10_entryNow {P : Int → MS → Prop} (m0 : MS) (x1 : Int) (x2 : Int) (hyp : rng x2 ∧ (x2 < 0 ∨ 6 < x2 → (0 ≤ x1 ∧ x1 < 18 ∧ rng (m0 22 (x1).toNat) ∧ (¬ m0 22 (x1).toNat = (-1) → (P 0 m0)) ∧ (m0 22 (x1).toNat = (-1) → (P 1 m0)))) ∧ (x2 = 0 → (0 ≤ x1 ∧ x1 < 18 ∧ P (m0 2 (x1).toNat) m0)) ∧ (x2 = 1 → (0 ≤ x1 ∧ x1 < 18 ∧ P (m0 3 (x1).toNat) m0)) ∧ (x2 = 2 → (0 ≤ x1 ∧ x1 < 18 ∧ P (m0 4 (x1).toNat) m0)) ∧ (x2 = 3 → (0 ≤ x1 ∧ x1 < 18 ∧ P (m0 5 (x1).toNat) m0)) ∧ (x2 = 4 → (MMi mX10_firstBorn [vr 0, vi x1] m0 (fun y15 m14 => P y15 m14))) ∧ (x2 = 5 → (MMi mX10_lastBorn [vr 0, vi x1] m0 (fun y17 m16 => P y17 m16))) ∧ (x2 = 6 → (0 ≤ x1 ∧ x1 < 18 ∧ P (m0 22 (x1).toNat) m0))) : MMi mX10_entryNow [vr 0, vi x1, vi x2] m0 P := by
  refine met_of_ex (by decide +kernel) (Nat.le_of_ble_eq_true rfl) ?_
  show EX mX10_entryNow 0 [some (vr 0), some (vi x1), some (vi x2)] [] (hM m0) (0, 0) _
  refine ex_iload_n 1 dX10_entryNow_0 rfl rfl ?_
  obtain ⟨o1, hyp⟩ := hyp
  obtain ⟨hd, hv0, hv1, hv2, hv3, hv4, hv5, hv6⟩ := hyp
  rcases (show (x2 < 0 ∨ 6 < x2) ∨ x2 = 0 ∨ x2 = 1 ∨ x2 = 2 ∨ x2 = 3 ∨ x2 = 4 ∨ x2 = 5 ∨ x2 = 6 by omega) with c | c | c | c | c | c | c | c
  · refine ex_tswOut 91 dX10_entryNow_1 o1 c (by decide) ?_
    have hyp := hd c
    refine ex_aload_n 92 dX10_entryNow_91 rfl rfl ?_
    refine q_getR (a := 22) 10 32 95 dX10_entryNow_92 rfl fiX10_73 rfl ⟨_, rfl⟩ rfl ?_
    refine ex_iload_n 96 dX10_entryNow_95 rfl rfl ?_
    obtain ⟨o2, hyp⟩ := hyp
    obtain ⟨o3, hyp⟩ := hyp
    refine ex_iald 97 dX10_entryNow_96 rfl (ai_of (n := 18) rfl o2 o3 (by decide)) ?_
    refine ex_iconst 98 dX10_entryNow_97 rfl ?_
    obtain ⟨o4, hyp⟩ := hyp
    obtain ⟨ht, hf⟩ := hyp
    refine ex_icmp_ne 105 101 dX10_entryNow_98 (by decide) rfl o4 ⟨by decide, by decide⟩ (fun c5 => ?_) (fun c5 => ?_)
    · have hyp := ht c5
      clear ht hf
      refine ex_iconst 106 dX10_entryNow_105 rfl ?_
      exact ex_iret dX10_entryNow_106 (Or.inl rfl) ⟨_, rfl, _, rfl, hyp⟩
    · have hyp := hf c5
      clear ht hf
      refine ex_iconst 102 dX10_entryNow_101 rfl ?_
      refine ex_goto 106 dX10_entryNow_102 (by decide) ?_
      exact ex_iret dX10_entryNow_106 (Or.inl rfl) ⟨_, rfl, _, rfl, hyp⟩
  · refine ex_tswIn 0 44 dX10_entryNow_1 c ⟨by decide, by decide⟩ (by decide) (by decide) rfl (by decide) ?_
    have hyp := hv0 c
    refine ex_aload_n 45 dX10_entryNow_44 rfl rfl ?_
    refine q_getR (a := 2) 10 3 48 dX10_entryNow_45 rfl fiX10_13 rfl ⟨_, rfl⟩ rfl ?_
    refine ex_iload_n 49 dX10_entryNow_48 rfl rfl ?_
    obtain ⟨o6, hyp⟩ := hyp
    obtain ⟨o7, hyp⟩ := hyp
    refine ex_iald 50 dX10_entryNow_49 rfl (ai_of (n := 18) rfl o6 o7 (by decide)) ?_
    exact ex_iret dX10_entryNow_50 (Or.inl rfl) ⟨_, rfl, _, rfl, hyp⟩
  · refine ex_tswIn 1 51 dX10_entryNow_1 c ⟨by decide, by decide⟩ (by decide) (by decide) rfl (by decide) ?_
    have hyp := hv1 c
    refine ex_aload_n 52 dX10_entryNow_51 rfl rfl ?_
    refine q_getR (a := 3) 10 4 55 dX10_entryNow_52 rfl fiX10_16 rfl ⟨_, rfl⟩ rfl ?_
    refine ex_iload_n 56 dX10_entryNow_55 rfl rfl ?_
    obtain ⟨o8, hyp⟩ := hyp
    obtain ⟨o9, hyp⟩ := hyp
    refine ex_iald 57 dX10_entryNow_56 rfl (ai_of (n := 18) rfl o8 o9 (by decide)) ?_
    exact ex_iret dX10_entryNow_57 (Or.inl rfl) ⟨_, rfl, _, rfl, hyp⟩
  · refine ex_tswIn 2 58 dX10_entryNow_1 c ⟨by decide, by decide⟩ (by decide) (by decide) rfl (by decide) ?_
    have hyp := hv2 c
    refine ex_aload_n 59 dX10_entryNow_58 rfl rfl ?_
    refine q_getR (a := 4) 10 5 62 dX10_entryNow_59 rfl fiX10_19 rfl ⟨_, rfl⟩ rfl ?_
    refine ex_iload_n 63 dX10_entryNow_62 rfl rfl ?_
    obtain ⟨o10, hyp⟩ := hyp
    obtain ⟨o11, hyp⟩ := hyp
    refine ex_iald 64 dX10_entryNow_63 rfl (ai_of (n := 18) rfl o10 o11 (by decide)) ?_
    exact ex_iret dX10_entryNow_64 (Or.inl rfl) ⟨_, rfl, _, rfl, hyp⟩
  · refine ex_tswIn 3 65 dX10_entryNow_1 c ⟨by decide, by decide⟩ (by decide) (by decide) rfl (by decide) ?_
    have hyp := hv3 c
    refine ex_aload_n 66 dX10_entryNow_65 rfl rfl ?_
    refine q_getR (a := 5) 10 6 69 dX10_entryNow_66 rfl fiX10_22 rfl ⟨_, rfl⟩ rfl ?_
    refine ex_iload_n 70 dX10_entryNow_69 rfl rfl ?_
    obtain ⟨o12, hyp⟩ := hyp
    obtain ⟨o13, hyp⟩ := hyp
    refine ex_iald 71 dX10_entryNow_70 rfl (ai_of (n := 18) rfl o12 o13 (by decide)) ?_
    exact ex_iret dX10_entryNow_71 (Or.inl rfl) ⟨_, rfl, _, rfl, hyp⟩
  · refine ex_tswIn 4 72 dX10_entryNow_1 c ⟨by decide, by decide⟩ (by decide) (by decide) rfl (by decide) ?_
    have hyp := hv4 c
    refine ex_aload_n 73 dX10_entryNow_72 rfl rfl ?_
    refine ex_iload_n 74 dX10_entryNow_73 rfl rfl ?_
    refine s_callVi [vi x1] 77 dX10_entryNow_74 rfl cvX10_151 rfl rfl ⟨Nat.le_of_ble_eq_true rfl, Nat.le_of_ble_eq_true rfl⟩ (Nat.le_of_ble_eq_true rfl) ⟨_, rfl⟩ hyp (fun y15 h1 hq => ?_)
    obtain ⟨m14, rfl, hyp⟩ := hq
    exact ex_iret dX10_entryNow_77 (Or.inl rfl) ⟨_, rfl, _, rfl, hyp⟩
  · refine ex_tswIn 5 78 dX10_entryNow_1 c ⟨by decide, by decide⟩ (by decide) (by decide) rfl (by decide) ?_
    have hyp := hv5 c
    refine ex_aload_n 79 dX10_entryNow_78 rfl rfl ?_
    refine ex_iload_n 80 dX10_entryNow_79 rfl rfl ?_
    refine s_callVi [vi x1] 83 dX10_entryNow_80 rfl cvX10_154 rfl rfl ⟨Nat.le_of_ble_eq_true rfl, Nat.le_of_ble_eq_true rfl⟩ (Nat.le_of_ble_eq_true rfl) ⟨_, rfl⟩ hyp (fun y17 h1 hq => ?_)
    obtain ⟨m16, rfl, hyp⟩ := hq
    exact ex_iret dX10_entryNow_83 (Or.inl rfl) ⟨_, rfl, _, rfl, hyp⟩
  · refine ex_tswIn 6 84 dX10_entryNow_1 c ⟨by decide, by decide⟩ (by decide) (by decide) rfl (by decide) ?_
    have hyp := hv6 c
    refine ex_aload_n 85 dX10_entryNow_84 rfl rfl ?_
    refine q_getR (a := 22) 10 32 88 dX10_entryNow_85 rfl fiX10_73 rfl ⟨_, rfl⟩ rfl ?_
    refine ex_iload_n 89 dX10_entryNow_88 rfl rfl ?_
    obtain ⟨o18, hyp⟩ := hyp
    obtain ⟨o19, hyp⟩ := hyp
    refine ex_iald 90 dX10_entryNow_89 rfl (ai_of (n := 18) rfl o18 o19 (by decide)) ?_
    exact ex_iret dX10_entryNow_90 (Or.inl rfl) ⟨_, rfl, _, rfl, hyp⟩
set_option maxRecDepth 4000 in
theorem uX10_entryTold {P : Int → MS → Prop} (m0 : MS) (x1 : Int) (x2 : Int) (hyp : MMv mX10_layLives [vr 0] m0 (fun m1 => MMi mX10_entryNow [vr 0, vi x1, vi x2] m1 (fun y3 m2 => P y3 m2))) : MMi mX10_entryTold [vr 0, vi x1, vi x2] m0 P := by
  refine met_of_ex (by decide +kernel) (Nat.le_of_ble_eq_true rfl) ?_
  show EX mX10_entryTold 0 [some (vr 0), some (vi x1), some (vi x2)] [] (hM m0) (0, 0) _
  refine ex_aload_n 1 dX10_entryTold_0 rfl rfl ?_
  refine s_callVv [] 4 dX10_entryTold_1 rfl cvX10_250 rfl rfl ⟨Nat.le_of_ble_eq_true rfl, Nat.le_of_ble_eq_true rfl⟩ (Nat.le_of_ble_eq_true rfl) ⟨_, rfl⟩ hyp (fun h1 hq => ?_)
  obtain ⟨m1, rfl, hyp⟩ := hq
  refine ex_aload_n 5 dX10_entryTold_4 rfl rfl ?_
  refine ex_iload_n 6 dX10_entryTold_5 rfl rfl ?_
  refine ex_iload_n 7 dX10_entryTold_6 rfl rfl ?_
  refine s_callVi [vi x1, vi x2] 10 dX10_entryTold_7 rfl cvX10_279 rfl rfl ⟨Nat.le_of_ble_eq_true rfl, Nat.le_of_ble_eq_true rfl⟩ (Nat.le_of_ble_eq_true rfl) ⟨_, rfl⟩ hyp (fun y3 h1 hq => ?_)
  obtain ⟨m2, rfl, hyp⟩ := hq
  exact ex_iret dX10_entryTold_10 (Or.inl rfl) ⟨_, rfl, _, rfl, hyp⟩
set_option maxRecDepth 4000 in
theorem uX10_entry {P : Int → MS → Prop} (m0 : MS) (x1 : Int) (x2 : Int) (hyp : MMi mX10_isEntry [vr 0, vi x1] m0 (fun y2 m1 => rng y2 ∧ (¬ y2 = 0 → (MMi mX10_within [vi x2, vi 0, vi 7] m1 (fun y5 m4 => rng y5 ∧ (y5 = 0 → (P (-102) m4)) ∧ (¬ y5 = 0 → (MMi mX10_entryTold [vr 0, vi x1, vi x2] m4 (fun y8 m7 => P y8 m7)))))) ∧ (y2 = 0 → (P (-101) m1)))) : MMi mX10_entry [vr 0, vi x1, vi x2] m0 P := by
  refine met_of_ex (by decide +kernel) (Nat.le_of_ble_eq_true rfl) ?_
  show EX mX10_entry 0 [some (vr 0), some (vi x1), some (vi x2)] [] (hM m0) (0, 0) _
  refine ex_aload_n 1 dX10_entry_0 rfl rfl ?_
  refine ex_iload_n 2 dX10_entry_1 rfl rfl ?_
  refine s_callVi [vi x1] 5 dX10_entry_2 rfl cvX10_178 rfl rfl ⟨Nat.le_of_ble_eq_true rfl, Nat.le_of_ble_eq_true rfl⟩ (Nat.le_of_ble_eq_true rfl) ⟨_, rfl⟩ hyp (fun y2 h1 hq => ?_)
  obtain ⟨m1, rfl, hyp⟩ := hq
  obtain ⟨o3, hyp⟩ := hyp
  obtain ⟨ht, hf⟩ := hyp
  refine ex_if_ne 13 8 dX10_entry_5 (by decide) rfl o3 (fun c10 => ?_) (fun c10 => ?_)
  · have hyp := ht c10
    clear ht hf
    refine ex_iload_n 14 dX10_entry_13 rfl rfl ?_
    refine ex_iconst 15 dX10_entry_14 rfl ?_
    refine ex_bipush 17 dX10_entry_15 rfl ⟨by decide, by decide⟩ ?_
    refine s_callSi [vi x2, vi 0, vi 7] 20 dX10_entry_17 rfl cvX10_76 rfl rfl ⟨Nat.le_of_ble_eq_true rfl, Nat.le_of_ble_eq_true rfl⟩ (Nat.le_of_ble_eq_true rfl) hyp (fun y5 h1 hq => ?_)
    obtain ⟨m4, rfl, hyp⟩ := hq
    obtain ⟨o6, hyp⟩ := hyp
    obtain ⟨ht, hf⟩ := hyp
    refine ex_if_eq 32 23 dX10_entry_20 (by decide) rfl o6 (fun c9 => ?_) (fun c9 => ?_)
    · have hyp := ht c9
      clear ht hf
      refine ex_bipush 34 dX10_entry_32 rfl ⟨by decide, by decide⟩ ?_
      exact ex_iret dX10_entry_34 (Or.inl rfl) ⟨_, rfl, _, rfl, hyp⟩
    · have hyp := hf c9
      clear ht hf
      refine ex_aload_n 24 dX10_entry_23 rfl rfl ?_
      refine ex_iload_n 25 dX10_entry_24 rfl rfl ?_
      refine ex_iload_n 26 dX10_entry_25 rfl rfl ?_
      refine s_callVi [vi x1, vi x2] 29 dX10_entry_26 rfl cvX10_282 rfl rfl ⟨Nat.le_of_ble_eq_true rfl, Nat.le_of_ble_eq_true rfl⟩ (Nat.le_of_ble_eq_true rfl) ⟨_, rfl⟩ hyp (fun y8 h1 hq => ?_)
      obtain ⟨m7, rfl, hyp⟩ := hq
      refine ex_goto 34 dX10_entry_29 (by decide) ?_
      exact ex_iret dX10_entry_34 (Or.inl rfl) ⟨_, rfl, _, rfl, hyp⟩
  · have hyp := hf c10
    clear ht hf
    refine ex_bipush 10 dX10_entry_8 rfl ⟨by decide, by decide⟩ ?_
    refine ex_goto 34 dX10_entry_10 (by decide) ?_
    exact ex_iret dX10_entry_34 (Or.inl rfl) ⟨_, rfl, _, rfl, hyp⟩
set_option maxRecDepth 4000 in
theorem uX10_sign {P : Int → MS → Prop} (m0 : MS) (x1 : Int) (x2 : Int) (hyp : MMi mX10_isEntry [vr 0, vi x1] m0 (fun y2 m1 => rng y2 ∧ (y2 = 0 → (P (-101) m1)) ∧ (¬ y2 = 0 → (0 ≤ x1 ∧ x1 < 18 ∧ MMi mX10_within [vi x2, vi 0, vi ((m1 5 (x1).toNat) - 1)] m1 (fun y7 m6 => rng y7 ∧ (y7 = 0 → (P (-101) m6)) ∧ (¬ y7 = 0 → (0 ≤ (8 * x1) + x2 ∧ (8 * x1) + x2 < 144 ∧ P (m6 6 ((8 * x1) + x2).toNat) m6))))))) : MMi mX10_sign [vr 0, vi x1, vi x2] m0 P := by
  refine met_of_ex (by decide +kernel) (Nat.le_of_ble_eq_true rfl) ?_
  show EX mX10_sign 0 [some (vr 0), some (vi x1), some (vi x2)] [] (hM m0) (0, 0) _
  refine ex_aload_n 1 dX10_sign_0 rfl rfl ?_
  refine ex_iload_n 2 dX10_sign_1 rfl rfl ?_
  refine s_callVi [vi x1] 5 dX10_sign_2 rfl cvX10_178 rfl rfl ⟨Nat.le_of_ble_eq_true rfl, Nat.le_of_ble_eq_true rfl⟩ (Nat.le_of_ble_eq_true rfl) ⟨_, rfl⟩ hyp (fun y2 h1 hq => ?_)
  obtain ⟨m1, rfl, hyp⟩ := hq
  obtain ⟨o3, hyp⟩ := hyp
  obtain ⟨ht, hf⟩ := hyp
  refine ex_if_eq 38 8 dX10_sign_5 (by decide) rfl o3 (fun c12 => ?_) (fun c12 => ?_)
  · have hyp := ht c12
    clear ht hf
    refine ex_bipush 40 dX10_sign_38 rfl ⟨by decide, by decide⟩ ?_
    exact ex_iret dX10_sign_40 (Or.inl rfl) ⟨_, rfl, _, rfl, hyp⟩
  · have hyp := hf c12
    clear ht hf
    refine ex_iload_n 9 dX10_sign_8 rfl rfl ?_
    refine ex_iconst 10 dX10_sign_9 rfl ?_
    refine ex_aload_n 11 dX10_sign_10 rfl rfl ?_
    refine q_getR (a := 5) 10 6 14 dX10_sign_11 rfl fiX10_22 rfl ⟨_, rfl⟩ rfl ?_
    refine ex_iload_n 15 dX10_sign_14 rfl rfl ?_
    obtain ⟨o4, hyp⟩ := hyp
    obtain ⟨o5, hyp⟩ := hyp
    refine ex_iald 16 dX10_sign_15 rfl (ai_of (n := 18) rfl o4 o5 (by decide)) ?_
    refine ex_iconst 17 dX10_sign_16 rfl ?_
    refine ex_isub 18 dX10_sign_17 rfl ?_
    refine s_callSi [vi x2, vi 0, vi ((m1 5 (x1).toNat) - 1)] 21 dX10_sign_18 rfl cvX10_76 rfl rfl ⟨Nat.le_of_ble_eq_true rfl, Nat.le_of_ble_eq_true rfl⟩ (Nat.le_of_ble_eq_true rfl) hyp (fun y7 h1 hq => ?_)
    obtain ⟨m6, rfl, hyp⟩ := hq
    obtain ⟨o8, hyp⟩ := hyp
    obtain ⟨ht, hf⟩ := hyp
    refine ex_if_eq 38 24 dX10_sign_21 (by decide) rfl o8 (fun c11 => ?_) (fun c11 => ?_)
    · have hyp := ht c11
      clear ht hf
      refine ex_bipush 40 dX10_sign_38 rfl ⟨by decide, by decide⟩ ?_
      exact ex_iret dX10_sign_40 (Or.inl rfl) ⟨_, rfl, _, rfl, hyp⟩
    · have hyp := hf c11
      clear ht hf
      refine ex_aload_n 25 dX10_sign_24 rfl rfl ?_
      refine q_getR (a := 6) 10 7 28 dX10_sign_25 rfl fiX10_25 rfl ⟨_, rfl⟩ rfl ?_
      refine ex_bipush 30 dX10_sign_28 rfl ⟨by decide, by decide⟩ ?_
      refine ex_iload_n 31 dX10_sign_30 rfl rfl ?_
      refine ex_imul 32 dX10_sign_31 rfl ?_
      refine ex_iload_n 33 dX10_sign_32 rfl rfl ?_
      refine ex_iadd 34 dX10_sign_33 rfl ?_
      obtain ⟨o9, hyp⟩ := hyp
      obtain ⟨o10, hyp⟩ := hyp
      refine ex_iald 35 dX10_sign_34 rfl (ai_of (n := 144) rfl o9 o10 (by decide)) ?_
      refine ex_goto 40 dX10_sign_35 (by decide) ?_
      exact ex_iret dX10_sign_40 (Or.inl rfl) ⟨_, rfl, _, rfl, hyp⟩
set_option maxRecDepth 4000 in
theorem uX10_as {P : Int → MS → Prop} (m0 : MS) (x1 : Int) (x2 : Int) (hyp : MMi mX10_isEntry [vr 0, vi x1] m0 (fun y2 m1 => rng y2 ∧ (¬ y2 = 0 → (MMi mX10_within [vi x2, vi 0, vi 2] m1 (fun y5 m4 => rng y5 ∧ (¬ y5 = 0 → (0 ≤ x1 ∧ x1 < 18 ∧ rng (m4 2 (x1).toNat) ∧ rng x2 ∧ (¬ m4 2 (x1).toNat = x2 → (P (-1) m4)) ∧ (m4 2 (x1).toNat = x2 → (P (m4 3 (x1).toNat) m4)))) ∧ (y5 = 0 → (P (-102) m4))))) ∧ (y2 = 0 → (P (-101) m1)))) : MMi mX10_as [vr 0, vi x1, vi x2] m0 P := by
  refine met_of_ex (by decide +kernel) (Nat.le_of_ble_eq_true rfl) ?_
  show EX mX10_as 0 [some (vr 0), some (vi x1), some (vi x2)] [] (hM m0) (0, 0) _
  refine ex_aload_n 1 dX10_as_0 rfl rfl ?_
  refine ex_iload_n 2 dX10_as_1 rfl rfl ?_
  refine s_callVi [vi x1] 5 dX10_as_2 rfl cvX10_178 rfl rfl ⟨Nat.le_of_ble_eq_true rfl, Nat.le_of_ble_eq_true rfl⟩ (Nat.le_of_ble_eq_true rfl) ⟨_, rfl⟩ hyp (fun y2 h1 hq => ?_)
  obtain ⟨m1, rfl, hyp⟩ := hq
  obtain ⟨o3, hyp⟩ := hyp
  obtain ⟨ht, hf⟩ := hyp
  refine ex_if_ne 11 8 dX10_as_5 (by decide) rfl o3 (fun c13 => ?_) (fun c13 => ?_)
  · have hyp := ht c13
    clear ht hf
    refine ex_iload_n 12 dX10_as_11 rfl rfl ?_
    refine ex_iconst 13 dX10_as_12 rfl ?_
    refine ex_iconst 14 dX10_as_13 rfl ?_
    refine s_callSi [vi x2, vi 0, vi 2] 17 dX10_as_14 rfl cvX10_76 rfl rfl ⟨Nat.le_of_ble_eq_true rfl, Nat.le_of_ble_eq_true rfl⟩ (Nat.le_of_ble_eq_true rfl) hyp (fun y5 h1 hq => ?_)
    obtain ⟨m4, rfl, hyp⟩ := hq
    obtain ⟨o6, hyp⟩ := hyp
    obtain ⟨ht, hf⟩ := hyp
    refine ex_if_ne 23 20 dX10_as_17 (by decide) rfl o6 (fun c12 => ?_) (fun c12 => ?_)
    · have hyp := ht c12
      clear ht hf
      refine ex_aload_n 24 dX10_as_23 rfl rfl ?_
      refine q_getR (a := 2) 10 3 27 dX10_as_24 rfl fiX10_13 rfl ⟨_, rfl⟩ rfl ?_
      refine ex_iload_n 28 dX10_as_27 rfl rfl ?_
      obtain ⟨o7, hyp⟩ := hyp
      obtain ⟨o8, hyp⟩ := hyp
      refine ex_iald 29 dX10_as_28 rfl (ai_of (n := 18) rfl o7 o8 (by decide)) ?_
      refine ex_iload_n 30 dX10_as_29 rfl rfl ?_
      obtain ⟨o9, hyp⟩ := hyp
      obtain ⟨o10, hyp⟩ := hyp
      obtain ⟨ht, hf⟩ := hyp
      refine ex_icmp_ne 42 33 dX10_as_30 (by decide) rfl o9 o10 (fun c11 => ?_) (fun c11 => ?_)
      · have hyp := ht c11
        clear ht hf
        refine ex_iconst 43 dX10_as_42 rfl ?_
        exact ex_iret dX10_as_43 (Or.inl rfl) ⟨_, rfl, _, rfl, hyp⟩
      · have hyp := hf c11
        clear ht hf
        refine ex_aload_n 34 dX10_as_33 rfl rfl ?_
        refine q_getR (a := 3) 10 4 37 dX10_as_34 rfl fiX10_16 rfl ⟨_, rfl⟩ rfl ?_
        refine ex_iload_n 38 dX10_as_37 rfl rfl ?_
        refine ex_iald 39 dX10_as_38 rfl (ai_of (n := 18) rfl o7 o8 (by decide)) ?_
        refine ex_goto 43 dX10_as_39 (by decide) ?_
        exact ex_iret dX10_as_43 (Or.inl rfl) ⟨_, rfl, _, rfl, hyp⟩
    · have hyp := hf c12
      clear ht hf
      refine ex_bipush 22 dX10_as_20 rfl ⟨by decide, by decide⟩ ?_
      exact ex_iret dX10_as_22 (Or.inl rfl) ⟨_, rfl, _, rfl, hyp⟩
  · have hyp := hf c13
    clear ht hf
    refine ex_bipush 10 dX10_as_8 rfl ⟨by decide, by decide⟩ ?_
    exact ex_iret dX10_as_10 (Or.inl rfl) ⟨_, rfl, _, rfl, hyp⟩
set_option maxRecDepth 4000 in
theorem uX10_without {P : Int → MS → Prop} (m0 : MS) (x0 : Int) (x1 : Int) (hyp : P (b_or (b_and x0 ((b_shl 1 x1) - 1)) (b_shl (b_shr x0 (x1 + 1)) x1)) m0) : MMi mX10_without [vi x0, vi x1] m0 P := by
  refine met_of_ex (by decide +kernel) (Nat.le_of_ble_eq_true rfl) ?_
  show EX mX10_without 0 [some (vi x0), some (vi x1), none] [] (hM m0) (0, 0) _
  refine ex_iload_n 1 dX10_without_0 rfl rfl ?_
  refine ex_iconst 2 dX10_without_1 rfl ?_
  refine ex_iload_n 3 dX10_without_2 rfl rfl ?_
  refine ex_ishl 4 dX10_without_3 rfl ?_
  refine ex_iconst 5 dX10_without_4 rfl ?_
  refine ex_isub 6 dX10_without_5 rfl ?_
  refine ex_iand 7 dX10_without_6 rfl ?_
  refine q_istore_n [some (vi x0), some (vi x1), some (vi (b_and x0 ((b_shl 1 x1) - 1)))] 8 dX10_without_7 rfl (Nat.le_of_ble_eq_true rfl) rfl rfl ?_
  refine ex_iload_n 9 dX10_without_8 rfl rfl ?_
  refine ex_iload_n 10 dX10_without_9 rfl rfl ?_
  refine ex_iload_n 11 dX10_without_10 rfl rfl ?_
  refine ex_iconst 12 dX10_without_11 rfl ?_
  refine ex_iadd 13 dX10_without_12 rfl ?_
  refine ex_ishr 14 dX10_without_13 rfl ?_
  refine ex_iload_n 15 dX10_without_14 rfl rfl ?_
  refine ex_ishl 16 dX10_without_15 rfl ?_
  refine ex_ior 17 dX10_without_16 rfl ?_
  exact ex_iret dX10_without_17 (Or.inl rfl) ⟨_, rfl, _, rfl, hyp⟩
set_option maxRecDepth 4000 in
theorem uX10_strike {P : Int → MS → Prop} (m0 : MS) (x1 : Int) (hyp : MMi mX10_isEntry [vr 0, vi x1] m0 (fun y2 m1 => rng y2 ∧ (¬ y2 = 0 → (∀ m5 : MS, m5 = mI m1 0 2 ((m1 0 2) - 1) → (YYi mX10_strike 23 [some (vr 0), some (vi x1), some (vi x1), none] [] m5 P))) ∧ (y2 = 0 → (P (-101) m1)))) : MMi mX10_strike [vr 0, vi x1] m0 P := by
  refine met_of_ex (by decide +kernel) (Nat.le_of_ble_eq_true rfl) ?_
  show EX mX10_strike 0 [some (vr 0), some (vi x1), none, none] [] (hM m0) (0, 0) _
  refine ex_aload_n 1 dX10_strike_0 rfl rfl ?_
  refine ex_iload_n 2 dX10_strike_1 rfl rfl ?_
  refine s_callVi [vi x1] 5 dX10_strike_2 rfl cvX10_178 rfl rfl ⟨Nat.le_of_ble_eq_true rfl, Nat.le_of_ble_eq_true rfl⟩ (Nat.le_of_ble_eq_true rfl) ⟨_, rfl⟩ hyp (fun y2 h1 hq => ?_)
  obtain ⟨m1, rfl, hyp⟩ := hq
  obtain ⟨o3, hyp⟩ := hyp
  obtain ⟨ht, hf⟩ := hyp
  refine ex_if_ne 11 8 dX10_strike_5 (by decide) rfl o3 (fun c7 => ?_) (fun c7 => ?_)
  · have hyp := ht c7
    clear ht hf
    refine ex_aload_n 12 dX10_strike_11 rfl rfl ?_
    refine ex_dup 13 dX10_strike_12 rfl rfl ?_
    refine q_getI 10 2 16 dX10_strike_13 rfl fiX10_118 (Or.inl rfl) ⟨_, rfl⟩ ?_
    refine ex_iconst 17 dX10_strike_16 rfl ?_
    refine ex_isub 18 dX10_strike_17 rfl ?_
    refine q_putI 10 2 21 dX10_strike_18 rfl fiX10_118 ff10_2 rfl ⟨_, rfl⟩ (fun h1 e4 => ?_)
    obtain ⟨m5, eg6⟩ : ∃ z : MS, z = mI m1 0 2 ((m1 0 2) - 1) := ⟨_, rfl⟩
    have hyp := hyp m5 eg6
    obtain rfl : h1 = hM m5 := by rw [e4, eg6]; exact rfl
    clear e4
    refine ex_iload_n 22 dX10_strike_21 rfl rfl ?_
    refine q_istore_n [some (vr 0), some (vi x1), some (vi x1), none] 23 dX10_strike_22 rfl (Nat.le_of_ble_eq_true rfl) rfl rfl ?_
    exact hyp
  · have hyp := hf c7
    clear ht hf
    refine ex_bipush 10 dX10_strike_8 rfl ⟨by decide, by decide⟩ ?_
    exact ex_iret dX10_strike_10 (Or.inl rfl) ⟨_, rfl, _, rfl, hyp⟩
set_option maxRecDepth 4000 in
theorem uX10_strike_23 {P : Int → MS → Prop} (m0 : MS) (x1 : Int) (x2 : Int) (hyp : rng x2 ∧ rng (m0 0 2) ∧ (m0 0 2 ≤ x2 → (YYi mX10_strike 147 [some (vr 0), some (vi x1), some (vi 0), none] [] m0 P)) ∧ (x2 < m0 0 2 → (0 ≤ x2 + 1 ∧ x2 + 1 < 18 ∧ 0 ≤ x2 ∧ x2 < 18 ∧ ∀ m8 : MS, m8 = mI m0 2 (x2).toNat (m0 2 (x2 + 1).toNat) → (∀ m11 : MS, m11 = mI m8 3 (x2).toNat (m8 3 (x2 + 1).toNat) → (∀ m14 : MS, m14 = mI m11 4 (x2).toNat (m11 4 (x2 + 1).toNat) → (∀ m17 : MS, m17 = mI m14 5 (x2).toNat (m14 5 (x2 + 1).toNat) → (∀ m20 : MS, m20 = mI m17 7 (x2).toNat (m17 7 (x2 + 1).toNat) → (YYi mX10_strike 103 [some (vr 0), some (vi x1), some (vi x2), some (vi 0)] [] m20 P)))))))) : YYi mX10_strike 23 [some (vr 0), some (vi x1), some (vi x2), none] [] m0 P := by
  refine ex_iload_n 24 dX10_strike_23 rfl rfl ?_
  refine ex_aload_n 25 dX10_strike_24 rfl rfl ?_
  refine q_getI 10 2 28 dX10_strike_25 rfl fiX10_118 (Or.inl rfl) ⟨_, rfl⟩ ?_
  obtain ⟨o1, hyp⟩ := hyp
  obtain ⟨o2, hyp⟩ := hyp
  obtain ⟨ht, hf⟩ := hyp
  refine ex_icmp_ge 145 31 dX10_strike_28 (by decide) rfl o1 o2 (fun c22 => ?_) (fun c22 => ?_)
  · have hyp := ht c22
    clear ht hf
    refine ex_iconst 146 dX10_strike_145 rfl ?_
    refine q_istore_n [some (vr 0), some (vi x1), some (vi 0), none] 147 dX10_strike_146 rfl (Nat.le_of_ble_eq_true rfl) rfl rfl ?_
    exact hyp
  · have hyp := hf c22
    clear ht hf
    refine ex_aload_n 32 dX10_strike_31 rfl rfl ?_
    refine q_getR (a := 2) 10 3 35 dX10_strike_32 rfl fiX10_13 rfl ⟨_, rfl⟩ rfl ?_
    refine ex_iload_n 36 dX10_strike_35 rfl rfl ?_
    refine ex_aload_n 37 dX10_strike_36 rfl rfl ?_
    refine q_getR (a := 2) 10 3 40 dX10_strike_37 rfl fiX10_13 rfl ⟨_, rfl⟩ rfl ?_
    refine ex_iload_n 41 dX10_strike_40 rfl rfl ?_
    refine ex_iconst 42 dX10_strike_41 rfl ?_
    refine ex_iadd 43 dX10_strike_42 rfl ?_
    obtain ⟨o3, hyp⟩ := hyp
    obtain ⟨o4, hyp⟩ := hyp
    refine ex_iald 44 dX10_strike_43 rfl (ai_of (n := 18) rfl o3 o4 (by decide)) ?_
    obtain ⟨o5, hyp⟩ := hyp
    obtain ⟨o6, hyp⟩ := hyp
    refine ex_iast 45 dX10_strike_44 rfl (ai_of (n := 18) rfl o5 o6 (by decide)) (fun h1 e7 => ?_)
    obtain ⟨m8, eg9⟩ : ∃ z : MS, z = mI m0 2 (x2).toNat (m0 2 (x2 + 1).toNat) := ⟨_, rfl⟩
    have hyp := hyp m8 eg9
    obtain rfl : h1 = hM m8 := by rw [e7, eg9]; exact rfl
    clear e7
    refine ex_aload_n 46 dX10_strike_45 rfl rfl ?_
    refine q_getR (a := 3) 10 4 49 dX10_strike_46 rfl fiX10_16 rfl ⟨_, rfl⟩ rfl ?_
    refine ex_iload_n 50 dX10_strike_49 rfl rfl ?_
    refine ex_aload_n 51 dX10_strike_50 rfl rfl ?_
    refine q_getR (a := 3) 10 4 54 dX10_strike_51 rfl fiX10_16 rfl ⟨_, rfl⟩ rfl ?_
    refine ex_iload_n 55 dX10_strike_54 rfl rfl ?_
    refine ex_iconst 56 dX10_strike_55 rfl ?_
    refine ex_iadd 57 dX10_strike_56 rfl ?_
    refine ex_iald 58 dX10_strike_57 rfl (ai_of (n := 18) rfl o3 o4 (by decide)) ?_
    refine ex_iast 59 dX10_strike_58 rfl (ai_of (n := 18) rfl o5 o6 (by decide)) (fun h1 e10 => ?_)
    obtain ⟨m11, eg12⟩ : ∃ z : MS, z = mI m8 3 (x2).toNat (m8 3 (x2 + 1).toNat) := ⟨_, rfl⟩
    have hyp := hyp m11 eg12
    obtain rfl : h1 = hM m11 := by rw [e10, eg12]; exact rfl
    clear e10
    refine ex_aload_n 60 dX10_strike_59 rfl rfl ?_
    refine q_getR (a := 4) 10 5 63 dX10_strike_60 rfl fiX10_19 rfl ⟨_, rfl⟩ rfl ?_
    refine ex_iload_n 64 dX10_strike_63 rfl rfl ?_
    refine ex_aload_n 65 dX10_strike_64 rfl rfl ?_
    refine q_getR (a := 4) 10 5 68 dX10_strike_65 rfl fiX10_19 rfl ⟨_, rfl⟩ rfl ?_
    refine ex_iload_n 69 dX10_strike_68 rfl rfl ?_
    refine ex_iconst 70 dX10_strike_69 rfl ?_
    refine ex_iadd 71 dX10_strike_70 rfl ?_
    refine ex_iald 72 dX10_strike_71 rfl (ai_of (n := 18) rfl o3 o4 (by decide)) ?_
    refine ex_iast 73 dX10_strike_72 rfl (ai_of (n := 18) rfl o5 o6 (by decide)) (fun h1 e13 => ?_)
    obtain ⟨m14, eg15⟩ : ∃ z : MS, z = mI m11 4 (x2).toNat (m11 4 (x2 + 1).toNat) := ⟨_, rfl⟩
    have hyp := hyp m14 eg15
    obtain rfl : h1 = hM m14 := by rw [e13, eg15]; exact rfl
    clear e13
    refine ex_aload_n 74 dX10_strike_73 rfl rfl ?_
    refine q_getR (a := 5) 10 6 77 dX10_strike_74 rfl fiX10_22 rfl ⟨_, rfl⟩ rfl ?_
    refine ex_iload_n 78 dX10_strike_77 rfl rfl ?_
    refine ex_aload_n 79 dX10_strike_78 rfl rfl ?_
    refine q_getR (a := 5) 10 6 82 dX10_strike_79 rfl fiX10_22 rfl ⟨_, rfl⟩ rfl ?_
    refine ex_iload_n 83 dX10_strike_82 rfl rfl ?_
    refine ex_iconst 84 dX10_strike_83 rfl ?_
    refine ex_iadd 85 dX10_strike_84 rfl ?_
    refine ex_iald 86 dX10_strike_85 rfl (ai_of (n := 18) rfl o3 o4 (by decide)) ?_
    refine ex_iast 87 dX10_strike_86 rfl (ai_of (n := 18) rfl o5 o6 (by decide)) (fun h1 e16 => ?_)
    obtain ⟨m17, eg18⟩ : ∃ z : MS, z = mI m14 5 (x2).toNat (m14 5 (x2 + 1).toNat) := ⟨_, rfl⟩
    have hyp := hyp m17 eg18
    obtain rfl : h1 = hM m17 := by rw [e16, eg18]; exact rfl
    clear e16
    refine ex_aload_n 88 dX10_strike_87 rfl rfl ?_
    refine q_getR (a := 7) 10 8 91 dX10_strike_88 rfl fiX10_28 rfl ⟨_, rfl⟩ rfl ?_
    refine ex_iload_n 92 dX10_strike_91 rfl rfl ?_
    refine ex_aload_n 93 dX10_strike_92 rfl rfl ?_
    refine q_getR (a := 7) 10 8 96 dX10_strike_93 rfl fiX10_28 rfl ⟨_, rfl⟩ rfl ?_
    refine ex_iload_n 97 dX10_strike_96 rfl rfl ?_
    refine ex_iconst 98 dX10_strike_97 rfl ?_
    refine ex_iadd 99 dX10_strike_98 rfl ?_
    refine ex_iald 100 dX10_strike_99 rfl (ai_of (n := 18) rfl o3 o4 (by decide)) ?_
    refine ex_iast 101 dX10_strike_100 rfl (ai_of (n := 18) rfl o5 o6 (by decide)) (fun h1 e19 => ?_)
    obtain ⟨m20, eg21⟩ : ∃ z : MS, z = mI m17 7 (x2).toNat (m17 7 (x2 + 1).toNat) := ⟨_, rfl⟩
    have hyp := hyp m20 eg21
    obtain rfl : h1 = hM m20 := by rw [e19, eg21]; exact rfl
    clear e19
    refine ex_iconst 102 dX10_strike_101 rfl ?_
    refine q_istore_n [some (vr 0), some (vi x1), some (vi x2), some (vi 0)] 103 dX10_strike_102 rfl (Nat.le_of_ble_eq_true rfl) rfl rfl ?_
    exact hyp
set_option maxRecDepth 4000 in
theorem uX10_strike_103 {P : Int → MS → Prop} (m0 : MS) (x1 : Int) (x2 : Int) (x3 : Int) (hyp : rng x3 ∧ (8 ≤ x3 → (YYi mX10_strike 23 [some (vr 0), some (vi x1), some (vi (x2 + 1)), none] [] m0 P)) ∧ (x3 < 8 → (0 ≤ (8 * (x2 + 1)) + x3 ∧ (8 * (x2 + 1)) + x3 < 144 ∧ 0 ≤ (8 * x2) + x3 ∧ (8 * x2) + x3 < 144 ∧ ∀ m7 : MS, m7 = mI m0 6 ((8 * x2) + x3).toNat (m0 6 ((8 * (x2 + 1)) + x3).toNat) → (YYi mX10_strike 103 [some (vr 0), some (vi x1), some (vi x2), some (vi (x3 + 1))] [] m7 P)))) : YYi mX10_strike 103 [some (vr 0), some (vi x1), some (vi x2), some (vi x3)] [] m0 P := by
  refine ex_iload_n 104 dX10_strike_103 rfl rfl ?_
  refine ex_bipush 106 dX10_strike_104 rfl ⟨by decide, by decide⟩ ?_
  obtain ⟨o1, hyp⟩ := hyp
  obtain ⟨ht, hf⟩ := hyp
  refine ex_icmp_ge 139 109 dX10_strike_106 (by decide) rfl o1 ⟨by decide, by decide⟩ (fun c9 => ?_) (fun c9 => ?_)
  · have hyp := ht c9
    clear ht hf
    refine q_iinc [some (vr 0), some (vi x1), some (vi (x2 + 1)), some (vi x3)] 142 dX10_strike_139 rfl rfl (Nat.le_of_ble_eq_true rfl) rfl rfl ?_
    refine ex_goto 23 dX10_strike_142 (by decide) ?_
    refine ex_dropL (ls' := [some (vr 0), some (vi x1), some (vi (x2 + 1)), none]) 3 rfl ?_
    exact hyp
  · have hyp := hf c9
    clear ht hf
    refine ex_aload_n 110 dX10_strike_109 rfl rfl ?_
    refine q_getR (a := 6) 10 7 113 dX10_strike_110 rfl fiX10_25 rfl ⟨_, rfl⟩ rfl ?_
    refine ex_bipush 115 dX10_strike_113 rfl ⟨by decide, by decide⟩ ?_
    refine ex_iload_n 116 dX10_strike_115 rfl rfl ?_
    refine ex_imul 117 dX10_strike_116 rfl ?_
    refine ex_iload_n 118 dX10_strike_117 rfl rfl ?_
    refine ex_iadd 119 dX10_strike_118 rfl ?_
    refine ex_aload_n 120 dX10_strike_119 rfl rfl ?_
    refine q_getR (a := 6) 10 7 123 dX10_strike_120 rfl fiX10_25 rfl ⟨_, rfl⟩ rfl ?_
    refine ex_bipush 125 dX10_strike_123 rfl ⟨by decide, by decide⟩ ?_
    refine ex_iload_n 126 dX10_strike_125 rfl rfl ?_
    refine ex_iconst 127 dX10_strike_126 rfl ?_
    refine ex_iadd 128 dX10_strike_127 rfl ?_
    refine ex_imul 129 dX10_strike_128 rfl ?_
    refine ex_iload_n 130 dX10_strike_129 rfl rfl ?_
    refine ex_iadd 131 dX10_strike_130 rfl ?_
    obtain ⟨o2, hyp⟩ := hyp
    obtain ⟨o3, hyp⟩ := hyp
    refine ex_iald 132 dX10_strike_131 rfl (ai_of (n := 144) rfl o2 o3 (by decide)) ?_
    obtain ⟨o4, hyp⟩ := hyp
    obtain ⟨o5, hyp⟩ := hyp
    refine ex_iast 133 dX10_strike_132 rfl (ai_of (n := 144) rfl o4 o5 (by decide)) (fun h1 e6 => ?_)
    obtain ⟨m7, eg8⟩ : ∃ z : MS, z = mI m0 6 ((8 * x2) + x3).toNat (m0 6 ((8 * (x2 + 1)) + x3).toNat) := ⟨_, rfl⟩
    have hyp := hyp m7 eg8
    obtain rfl : h1 = hM m7 := by rw [e6, eg8]; exact rfl
    clear e6
    refine q_iinc [some (vr 0), some (vi x1), some (vi x2), some (vi (x3 + 1))] 136 dX10_strike_133 rfl rfl (Nat.le_of_ble_eq_true rfl) rfl rfl ?_
    refine ex_goto 103 dX10_strike_136 (by decide) ?_
    exact hyp
set_option maxRecDepth 4000 in
theorem uX10_strike_147 {P : Int → MS → Prop} (m0 : MS) (x1 : Int) (x2 : Int) (hyp : rng x2 ∧ rng (m0 0 2) ∧ (m0 0 2 ≤ x2 → (∀ m4 : MS, m4 = mI m0 0 11 ((m0 0 11) + 1) → (P (m4 0 2) m4))) ∧ (x2 < m0 0 2 → (0 ≤ x2 ∧ x2 < 18 ∧ MMi mX10_without [vi (m0 7 (x2).toNat), vi x1] m0 (fun y9 m8 => ∀ m11 : MS, m11 = mI m8 7 (x2).toNat y9 → (YYi mX10_strike 147 [some (vr 0), some (vi x1), some (vi (x2 + 1)), none] [] m11 P))))) : YYi mX10_strike 147 [some (vr 0), some (vi x1), some (vi x2), none] [] m0 P := by
  refine ex_iload_n 148 dX10_strike_147 rfl rfl ?_
  refine ex_aload_n 149 dX10_strike_148 rfl rfl ?_
  refine q_getI 10 2 152 dX10_strike_149 rfl fiX10_118 (Or.inl rfl) ⟨_, rfl⟩ ?_
  obtain ⟨o1, hyp⟩ := hyp
  obtain ⟨o2, hyp⟩ := hyp
  obtain ⟨ht, hf⟩ := hyp
  refine ex_icmp_ge 177 155 dX10_strike_152 (by decide) rfl o1 o2 (fun c13 => ?_) (fun c13 => ?_)
  · have hyp := ht c13
    clear ht hf
    refine ex_aload_n 178 dX10_strike_177 rfl rfl ?_
    refine ex_dup 179 dX10_strike_178 rfl rfl ?_
    refine q_getI 10 11 182 dX10_strike_179 rfl fiX10_288 (Or.inl rfl) ⟨_, rfl⟩ ?_
    refine ex_iconst 183 dX10_strike_182 rfl ?_
    refine ex_iadd 184 dX10_strike_183 rfl ?_
    refine q_putI 10 11 187 dX10_strike_184 rfl fiX10_288 ff10_11 rfl ⟨_, rfl⟩ (fun h1 e3 => ?_)
    obtain ⟨m4, eg5⟩ : ∃ z : MS, z = mI m0 0 11 ((m0 0 11) + 1) := ⟨_, rfl⟩
    have hyp := hyp m4 eg5
    obtain rfl : h1 = hM m4 := by rw [e3, eg5]; exact rfl
    clear e3
    refine ex_aload_n 188 dX10_strike_187 rfl rfl ?_
    refine q_getI 10 2 191 dX10_strike_188 rfl fiX10_118 (Or.inl rfl) ⟨_, rfl⟩ ?_
    exact ex_iret dX10_strike_191 (Or.inl rfl) ⟨_, rfl, _, rfl, hyp⟩
  · have hyp := hf c13
    clear ht hf
    refine ex_aload_n 156 dX10_strike_155 rfl rfl ?_
    refine q_getR (a := 7) 10 8 159 dX10_strike_156 rfl fiX10_28 rfl ⟨_, rfl⟩ rfl ?_
    refine ex_iload_n 160 dX10_strike_159 rfl rfl ?_
    refine ex_aload_n 161 dX10_strike_160 rfl rfl ?_
    refine q_getR (a := 7) 10 8 164 dX10_strike_161 rfl fiX10_28 rfl ⟨_, rfl⟩ rfl ?_
    refine ex_iload_n 165 dX10_strike_164 rfl rfl ?_
    obtain ⟨o6, hyp⟩ := hyp
    obtain ⟨o7, hyp⟩ := hyp
    refine ex_iald 166 dX10_strike_165 rfl (ai_of (n := 18) rfl o6 o7 (by decide)) ?_
    refine ex_iload_n 167 dX10_strike_166 rfl rfl ?_
    refine s_callSi [vi (m0 7 (x2).toNat), vi x1] 170 dX10_strike_167 rfl cvX10_285 rfl rfl ⟨Nat.le_of_ble_eq_true rfl, Nat.le_of_ble_eq_true rfl⟩ (Nat.le_of_ble_eq_true rfl) hyp (fun y9 h1 hq => ?_)
    obtain ⟨m8, rfl, hyp⟩ := hq
    refine ex_iast 171 dX10_strike_170 rfl (ai_of (n := 18) rfl o6 o7 (by decide)) (fun h1 e10 => ?_)
    obtain ⟨m11, eg12⟩ : ∃ z : MS, z = mI m8 7 (x2).toNat y9 := ⟨_, rfl⟩
    have hyp := hyp m11 eg12
    obtain rfl : h1 = hM m11 := by rw [e10, eg12]; exact rfl
    clear e10
    refine q_iinc [some (vr 0), some (vi x1), some (vi (x2 + 1)), none] 174 dX10_strike_171 rfl rfl (Nat.le_of_ble_eq_true rfl) rfl rfl ?_
    refine ex_goto 147 dX10_strike_174 (by decide) ?_
    exact hyp
set_option maxRecDepth 4000 in
theorem uX10_isAge {P : Int → MS → Prop} (m0 : MS) (x1 : Int) (x2 : Int) (hyp : rng x2 ∧ (x2 = (-1) → (P 1 m0)) ∧ (¬ x2 = (-1) → (rng x1 ∧ (¬ x1 = 1 → ((¬ x1 = 2 → (P 0 m0)) ∧ (x1 = 2 → (MMi mX10_within [vi x2, vi 0, vi 99] m0 (fun y4 m3 => rng y4 ∧ (y4 = 0 → (P 0 m3)) ∧ (¬ y4 = 0 → (P 1 m3))))))) ∧ (x1 = 1 → (MMi mX10_within [vi x2, vi 14, vi 99] m0 (fun y9 m8 => rng y9 ∧ (¬ y9 = 0 → (P 1 m8)) ∧ (y9 = 0 → ((¬ x1 = 2 → (P 0 m8)) ∧ (x1 = 2 → (MMi mX10_within [vi x2, vi 0, vi 99] m8 (fun y12 m11 => rng y12 ∧ (y12 = 0 → (P 0 m11)) ∧ (¬ y12 = 0 → (P 1 m11))))))))))))) : MMi mX10_isAge [vr 0, vi x1, vi x2] m0 P := by
  refine met_of_ex (by decide +kernel) (Nat.le_of_ble_eq_true rfl) ?_
  show EX mX10_isAge 0 [some (vr 0), some (vi x1), some (vi x2)] [] (hM m0) (0, 0) _
  refine ex_iload_n 1 dX10_isAge_0 rfl rfl ?_
  refine ex_iconst 2 dX10_isAge_1 rfl ?_
  obtain ⟨o1, hyp⟩ := hyp
  obtain ⟨ht, hf⟩ := hyp
  refine ex_icmp_eq 36 5 dX10_isAge_2 (by decide) rfl o1 ⟨by decide, by decide⟩ (fun c18 => ?_) (fun c18 => ?_)
  · have hyp := ht c18
    clear ht hf
    refine ex_iconst 37 dX10_isAge_36 rfl ?_
    refine ex_goto 41 dX10_isAge_37 (by decide) ?_
    exact ex_iret dX10_isAge_41 (Or.inr ⟨rfl, Or.inr rfl⟩) ⟨_, rfl, _, rfl, hyp⟩
  · have hyp := hf c18
    clear ht hf
    refine ex_iload_n 6 dX10_isAge_5 rfl rfl ?_
    refine ex_iconst 7 dX10_isAge_6 rfl ?_
    obtain ⟨o2, hyp⟩ := hyp
    obtain ⟨ht, hf⟩ := hyp
    refine ex_icmp_ne 21 10 dX10_isAge_7 (by decide) rfl o2 ⟨by decide, by decide⟩ (fun c17 => ?_) (fun c17 => ?_)
    · have hyp := ht c17
      clear ht hf
      refine ex_iload_n 22 dX10_isAge_21 rfl rfl ?_
      refine ex_iconst 23 dX10_isAge_22 rfl ?_
      obtain ⟨ht, hf⟩ := hyp
      refine ex_icmp_ne 40 26 dX10_isAge_23 (by decide) rfl o2 ⟨by decide, by decide⟩ (fun c7 => ?_) (fun c7 => ?_)
      · have hyp := ht c7
        clear ht hf
        refine ex_iconst 41 dX10_isAge_40 rfl ?_
        exact ex_iret dX10_isAge_41 (Or.inr ⟨rfl, Or.inl rfl⟩) ⟨_, rfl, _, rfl, hyp⟩
      · have hyp := hf c7
        clear ht hf
        refine ex_iload_n 27 dX10_isAge_26 rfl rfl ?_
        refine ex_iconst 28 dX10_isAge_27 rfl ?_
        refine ex_bipush 30 dX10_isAge_28 rfl ⟨by decide, by decide⟩ ?_
        refine s_callSi [vi x2, vi 0, vi 99] 33 dX10_isAge_30 rfl cvX10_76 rfl rfl ⟨Nat.le_of_ble_eq_true rfl, Nat.le_of_ble_eq_true rfl⟩ (Nat.le_of_ble_eq_true rfl) hyp (fun y4 h1 hq => ?_)
        obtain ⟨m3, rfl, hyp⟩ := hq
        obtain ⟨o5, hyp⟩ := hyp
        obtain ⟨ht, hf⟩ := hyp
        refine ex_if_eq 40 36 dX10_isAge_33 (by decide) rfl o5 (fun c6 => ?_) (fun c6 => ?_)
        · have hyp := ht c6
          clear ht hf
          refine ex_iconst 41 dX10_isAge_40 rfl ?_
          exact ex_iret dX10_isAge_41 (Or.inr ⟨rfl, Or.inl rfl⟩) ⟨_, rfl, _, rfl, hyp⟩
        · have hyp := hf c6
          clear ht hf
          refine ex_iconst 37 dX10_isAge_36 rfl ?_
          refine ex_goto 41 dX10_isAge_37 (by decide) ?_
          exact ex_iret dX10_isAge_41 (Or.inr ⟨rfl, Or.inr rfl⟩) ⟨_, rfl, _, rfl, hyp⟩
    · have hyp := hf c17
      clear ht hf
      refine ex_iload_n 11 dX10_isAge_10 rfl rfl ?_
      refine ex_bipush 13 dX10_isAge_11 rfl ⟨by decide, by decide⟩ ?_
      refine ex_bipush 15 dX10_isAge_13 rfl ⟨by decide, by decide⟩ ?_
      refine s_callSi [vi x2, vi 14, vi 99] 18 dX10_isAge_15 rfl cvX10_76 rfl rfl ⟨Nat.le_of_ble_eq_true rfl, Nat.le_of_ble_eq_true rfl⟩ (Nat.le_of_ble_eq_true rfl) hyp (fun y9 h1 hq => ?_)
      obtain ⟨m8, rfl, hyp⟩ := hq
      obtain ⟨o10, hyp⟩ := hyp
      obtain ⟨ht, hf⟩ := hyp
      refine ex_if_ne 36 21 dX10_isAge_18 (by decide) rfl o10 (fun c16 => ?_) (fun c16 => ?_)
      · have hyp := ht c16
        clear ht hf
        refine ex_iconst 37 dX10_isAge_36 rfl ?_
        refine ex_goto 41 dX10_isAge_37 (by decide) ?_
        exact ex_iret dX10_isAge_41 (Or.inr ⟨rfl, Or.inr rfl⟩) ⟨_, rfl, _, rfl, hyp⟩
      · have hyp := hf c16
        clear ht hf
        refine ex_iload_n 22 dX10_isAge_21 rfl rfl ?_
        refine ex_iconst 23 dX10_isAge_22 rfl ?_
        obtain ⟨ht, hf⟩ := hyp
        refine ex_icmp_ne 40 26 dX10_isAge_23 (by decide) rfl o2 ⟨by decide, by decide⟩ (fun c15 => ?_) (fun c15 => ?_)
        · have hyp := ht c15
          clear ht hf
          refine ex_iconst 41 dX10_isAge_40 rfl ?_
          exact ex_iret dX10_isAge_41 (Or.inr ⟨rfl, Or.inl rfl⟩) ⟨_, rfl, _, rfl, hyp⟩
        · have hyp := hf c15
          clear ht hf
          refine ex_iload_n 27 dX10_isAge_26 rfl rfl ?_
          refine ex_iconst 28 dX10_isAge_27 rfl ?_
          refine ex_bipush 30 dX10_isAge_28 rfl ⟨by decide, by decide⟩ ?_
          refine s_callSi [vi x2, vi 0, vi 99] 33 dX10_isAge_30 rfl cvX10_76 rfl rfl ⟨Nat.le_of_ble_eq_true rfl, Nat.le_of_ble_eq_true rfl⟩ (Nat.le_of_ble_eq_true rfl) hyp (fun y12 h1 hq => ?_)
          obtain ⟨m11, rfl, hyp⟩ := hq
          obtain ⟨o13, hyp⟩ := hyp
          obtain ⟨ht, hf⟩ := hyp
          refine ex_if_eq 40 36 dX10_isAge_33 (by decide) rfl o13 (fun c14 => ?_) (fun c14 => ?_)
          · have hyp := ht c14
            clear ht hf
            refine ex_iconst 41 dX10_isAge_40 rfl ?_
            exact ex_iret dX10_isAge_41 (Or.inr ⟨rfl, Or.inl rfl⟩) ⟨_, rfl, _, rfl, hyp⟩
          · have hyp := hf c14
            clear ht hf
            refine ex_iconst 37 dX10_isAge_36 rfl ?_
            refine ex_goto 41 dX10_isAge_37 (by decide) ?_
            exact ex_iret dX10_isAge_41 (Or.inr ⟨rfl, Or.inr rfl⟩) ⟨_, rfl, _, rfl, hyp⟩
set_option maxRecDepth 4000 in
theorem uX10_age {P : Int → MS → Prop} (m0 : MS) (x1 : Int) (x2 : Int) (hyp : MMi mX10_isEntry [vr 0, vi x1] m0 (fun y2 m1 => rng y2 ∧ (¬ y2 = 0 → (0 ≤ x1 ∧ x1 < 18 ∧ MMi mX10_isAge [vr 0, vi (m1 2 (x1).toNat), vi x2] m1 (fun y7 m6 => rng y7 ∧ (¬ y7 = 0 → (∀ m10 : MS, m10 = mI m6 4 (x1).toNat x2 → (P (m6 4 (x1).toNat) m10))) ∧ (y7 = 0 → (P (-102) m6))))) ∧ (y2 = 0 → (P (-101) m1)))) : MMi mX10_age [vr 0, vi x1, vi x2] m0 P := by
  refine met_of_ex (by decide +kernel) (Nat.le_of_ble_eq_true rfl) ?_
  show EX mX10_age 0 [some (vr 0), some (vi x1), some (vi x2), none] [] (hM m0) (0, 0) _
  refine ex_aload_n 1 dX10_age_0 rfl rfl ?_
  refine ex_iload_n 2 dX10_age_1 rfl rfl ?_
  refine s_callVi [vi x1] 5 dX10_age_2 rfl cvX10_178 rfl rfl ⟨Nat.le_of_ble_eq_true rfl, Nat.le_of_ble_eq_true rfl⟩ (Nat.le_of_ble_eq_true rfl) ⟨_, rfl⟩ hyp (fun y2 h1 hq => ?_)
  obtain ⟨m1, rfl, hyp⟩ := hq
  obtain ⟨o3, hyp⟩ := hyp
  obtain ⟨ht, hf⟩ := hyp
  refine ex_if_ne 11 8 dX10_age_5 (by decide) rfl o3 (fun c13 => ?_) (fun c13 => ?_)
  · have hyp := ht c13
    clear ht hf
    refine ex_aload_n 12 dX10_age_11 rfl rfl ?_
    refine ex_aload_n 13 dX10_age_12 rfl rfl ?_
    refine q_getR (a := 2) 10 3 16 dX10_age_13 rfl fiX10_13 rfl ⟨_, rfl⟩ rfl ?_
    refine ex_iload_n 17 dX10_age_16 rfl rfl ?_
    obtain ⟨o4, hyp⟩ := hyp
    obtain ⟨o5, hyp⟩ := hyp
    refine ex_iald 18 dX10_age_17 rfl (ai_of (n := 18) rfl o4 o5 (by decide)) ?_
    refine ex_iload_n 19 dX10_age_18 rfl rfl ?_
    refine s_callVi [vi (m1 2 (x1).toNat), vi x2] 22 dX10_age_19 rfl cvX10_291 rfl rfl ⟨Nat.le_of_ble_eq_true rfl, Nat.le_of_ble_eq_true rfl⟩ (Nat.le_of_ble_eq_true rfl) ⟨_, rfl⟩ hyp (fun y7 h1 hq => ?_)
    obtain ⟨m6, rfl, hyp⟩ := hq
    obtain ⟨o8, hyp⟩ := hyp
    obtain ⟨ht, hf⟩ := hyp
    refine ex_if_ne 28 25 dX10_age_22 (by decide) rfl o8 (fun c12 => ?_) (fun c12 => ?_)
    · have hyp := ht c12
      clear ht hf
      refine ex_aload_n 29 dX10_age_28 rfl rfl ?_
      refine q_getR (a := 4) 10 5 32 dX10_age_29 rfl fiX10_19 rfl ⟨_, rfl⟩ rfl ?_
      refine ex_iload_n 33 dX10_age_32 rfl rfl ?_
      refine ex_iald 34 dX10_age_33 rfl (ai_of (n := 18) rfl o4 o5 (by decide)) ?_
      refine q_istore_n [some (vr 0), some (vi x1), some (vi x2), some (vi (m6 4 (x1).toNat))] 35 dX10_age_34 rfl (Nat.le_of_ble_eq_true rfl) rfl rfl ?_
      refine ex_aload_n 36 dX10_age_35 rfl rfl ?_
      refine q_getR (a := 4) 10 5 39 dX10_age_36 rfl fiX10_19 rfl ⟨_, rfl⟩ rfl ?_
      refine ex_iload_n 40 dX10_age_39 rfl rfl ?_
      refine ex_iload_n 41 dX10_age_40 rfl rfl ?_
      refine ex_iast 42 dX10_age_41 rfl (ai_of (n := 18) rfl o4 o5 (by decide)) (fun h1 e9 => ?_)
      obtain ⟨m10, eg11⟩ : ∃ z : MS, z = mI m6 4 (x1).toNat x2 := ⟨_, rfl⟩
      have hyp := hyp m10 eg11
      obtain rfl : h1 = hM m10 := by rw [e9, eg11]; exact rfl
      clear e9
      refine ex_iload_n 43 dX10_age_42 rfl rfl ?_
      exact ex_iret dX10_age_43 (Or.inl rfl) ⟨_, rfl, _, rfl, hyp⟩
    · have hyp := hf c12
      clear ht hf
      refine ex_bipush 27 dX10_age_25 rfl ⟨by decide, by decide⟩ ?_
      exact ex_iret dX10_age_27 (Or.inl rfl) ⟨_, rfl, _, rfl, hyp⟩
  · have hyp := hf c13
    clear ht hf
    refine ex_bipush 10 dX10_age_8 rfl ⟨by decide, by decide⟩ ?_
    exact ex_iret dX10_age_10 (Or.inl rfl) ⟨_, rfl, _, rfl, hyp⟩
set_option maxRecDepth 4000 in
theorem uX10_part {P : Int → MS → Prop} (m0 : MS) (x1 : Int) (x2 : Int) (hyp : MMi mX10_isEntry [vr 0, vi x1] m0 (fun y2 m1 => rng y2 ∧ (y2 = 0 → (P (-101) m1)) ∧ (¬ y2 = 0 → (MMi mX10_isEntry [vr 0, vi x2] m1 (fun y5 m4 => rng y5 ∧ (y5 = 0 → (P (-101) m4)) ∧ (¬ y5 = 0 → (rng x1 ∧ rng x2 ∧ (¬ x1 = x2 → (0 ≤ x1 ∧ x1 < 18 ∧ ∀ m12 : MS, m12 = mI m4 7 (x1).toNat (b_xor (m4 7 (x1).toNat) (b_shl 1 x2)) → (0 ≤ x2 ∧ x2 < 18 ∧ ∀ m17 : MS, m17 = mI m12 7 (x2).toNat (b_xor (m12 7 (x2).toNat) (b_shl 1 x1)) → (MMi mX10_isParted [vr 0, vi x1, vi x2] m17 (fun y20 m19 => rng y20 ∧ (y20 = 0 → (P 0 m19)) ∧ (¬ y20 = 0 → (P 1 m19))))))) ∧ (x1 = x2 → (P (-101) m4))))))))) : MMi mX10_part [vr 0, vi x1, vi x2] m0 P := by
  refine met_of_ex (by decide +kernel) (Nat.le_of_ble_eq_true rfl) ?_
  show EX mX10_part 0 [some (vr 0), some (vi x1), some (vi x2)] [] (hM m0) (0, 0) _
  refine ex_aload_n 1 dX10_part_0 rfl rfl ?_
  refine ex_iload_n 2 dX10_part_1 rfl rfl ?_
  refine s_callVi [vi x1] 5 dX10_part_2 rfl cvX10_178 rfl rfl ⟨Nat.le_of_ble_eq_true rfl, Nat.le_of_ble_eq_true rfl⟩ (Nat.le_of_ble_eq_true rfl) ⟨_, rfl⟩ hyp (fun y2 h1 hq => ?_)
  obtain ⟨m1, rfl, hyp⟩ := hq
  obtain ⟨o3, hyp⟩ := hyp
  obtain ⟨ht, hf⟩ := hyp
  refine ex_if_eq 21 8 dX10_part_5 (by decide) rfl o3 (fun c25 => ?_) (fun c25 => ?_)
  · have hyp := ht c25
    clear ht hf
    refine ex_bipush 23 dX10_part_21 rfl ⟨by decide, by decide⟩ ?_
    exact ex_iret dX10_part_23 (Or.inl rfl) ⟨_, rfl, _, rfl, hyp⟩
  · have hyp := hf c25
    clear ht hf
    refine ex_aload_n 9 dX10_part_8 rfl rfl ?_
    refine ex_iload_n 10 dX10_part_9 rfl rfl ?_
    refine s_callVi [vi x2] 13 dX10_part_10 rfl cvX10_178 rfl rfl ⟨Nat.le_of_ble_eq_true rfl, Nat.le_of_ble_eq_true rfl⟩ (Nat.le_of_ble_eq_true rfl) ⟨_, rfl⟩ hyp (fun y5 h1 hq => ?_)
    obtain ⟨m4, rfl, hyp⟩ := hq
    obtain ⟨o6, hyp⟩ := hyp
    obtain ⟨ht, hf⟩ := hyp
    refine ex_if_eq 21 16 dX10_part_13 (by decide) rfl o6 (fun c24 => ?_) (fun c24 => ?_)
    · have hyp := ht c24
      clear ht hf
      refine ex_bipush 23 dX10_part_21 rfl ⟨by decide, by decide⟩ ?_
      exact ex_iret dX10_part_23 (Or.inl rfl) ⟨_, rfl, _, rfl, hyp⟩
    · have hyp := hf c24
      clear ht hf
      refine ex_iload_n 17 dX10_part_16 rfl rfl ?_
      refine ex_iload_n 18 dX10_part_17 rfl rfl ?_
      obtain ⟨o7, hyp⟩ := hyp
      obtain ⟨o8, hyp⟩ := hyp
      obtain ⟨ht, hf⟩ := hyp
      refine ex_icmp_ne 24 21 dX10_part_18 (by decide) rfl o7 o8 (fun c23 => ?_) (fun c23 => ?_)
      · have hyp := ht c23
        clear ht hf
        refine ex_aload_n 25 dX10_part_24 rfl rfl ?_
        refine q_getR (a := 7) 10 8 28 dX10_part_25 rfl fiX10_28 rfl ⟨_, rfl⟩ rfl ?_
        refine ex_iload_n 29 dX10_part_28 rfl rfl ?_
        refine ex_dup2 30 dX10_part_29 rfl rfl rfl ?_
        obtain ⟨o9, hyp⟩ := hyp
        obtain ⟨o10, hyp⟩ := hyp
        refine ex_iald 31 dX10_part_30 rfl (ai_of (n := 18) rfl o9 o10 (by decide)) ?_
        refine ex_iconst 32 dX10_part_31 rfl ?_
        refine ex_iload_n 33 dX10_part_32 rfl rfl ?_
        refine ex_ishl 34 dX10_part_33 rfl ?_
        refine ex_ixor 35 dX10_part_34 rfl ?_
        refine ex_iast 36 dX10_part_35 rfl (ai_of (n := 18) rfl o9 o10 (by decide)) (fun h1 e11 => ?_)
        obtain ⟨m12, eg13⟩ : ∃ z : MS, z = mI m4 7 (x1).toNat (b_xor (m4 7 (x1).toNat) (b_shl 1 x2)) := ⟨_, rfl⟩
        have hyp := hyp m12 eg13
        obtain rfl : h1 = hM m12 := by rw [e11, eg13]; exact rfl
        clear e11
        refine ex_aload_n 37 dX10_part_36 rfl rfl ?_
        refine q_getR (a := 7) 10 8 40 dX10_part_37 rfl fiX10_28 rfl ⟨_, rfl⟩ rfl ?_
        refine ex_iload_n 41 dX10_part_40 rfl rfl ?_
        refine ex_dup2 42 dX10_part_41 rfl rfl rfl ?_
        obtain ⟨o14, hyp⟩ := hyp
        obtain ⟨o15, hyp⟩ := hyp
        refine ex_iald 43 dX10_part_42 rfl (ai_of (n := 18) rfl o14 o15 (by decide)) ?_
        refine ex_iconst 44 dX10_part_43 rfl ?_
        refine ex_iload_n 45 dX10_part_44 rfl rfl ?_
        refine ex_ishl 46 dX10_part_45 rfl ?_
        refine ex_ixor 47 dX10_part_46 rfl ?_
        refine ex_iast 48 dX10_part_47 rfl (ai_of (n := 18) rfl o14 o15 (by decide)) (fun h1 e16 => ?_)
        obtain ⟨m17, eg18⟩ : ∃ z : MS, z = mI m12 7 (x2).toNat (b_xor (m12 7 (x2).toNat) (b_shl 1 x1)) := ⟨_, rfl⟩
        have hyp := hyp m17 eg18
        obtain rfl : h1 = hM m17 := by rw [e16, eg18]; exact rfl
        clear e16
        refine ex_aload_n 49 dX10_part_48 rfl rfl ?_
        refine ex_iload_n 50 dX10_part_49 rfl rfl ?_
        refine ex_iload_n 51 dX10_part_50 rfl rfl ?_
        refine s_callVi [vi x1, vi x2] 54 dX10_part_51 rfl cvX10_157 rfl rfl ⟨Nat.le_of_ble_eq_true rfl, Nat.le_of_ble_eq_true rfl⟩ (Nat.le_of_ble_eq_true rfl) ⟨_, rfl⟩ hyp (fun y20 h1 hq => ?_)
        obtain ⟨m19, rfl, hyp⟩ := hq
        obtain ⟨o21, hyp⟩ := hyp
        obtain ⟨ht, hf⟩ := hyp
        refine ex_if_eq 61 57 dX10_part_54 (by decide) rfl o21 (fun c22 => ?_) (fun c22 => ?_)
        · have hyp := ht c22
          clear ht hf
          refine ex_iconst 62 dX10_part_61 rfl ?_
          exact ex_iret dX10_part_62 (Or.inl rfl) ⟨_, rfl, _, rfl, hyp⟩
        · have hyp := hf c22
          clear ht hf
          refine ex_iconst 58 dX10_part_57 rfl ?_
          refine ex_goto 62 dX10_part_58 (by decide) ?_
          exact ex_iret dX10_part_62 (Or.inl rfl) ⟨_, rfl, _, rfl, hyp⟩
      · have hyp := hf c23
        clear ht hf
        refine ex_bipush 23 dX10_part_21 rfl ⟨by decide, by decide⟩ ?_
        exact ex_iret dX10_part_23 (Or.inl rfl) ⟨_, rfl, _, rfl, hyp⟩
set_option maxRecDepth 4000 in
theorem uX10_bound {P : Int → MS → Prop} (m0 : MS) (x1 : Int) (x2 : Int) (hyp : rng x1 ∧ (¬ x1 = 0 → (YYi mX10_bound 15 [some (vr 0), some (vi x1), some (vi x2), none, none] [] m0 P)) ∧ (x1 = 0 → (MMi mX10_within [vi x2, vi 0, vi 1000] m0 (fun y3 m2 => rng y3 ∧ (¬ y3 = 0 → (0 ≤ x1 ∧ x1 < 3 ∧ ∀ m8 : MS, m8 = mI m2 8 (x1).toNat x2 → (P (m2 8 (x1).toNat) m8))) ∧ (y3 = 0 → (YYi mX10_bound 15 [some (vr 0), some (vi x1), some (vi x2), none, none] [] m2 P)))))) : MMi mX10_bound [vr 0, vi x1, vi x2] m0 P := by
  refine met_of_ex (by decide +kernel) (Nat.le_of_ble_eq_true rfl) ?_
  show EX mX10_bound 0 [some (vr 0), some (vi x1), some (vi x2), none, none] [] (hM m0) (0, 0) _
  refine ex_iload_n 1 dX10_bound_0 rfl rfl ?_
  obtain ⟨o1, hyp⟩ := hyp
  obtain ⟨ht, hf⟩ := hyp
  refine ex_if_ne 15 4 dX10_bound_1 (by decide) rfl o1 (fun c11 => ?_) (fun c11 => ?_)
  · have hyp := ht c11
    clear ht hf
    exact hyp
  · have hyp := hf c11
    clear ht hf
    refine ex_iload_n 5 dX10_bound_4 rfl rfl ?_
    refine ex_iconst 6 dX10_bound_5 rfl ?_
    refine ex_sipush 9 dX10_bound_6 rfl ⟨by decide, by decide⟩ ?_
    refine s_callSi [vi x2, vi 0, vi 1000] 12 dX10_bound_9 rfl cvX10_76 rfl rfl ⟨Nat.le_of_ble_eq_true rfl, Nat.le_of_ble_eq_true rfl⟩ (Nat.le_of_ble_eq_true rfl) hyp (fun y3 h1 hq => ?_)
    obtain ⟨m2, rfl, hyp⟩ := hq
    obtain ⟨o4, hyp⟩ := hyp
    obtain ⟨ht, hf⟩ := hyp
    refine ex_if_ne 45 15 dX10_bound_12 (by decide) rfl o4 (fun c10 => ?_) (fun c10 => ?_)
    · have hyp := ht c10
      clear ht hf
      refine ex_iconst 46 dX10_bound_45 rfl ?_
      refine ex_goto 50 dX10_bound_46 (by decide) ?_
      refine q_istore_n [some (vr 0), some (vi x1), some (vi x2), some (vi 1), none] 51 dX10_bound_50 rfl (Nat.le_of_ble_eq_true rfl) rfl rfl ?_
      refine ex_iload_n 52 dX10_bound_51 rfl rfl ?_
      refine ex_if_ne 58 55 dX10_bound_52 (by decide) rfl ⟨by decide, by decide⟩ (fun _ => ?_) (fun c => absurd c (by decide))
      refine ex_aload_n 59 dX10_bound_58 rfl rfl ?_
      refine q_getR (a := 8) 10 9 62 dX10_bound_59 rfl fiX10_31 rfl ⟨_, rfl⟩ rfl ?_
      refine ex_iload_n 63 dX10_bound_62 rfl rfl ?_
      obtain ⟨o5, hyp⟩ := hyp
      obtain ⟨o6, hyp⟩ := hyp
      refine ex_iald 64 dX10_bound_63 rfl (ai_of (n := 3) rfl o5 o6 (by decide)) ?_
      refine q_istore [some (vr 0), some (vi x1), some (vi x2), some (vi 1), some (vi (m2 8 (x1).toNat))] 66 dX10_bound_64 rfl (Nat.le_of_ble_eq_true rfl) rfl rfl ?_
      refine ex_aload_n 67 dX10_bound_66 rfl rfl ?_
      refine q_getR (a := 8) 10 9 70 dX10_bound_67 rfl fiX10_31 rfl ⟨_, rfl⟩ rfl ?_
      refine ex_iload_n 71 dX10_bound_70 rfl rfl ?_
      refine ex_iload_n 72 dX10_bound_71 rfl rfl ?_
      refine ex_iast 73 dX10_bound_72 rfl (ai_of (n := 3) rfl o5 o6 (by decide)) (fun h1 e7 => ?_)
      obtain ⟨m8, eg9⟩ : ∃ z : MS, z = mI m2 8 (x1).toNat x2 := ⟨_, rfl⟩
      have hyp := hyp m8 eg9
      obtain rfl : h1 = hM m8 := by rw [e7, eg9]; exact rfl
      clear e7
      refine ex_iload 75 dX10_bound_73 rfl rfl ?_
      exact ex_iret dX10_bound_75 (Or.inl rfl) ⟨_, rfl, _, rfl, hyp⟩
    · have hyp := hf c10
      clear ht hf
      exact hyp
set_option maxRecDepth 4000 in
theorem uX10_bound_15 {P : Int → MS → Prop} (m0 : MS) (x1 : Int) (x2 : Int) (hyp : rng x1 ∧ (¬ x1 = 1 → ((¬ x1 = 2 → (P (-102) m0)) ∧ (x1 = 2 → (MMi mX10_within [vi x2, vi 0, vi 500] m0 (fun y3 m2 => rng y3 ∧ (y3 = 0 → (P (-102) m2)) ∧ (¬ y3 = 0 → (0 ≤ x1 ∧ x1 < 3 ∧ ∀ m8 : MS, m8 = mI m2 8 (x1).toNat x2 → (P (m2 8 (x1).toNat) m8)))))))) ∧ (x1 = 1 → (MMi mX10_within [vi x2, vi 0, vi 5] m0 (fun y13 m12 => rng y13 ∧ (¬ y13 = 0 → (0 ≤ x1 ∧ x1 < 3 ∧ ∀ m18 : MS, m18 = mI m12 8 (x1).toNat x2 → (P (m12 8 (x1).toNat) m18))) ∧ (y13 = 0 → ((¬ x1 = 2 → (P (-102) m12)) ∧ (x1 = 2 → (MMi mX10_within [vi x2, vi 0, vi 500] m12 (fun y21 m20 => rng y21 ∧ (y21 = 0 → (P (-102) m20)) ∧ (¬ y21 = 0 → (0 ≤ x1 ∧ x1 < 3 ∧ ∀ m26 : MS, m26 = mI m20 8 (x1).toNat x2 → (P (m20 8 (x1).toNat) m26)))))))))))) : YYi mX10_bound 15 [some (vr 0), some (vi x1), some (vi x2), none, none] [] m0 P := by
  refine ex_iload_n 16 dX10_bound_15 rfl rfl ?_
  refine ex_iconst 17 dX10_bound_16 rfl ?_
  obtain ⟨o1, hyp⟩ := hyp
  obtain ⟨ht, hf⟩ := hyp
  refine ex_icmp_ne 29 20 dX10_bound_17 (by decide) rfl o1 ⟨by decide, by decide⟩ (fun c31 => ?_) (fun c31 => ?_)
  · have hyp := ht c31
    clear ht hf
    refine ex_iload_n 30 dX10_bound_29 rfl rfl ?_
    refine ex_iconst 31 dX10_bound_30 rfl ?_
    obtain ⟨ht, hf⟩ := hyp
    refine ex_icmp_ne 49 34 dX10_bound_31 (by decide) rfl o1 ⟨by decide, by decide⟩ (fun c11 => ?_) (fun c11 => ?_)
    · have hyp := ht c11
      clear ht hf
      refine ex_iconst 50 dX10_bound_49 rfl ?_
      refine q_istore_n [some (vr 0), some (vi x1), some (vi x2), some (vi 0), none] 51 dX10_bound_50 rfl (Nat.le_of_ble_eq_true rfl) rfl rfl ?_
      refine ex_iload_n 52 dX10_bound_51 rfl rfl ?_
      refine ex_if_ne 58 55 dX10_bound_52 (by decide) rfl ⟨by decide, by decide⟩ (fun c => absurd c (by decide)) (fun _ => ?_)
      refine ex_bipush 57 dX10_bound_55 rfl ⟨by decide, by decide⟩ ?_
      exact ex_iret dX10_bound_57 (Or.inl rfl) ⟨_, rfl, _, rfl, hyp⟩
    · have hyp := hf c11
      clear ht hf
      refine ex_iload_n 35 dX10_bound_34 rfl rfl ?_
      refine ex_iconst 36 dX10_bound_35 rfl ?_
      refine ex_sipush 39 dX10_bound_36 rfl ⟨by decide, by decide⟩ ?_
      refine s_callSi [vi x2, vi 0, vi 500] 42 dX10_bound_39 rfl cvX10_76 rfl rfl ⟨Nat.le_of_ble_eq_true rfl, Nat.le_of_ble_eq_true rfl⟩ (Nat.le_of_ble_eq_true rfl) hyp (fun y3 h1 hq => ?_)
      obtain ⟨m2, rfl, hyp⟩ := hq
      obtain ⟨o4, hyp⟩ := hyp
      obtain ⟨ht, hf⟩ := hyp
      refine ex_if_eq 49 45 dX10_bound_42 (by decide) rfl o4 (fun c10 => ?_) (fun c10 => ?_)
      · have hyp := ht c10
        clear ht hf
        refine ex_iconst 50 dX10_bound_49 rfl ?_
        refine q_istore_n [some (vr 0), some (vi x1), some (vi x2), some (vi 0), none] 51 dX10_bound_50 rfl (Nat.le_of_ble_eq_true rfl) rfl rfl ?_
        refine ex_iload_n 52 dX10_bound_51 rfl rfl ?_
        refine ex_if_ne 58 55 dX10_bound_52 (by decide) rfl ⟨by decide, by decide⟩ (fun c => absurd c (by decide)) (fun _ => ?_)
        refine ex_bipush 57 dX10_bound_55 rfl ⟨by decide, by decide⟩ ?_
        exact ex_iret dX10_bound_57 (Or.inl rfl) ⟨_, rfl, _, rfl, hyp⟩
      · have hyp := hf c10
        clear ht hf
        refine ex_iconst 46 dX10_bound_45 rfl ?_
        refine ex_goto 50 dX10_bound_46 (by decide) ?_
        refine q_istore_n [some (vr 0), some (vi x1), some (vi x2), some (vi 1), none] 51 dX10_bound_50 rfl (Nat.le_of_ble_eq_true rfl) rfl rfl ?_
        refine ex_iload_n 52 dX10_bound_51 rfl rfl ?_
        refine ex_if_ne 58 55 dX10_bound_52 (by decide) rfl ⟨by decide, by decide⟩ (fun _ => ?_) (fun c => absurd c (by decide))
        refine ex_aload_n 59 dX10_bound_58 rfl rfl ?_
        refine q_getR (a := 8) 10 9 62 dX10_bound_59 rfl fiX10_31 rfl ⟨_, rfl⟩ rfl ?_
        refine ex_iload_n 63 dX10_bound_62 rfl rfl ?_
        obtain ⟨o5, hyp⟩ := hyp
        obtain ⟨o6, hyp⟩ := hyp
        refine ex_iald 64 dX10_bound_63 rfl (ai_of (n := 3) rfl o5 o6 (by decide)) ?_
        refine q_istore [some (vr 0), some (vi x1), some (vi x2), some (vi 1), some (vi (m2 8 (x1).toNat))] 66 dX10_bound_64 rfl (Nat.le_of_ble_eq_true rfl) rfl rfl ?_
        refine ex_aload_n 67 dX10_bound_66 rfl rfl ?_
        refine q_getR (a := 8) 10 9 70 dX10_bound_67 rfl fiX10_31 rfl ⟨_, rfl⟩ rfl ?_
        refine ex_iload_n 71 dX10_bound_70 rfl rfl ?_
        refine ex_iload_n 72 dX10_bound_71 rfl rfl ?_
        refine ex_iast 73 dX10_bound_72 rfl (ai_of (n := 3) rfl o5 o6 (by decide)) (fun h1 e7 => ?_)
        obtain ⟨m8, eg9⟩ : ∃ z : MS, z = mI m2 8 (x1).toNat x2 := ⟨_, rfl⟩
        have hyp := hyp m8 eg9
        obtain rfl : h1 = hM m8 := by rw [e7, eg9]; exact rfl
        clear e7
        refine ex_iload 75 dX10_bound_73 rfl rfl ?_
        exact ex_iret dX10_bound_75 (Or.inl rfl) ⟨_, rfl, _, rfl, hyp⟩
  · have hyp := hf c31
    clear ht hf
    refine ex_iload_n 21 dX10_bound_20 rfl rfl ?_
    refine ex_iconst 22 dX10_bound_21 rfl ?_
    refine ex_iconst 23 dX10_bound_22 rfl ?_
    refine s_callSi [vi x2, vi 0, vi 5] 26 dX10_bound_23 rfl cvX10_76 rfl rfl ⟨Nat.le_of_ble_eq_true rfl, Nat.le_of_ble_eq_true rfl⟩ (Nat.le_of_ble_eq_true rfl) hyp (fun y13 h1 hq => ?_)
    obtain ⟨m12, rfl, hyp⟩ := hq
    obtain ⟨o14, hyp⟩ := hyp
    obtain ⟨ht, hf⟩ := hyp
    refine ex_if_ne 45 29 dX10_bound_26 (by decide) rfl o14 (fun c30 => ?_) (fun c30 => ?_)
    · have hyp := ht c30
      clear ht hf
      refine ex_iconst 46 dX10_bound_45 rfl ?_
      refine ex_goto 50 dX10_bound_46 (by decide) ?_
      refine q_istore_n [some (vr 0), some (vi x1), some (vi x2), some (vi 1), none] 51 dX10_bound_50 rfl (Nat.le_of_ble_eq_true rfl) rfl rfl ?_
      refine ex_iload_n 52 dX10_bound_51 rfl rfl ?_
      refine ex_if_ne 58 55 dX10_bound_52 (by decide) rfl ⟨by decide, by decide⟩ (fun _ => ?_) (fun c => absurd c (by decide))
      refine ex_aload_n 59 dX10_bound_58 rfl rfl ?_
      refine q_getR (a := 8) 10 9 62 dX10_bound_59 rfl fiX10_31 rfl ⟨_, rfl⟩ rfl ?_
      refine ex_iload_n 63 dX10_bound_62 rfl rfl ?_
      obtain ⟨o15, hyp⟩ := hyp
      obtain ⟨o16, hyp⟩ := hyp
      refine ex_iald 64 dX10_bound_63 rfl (ai_of (n := 3) rfl o15 o16 (by decide)) ?_
      refine q_istore [some (vr 0), some (vi x1), some (vi x2), some (vi 1), some (vi (m12 8 (x1).toNat))] 66 dX10_bound_64 rfl (Nat.le_of_ble_eq_true rfl) rfl rfl ?_
      refine ex_aload_n 67 dX10_bound_66 rfl rfl ?_
      refine q_getR (a := 8) 10 9 70 dX10_bound_67 rfl fiX10_31 rfl ⟨_, rfl⟩ rfl ?_
      refine ex_iload_n 71 dX10_bound_70 rfl rfl ?_
      refine ex_iload_n 72 dX10_bound_71 rfl rfl ?_
      refine ex_iast 73 dX10_bound_72 rfl (ai_of (n := 3) rfl o15 o16 (by decide)) (fun h1 e17 => ?_)
      obtain ⟨m18, eg19⟩ : ∃ z : MS, z = mI m12 8 (x1).toNat x2 := ⟨_, rfl⟩
      have hyp := hyp m18 eg19
      obtain rfl : h1 = hM m18 := by rw [e17, eg19]; exact rfl
      clear e17
      refine ex_iload 75 dX10_bound_73 rfl rfl ?_
      exact ex_iret dX10_bound_75 (Or.inl rfl) ⟨_, rfl, _, rfl, hyp⟩
    · have hyp := hf c30
      clear ht hf
      refine ex_iload_n 30 dX10_bound_29 rfl rfl ?_
      refine ex_iconst 31 dX10_bound_30 rfl ?_
      obtain ⟨ht, hf⟩ := hyp
      refine ex_icmp_ne 49 34 dX10_bound_31 (by decide) rfl o1 ⟨by decide, by decide⟩ (fun c29 => ?_) (fun c29 => ?_)
      · have hyp := ht c29
        clear ht hf
        refine ex_iconst 50 dX10_bound_49 rfl ?_
        refine q_istore_n [some (vr 0), some (vi x1), some (vi x2), some (vi 0), none] 51 dX10_bound_50 rfl (Nat.le_of_ble_eq_true rfl) rfl rfl ?_
        refine ex_iload_n 52 dX10_bound_51 rfl rfl ?_
        refine ex_if_ne 58 55 dX10_bound_52 (by decide) rfl ⟨by decide, by decide⟩ (fun c => absurd c (by decide)) (fun _ => ?_)
        refine ex_bipush 57 dX10_bound_55 rfl ⟨by decide, by decide⟩ ?_
        exact ex_iret dX10_bound_57 (Or.inl rfl) ⟨_, rfl, _, rfl, hyp⟩
      · have hyp := hf c29
        clear ht hf
        refine ex_iload_n 35 dX10_bound_34 rfl rfl ?_
        refine ex_iconst 36 dX10_bound_35 rfl ?_
        refine ex_sipush 39 dX10_bound_36 rfl ⟨by decide, by decide⟩ ?_
        refine s_callSi [vi x2, vi 0, vi 500] 42 dX10_bound_39 rfl cvX10_76 rfl rfl ⟨Nat.le_of_ble_eq_true rfl, Nat.le_of_ble_eq_true rfl⟩ (Nat.le_of_ble_eq_true rfl) hyp (fun y21 h1 hq => ?_)
        obtain ⟨m20, rfl, hyp⟩ := hq
        obtain ⟨o22, hyp⟩ := hyp
        obtain ⟨ht, hf⟩ := hyp
        refine ex_if_eq 49 45 dX10_bound_42 (by decide) rfl o22 (fun c28 => ?_) (fun c28 => ?_)
        · have hyp := ht c28
          clear ht hf
          refine ex_iconst 50 dX10_bound_49 rfl ?_
          refine q_istore_n [some (vr 0), some (vi x1), some (vi x2), some (vi 0), none] 51 dX10_bound_50 rfl (Nat.le_of_ble_eq_true rfl) rfl rfl ?_
          refine ex_iload_n 52 dX10_bound_51 rfl rfl ?_
          refine ex_if_ne 58 55 dX10_bound_52 (by decide) rfl ⟨by decide, by decide⟩ (fun c => absurd c (by decide)) (fun _ => ?_)
          refine ex_bipush 57 dX10_bound_55 rfl ⟨by decide, by decide⟩ ?_
          exact ex_iret dX10_bound_57 (Or.inl rfl) ⟨_, rfl, _, rfl, hyp⟩
        · have hyp := hf c28
          clear ht hf
          refine ex_iconst 46 dX10_bound_45 rfl ?_
          refine ex_goto 50 dX10_bound_46 (by decide) ?_
          refine q_istore_n [some (vr 0), some (vi x1), some (vi x2), some (vi 1), none] 51 dX10_bound_50 rfl (Nat.le_of_ble_eq_true rfl) rfl rfl ?_
          refine ex_iload_n 52 dX10_bound_51 rfl rfl ?_
          refine ex_if_ne 58 55 dX10_bound_52 (by decide) rfl ⟨by decide, by decide⟩ (fun _ => ?_) (fun c => absurd c (by decide))
          refine ex_aload_n 59 dX10_bound_58 rfl rfl ?_
          refine q_getR (a := 8) 10 9 62 dX10_bound_59 rfl fiX10_31 rfl ⟨_, rfl⟩ rfl ?_
          refine ex_iload_n 63 dX10_bound_62 rfl rfl ?_
          obtain ⟨o23, hyp⟩ := hyp
          obtain ⟨o24, hyp⟩ := hyp
          refine ex_iald 64 dX10_bound_63 rfl (ai_of (n := 3) rfl o23 o24 (by decide)) ?_
          refine q_istore [some (vr 0), some (vi x1), some (vi x2), some (vi 1), some (vi (m20 8 (x1).toNat))] 66 dX10_bound_64 rfl (Nat.le_of_ble_eq_true rfl) rfl rfl ?_
          refine ex_aload_n 67 dX10_bound_66 rfl rfl ?_
          refine q_getR (a := 8) 10 9 70 dX10_bound_67 rfl fiX10_31 rfl ⟨_, rfl⟩ rfl ?_
          refine ex_iload_n 71 dX10_bound_70 rfl rfl ?_
          refine ex_iload_n 72 dX10_bound_71 rfl rfl ?_
          refine ex_iast 73 dX10_bound_72 rfl (ai_of (n := 3) rfl o23 o24 (by decide)) (fun h1 e25 => ?_)
          obtain ⟨m26, eg27⟩ : ∃ z : MS, z = mI m20 8 (x1).toNat x2 := ⟨_, rfl⟩
          have hyp := hyp m26 eg27
          obtain rfl : h1 = hM m26 := by rw [e25, eg27]; exact rfl
          clear e25
          refine ex_iload 75 dX10_bound_73 rfl rfl ?_
          exact ex_iret dX10_bound_75 (Or.inl rfl) ⟨_, rfl, _, rfl, hyp⟩
set_option maxRecDepth 4000 in
theorem uX10_partedMany {P : Int → MS → Prop} (m0 : MS)  (hyp : YYi mX10_partedMany 4 [some (vr 0), some (vi 0), some (vi 0), none] [] m0 P) : MMi mX10_partedMany [vr 0] m0 P := by
  refine met_of_ex (by decide +kernel) (Nat.le_of_ble_eq_true rfl) ?_
  show EX mX10_partedMany 0 [some (vr 0), none, none, none] [] (hM m0) (0, 0) _
  refine ex_iconst 1 dX10_partedMany_0 rfl ?_
  refine q_istore_n [some (vr 0), some (vi 0), none, none] 2 dX10_partedMany_1 rfl (Nat.le_of_ble_eq_true rfl) rfl rfl ?_
  refine ex_iconst 3 dX10_partedMany_2 rfl ?_
  refine q_istore_n [some (vr 0), some (vi 0), some (vi 0), none] 4 dX10_partedMany_3 rfl (Nat.le_of_ble_eq_true rfl) rfl rfl ?_
  exact hyp
set_option maxRecDepth 4000 in
theorem uX10_partedMany_4 {P : Int → MS → Prop} (m0 : MS) (x1 : Int) (x2 : Int) (hyp : rng x2 ∧ rng (m0 0 2) ∧ (m0 0 2 ≤ x2 → (P x1 m0)) ∧ (x2 < m0 0 2 → (YYi mX10_partedMany 14 [some (vr 0), some (vi x1), some (vi x2), some (vi 0)] [] m0 P))) : YYi mX10_partedMany 4 [some (vr 0), some (vi x1), some (vi x2), none] [] m0 P := by
  refine ex_iload_n 5 dX10_partedMany_4 rfl rfl ?_
  refine ex_aload_n 6 dX10_partedMany_5 rfl rfl ?_
  refine q_getI 10 2 9 dX10_partedMany_6 rfl fiX10_118 (Or.inl rfl) ⟨_, rfl⟩ ?_
  obtain ⟨o1, hyp⟩ := hyp
  obtain ⟨o2, hyp⟩ := hyp
  obtain ⟨ht, hf⟩ := hyp
  refine ex_icmp_ge 48 12 dX10_partedMany_9 (by decide) rfl o1 o2 (fun c3 => ?_) (fun c3 => ?_)
  · have hyp := ht c3
    clear ht hf
    refine ex_iload_n 49 dX10_partedMany_48 rfl rfl ?_
    exact ex_iret dX10_partedMany_49 (Or.inl rfl) ⟨_, rfl, _, rfl, hyp⟩
  · have hyp := hf c3
    clear ht hf
    refine ex_iconst 13 dX10_partedMany_12 rfl ?_
    refine q_istore_n [some (vr 0), some (vi x1), some (vi x2), some (vi 0)] 14 dX10_partedMany_13 rfl (Nat.le_of_ble_eq_true rfl) rfl rfl ?_
    exact hyp
set_option maxRecDepth 4000 in
theorem uX10_partedMany_14 {P : Int → MS → Prop} (m0 : MS) (x1 : Int) (x2 : Int) (x3 : Int) (hyp : rng x3 ∧ rng x2 ∧ (x2 ≤ x3 → (YYi mX10_partedMany 4 [some (vr 0), some (vi x1), some (vi (x2 + 1)), none] [] m0 P)) ∧ (x3 < x2 → (MMi mX10_isParted [vr 0, vi x2, vi x3] m0 (fun y4 m3 => rng y4 ∧ (y4 = 0 → (YYi mX10_partedMany 14 [some (vr 0), some (vi (x1 + 0)), some (vi x2), some (vi (x3 + 1))] [] m3 P)) ∧ (¬ y4 = 0 → (YYi mX10_partedMany 14 [some (vr 0), some (vi (x1 + 1)), some (vi x2), some (vi (x3 + 1))] [] m3 P)))))) : YYi mX10_partedMany 14 [some (vr 0), some (vi x1), some (vi x2), some (vi x3)] [] m0 P := by
  refine ex_iload_n 15 dX10_partedMany_14 rfl rfl ?_
  refine ex_iload_n 16 dX10_partedMany_15 rfl rfl ?_
  obtain ⟨o1, hyp⟩ := hyp
  obtain ⟨o2, hyp⟩ := hyp
  obtain ⟨ht, hf⟩ := hyp
  refine ex_icmp_ge 42 19 dX10_partedMany_16 (by decide) rfl o1 o2 (fun c7 => ?_) (fun c7 => ?_)
  · have hyp := ht c7
    clear ht hf
    refine q_iinc [some (vr 0), some (vi x1), some (vi (x2 + 1)), some (vi x3)] 45 dX10_partedMany_42 rfl rfl (Nat.le_of_ble_eq_true rfl) rfl rfl ?_
    refine ex_goto 4 dX10_partedMany_45 (by decide) ?_
    refine ex_dropL (ls' := [some (vr 0), some (vi x1), some (vi (x2 + 1)), none]) 3 rfl ?_
    exact hyp
  · have hyp := hf c7
    clear ht hf
    refine ex_iload_n 20 dX10_partedMany_19 rfl rfl ?_
    refine ex_aload_n 21 dX10_partedMany_20 rfl rfl ?_
    refine ex_iload_n 22 dX10_partedMany_21 rfl rfl ?_
    refine ex_iload_n 23 dX10_partedMany_22 rfl rfl ?_
    refine s_callVi [vi x2, vi x3] 26 dX10_partedMany_23 rfl cvX10_157 rfl rfl ⟨Nat.le_of_ble_eq_true rfl, Nat.le_of_ble_eq_true rfl⟩ (Nat.le_of_ble_eq_true rfl) ⟨_, rfl⟩ hyp (fun y4 h1 hq => ?_)
    obtain ⟨m3, rfl, hyp⟩ := hq
    obtain ⟨o5, hyp⟩ := hyp
    obtain ⟨ht, hf⟩ := hyp
    refine ex_if_eq 33 29 dX10_partedMany_26 (by decide) rfl o5 (fun c6 => ?_) (fun c6 => ?_)
    · have hyp := ht c6
      clear ht hf
      refine ex_iconst 34 dX10_partedMany_33 rfl ?_
      refine ex_iadd 35 dX10_partedMany_34 rfl ?_
      refine q_istore_n [some (vr 0), some (vi (x1 + 0)), some (vi x2), some (vi x3)] 36 dX10_partedMany_35 rfl (Nat.le_of_ble_eq_true rfl) rfl rfl ?_
      refine q_iinc [some (vr 0), some (vi (x1 + 0)), some (vi x2), some (vi (x3 + 1))] 39 dX10_partedMany_36 rfl rfl (Nat.le_of_ble_eq_true rfl) rfl rfl ?_
      refine ex_goto 14 dX10_partedMany_39 (by decide) ?_
      exact hyp
    · have hyp := hf c6
      clear ht hf
      refine ex_iconst 30 dX10_partedMany_29 rfl ?_
      refine ex_goto 34 dX10_partedMany_30 (by decide) ?_
      refine ex_iadd 35 dX10_partedMany_34 rfl ?_
      refine q_istore_n [some (vr 0), some (vi (x1 + 1)), some (vi x2), some (vi x3)] 36 dX10_partedMany_35 rfl (Nat.le_of_ble_eq_true rfl) rfl rfl ?_
      refine q_iinc [some (vr 0), some (vi (x1 + 1)), some (vi x2), some (vi (x3 + 1))] 39 dX10_partedMany_36 rfl rfl (Nat.le_of_ble_eq_true rfl) rfl rfl ?_
      refine ex_goto 14 dX10_partedMany_39 (by decide) ?_
      exact hyp
set_option maxRecDepth 4000 in
theorem uX10_howMany {P : Int → MS → Prop} (m0 : MS) (x1 : Int) (hyp : rng x1 ∧ (x1 < 0 ∨ 7 < x1 → (P (-102) m0)) ∧ (x1 = 0 → (P (m0 0 2) m0)) ∧ (x1 = 1 → (MMi mX10_ofKind [vr 0, vi (x1 - 1)] m0 (fun y3 m2 => P y3 m2))) ∧ (x1 = 2 → (MMi mX10_ofKind [vr 0, vi (x1 - 1)] m0 (fun y5 m4 => P y5 m4))) ∧ (x1 = 3 → (MMi mX10_ofKind [vr 0, vi (x1 - 1)] m0 (fun y7 m6 => P y7 m6))) ∧ (x1 = 4 → (P (m0 0 0) m0)) ∧ (x1 = 5 → (P (m0 0 10) m0)) ∧ (x1 = 6 → (P (m0 0 11) m0)) ∧ (x1 = 7 → (MMi mX10_partedMany [vr 0] m0 (fun y9 m8 => P y9 m8)))) : MMi mX10_howMany [vr 0, vi x1] m0 P := by
  refine met_of_ex (by decide +kernel) (Nat.le_of_ble_eq_true rfl) ?_
  show EX mX10_howMany 0 [some (vr 0), some (vi x1)] [] (hM m0) (0, 0) _
  refine ex_iload_n 1 dX10_howMany_0 rfl rfl ?_
  obtain ⟨o1, hyp⟩ := hyp
  obtain ⟨hd, hv0, hv1, hv2, hv3, hv4, hv5, hv6, hv7⟩ := hyp
  rcases (show (x1 < 0 ∨ 7 < x1) ∨ x1 = 0 ∨ x1 = 1 ∨ x1 = 2 ∨ x1 = 3 ∨ x1 = 4 ∨ x1 = 5 ∨ x1 = 6 ∨ x1 = 7 by omega) with c | c | c | c | c | c | c | c | c
  · refine ex_tswOut 81 dX10_howMany_1 o1 c (by decide) ?_
    have hyp := hd c
    refine ex_bipush 83 dX10_howMany_81 rfl ⟨by decide, by decide⟩ ?_
    exact ex_iret dX10_howMany_83 (Or.inl rfl) ⟨_, rfl, _, rfl, hyp⟩
  · refine ex_tswIn 0 48 dX10_howMany_1 c ⟨by decide, by decide⟩ (by decide) (by decide) rfl (by decide) ?_
    have hyp := hv0 c
    refine ex_aload_n 49 dX10_howMany_48 rfl rfl ?_
    refine q_getI 10 2 52 dX10_howMany_49 rfl fiX10_118 (Or.inl rfl) ⟨_, rfl⟩ ?_
    exact ex_iret dX10_howMany_52 (Or.inl rfl) ⟨_, rfl, _, rfl, hyp⟩
  · refine ex_tswIn 1 53 dX10_howMany_1 c ⟨by decide, by decide⟩ (by decide) (by decide) rfl (by decide) ?_
    have hyp := hv1 c
    refine ex_aload_n 54 dX10_howMany_53 rfl rfl ?_
    refine ex_iload_n 55 dX10_howMany_54 rfl rfl ?_
    refine ex_iconst 56 dX10_howMany_55 rfl ?_
    refine ex_isub 57 dX10_howMany_56 rfl ?_
    refine s_callVi [vi (x1 - 1)] 60 dX10_howMany_57 rfl cvX10_121 rfl rfl ⟨Nat.le_of_ble_eq_true rfl, Nat.le_of_ble_eq_true rfl⟩ (Nat.le_of_ble_eq_true rfl) ⟨_, rfl⟩ hyp (fun y3 h1 hq => ?_)
    obtain ⟨m2, rfl, hyp⟩ := hq
    exact ex_iret dX10_howMany_60 (Or.inl rfl) ⟨_, rfl, _, rfl, hyp⟩
  · refine ex_tswIn 2 53 dX10_howMany_1 c ⟨by decide, by decide⟩ (by decide) (by decide) rfl (by decide) ?_
    have hyp := hv2 c
    refine ex_aload_n 54 dX10_howMany_53 rfl rfl ?_
    refine ex_iload_n 55 dX10_howMany_54 rfl rfl ?_
    refine ex_iconst 56 dX10_howMany_55 rfl ?_
    refine ex_isub 57 dX10_howMany_56 rfl ?_
    refine s_callVi [vi (x1 - 1)] 60 dX10_howMany_57 rfl cvX10_121 rfl rfl ⟨Nat.le_of_ble_eq_true rfl, Nat.le_of_ble_eq_true rfl⟩ (Nat.le_of_ble_eq_true rfl) ⟨_, rfl⟩ hyp (fun y5 h1 hq => ?_)
    obtain ⟨m4, rfl, hyp⟩ := hq
    exact ex_iret dX10_howMany_60 (Or.inl rfl) ⟨_, rfl, _, rfl, hyp⟩
  · refine ex_tswIn 3 53 dX10_howMany_1 c ⟨by decide, by decide⟩ (by decide) (by decide) rfl (by decide) ?_
    have hyp := hv3 c
    refine ex_aload_n 54 dX10_howMany_53 rfl rfl ?_
    refine ex_iload_n 55 dX10_howMany_54 rfl rfl ?_
    refine ex_iconst 56 dX10_howMany_55 rfl ?_
    refine ex_isub 57 dX10_howMany_56 rfl ?_
    refine s_callVi [vi (x1 - 1)] 60 dX10_howMany_57 rfl cvX10_121 rfl rfl ⟨Nat.le_of_ble_eq_true rfl, Nat.le_of_ble_eq_true rfl⟩ (Nat.le_of_ble_eq_true rfl) ⟨_, rfl⟩ hyp (fun y7 h1 hq => ?_)
    obtain ⟨m6, rfl, hyp⟩ := hq
    exact ex_iret dX10_howMany_60 (Or.inl rfl) ⟨_, rfl, _, rfl, hyp⟩
  · refine ex_tswIn 4 61 dX10_howMany_1 c ⟨by decide, by decide⟩ (by decide) (by decide) rfl (by decide) ?_
    have hyp := hv4 c
    refine ex_aload_n 62 dX10_howMany_61 rfl rfl ?_
    refine q_getI 10 0 65 dX10_howMany_62 rfl fiX10_80 (Or.inl rfl) ⟨_, rfl⟩ ?_
    exact ex_iret dX10_howMany_65 (Or.inl rfl) ⟨_, rfl, _, rfl, hyp⟩
  · refine ex_tswIn 5 66 dX10_howMany_1 c ⟨by decide, by decide⟩ (by decide) (by decide) rfl (by decide) ?_
    have hyp := hv5 c
    refine ex_aload_n 67 dX10_howMany_66 rfl rfl ?_
    refine q_getI 10 10 70 dX10_howMany_67 rfl fiX10_132 (Or.inl rfl) ⟨_, rfl⟩ ?_
    exact ex_iret dX10_howMany_70 (Or.inl rfl) ⟨_, rfl, _, rfl, hyp⟩
  · refine ex_tswIn 6 71 dX10_howMany_1 c ⟨by decide, by decide⟩ (by decide) (by decide) rfl (by decide) ?_
    have hyp := hv6 c
    refine ex_aload_n 72 dX10_howMany_71 rfl rfl ?_
    refine q_getI 10 11 75 dX10_howMany_72 rfl fiX10_288 (Or.inl rfl) ⟨_, rfl⟩ ?_
    exact ex_iret dX10_howMany_75 (Or.inl rfl) ⟨_, rfl, _, rfl, hyp⟩
  · refine ex_tswIn 7 76 dX10_howMany_1 c ⟨by decide, by decide⟩ (by decide) (by decide) rfl (by decide) ?_
    have hyp := hv7 c
    refine ex_aload_n 77 dX10_howMany_76 rfl rfl ?_
    refine s_callVi [] 80 dX10_howMany_77 rfl cvX10_294 rfl rfl ⟨Nat.le_of_ble_eq_true rfl, Nat.le_of_ble_eq_true rfl⟩ (Nat.le_of_ble_eq_true rfl) ⟨_, rfl⟩ hyp (fun y9 h1 hq => ?_)
    obtain ⟨m8, rfl, hyp⟩ := hq
    exact ex_iret dX10_howMany_80 (Or.inl rfl) ⟨_, rfl, _, rfl, hyp⟩
set_option maxRecDepth 4000 in
theorem uX10_count {P : Int → MS → Prop} (m0 : MS) (x1 : Int) (hyp : MMi mX10_howMany [vr 0, vi x1] m0 (fun y2 m1 => P y2 m1)) : MMi mX10_count [vr 0, vi x1] m0 P := by
  refine met_of_ex (by decide +kernel) (Nat.le_of_ble_eq_true rfl) ?_
  show EX mX10_count 0 [some (vr 0), some (vi x1)] [] (hM m0) (0, 0) _
  refine ex_aload_n 1 dX10_count_0 rfl rfl ?_
  refine ex_iload_n 2 dX10_count_1 rfl rfl ?_
  refine s_callVi [vi x1] 5 dX10_count_2 rfl cvX10_297 rfl rfl ⟨Nat.le_of_ble_eq_true rfl, Nat.le_of_ble_eq_true rfl⟩ (Nat.le_of_ble_eq_true rfl) ⟨_, rfl⟩ hyp (fun y2 h1 hq => ?_)
  obtain ⟨m1, rfl, hyp⟩ := hq
  exact ex_iret dX10_count_5 (Or.inl rfl) ⟨_, rfl, _, rfl, hyp⟩
set_option maxRecDepth 4000 in
theorem uX10_mix {P : MS → Prop} (m0 : MS) (x1 : Int) (hyp : ∀ m2 : MS, m2 = mI m0 0 33 ((31 * (m0 0 33)) + x1) → (P m2)) : MMv mX10_mix [vr 0, vl x1] m0 P := by
  refine met_of_ex (by decide +kernel) (Nat.le_of_ble_eq_true rfl) ?_
  show EX mX10_mix 0 [some (vr 0), some (vl x1), none] [] (hM m0) (0, 0) _
  refine ex_aload_n 1 dX10_mix_0 rfl rfl ?_
  refine ex_ldc2 (n := 31) 4 dX10_mix_1 rfl (wt6 38 rfl rfl) ?_
  refine ex_aload_n 5 dX10_mix_4 rfl rfl ?_
  refine q_getL 10 33 8 dX10_mix_5 rfl fiX10_302 rfl ⟨_, rfl⟩ ?_
  refine ex_lmul 9 dX10_mix_8 rfl ?_
  refine ex_lload_n 10 dX10_mix_9 rfl rfl ?_
  refine ex_ladd 11 dX10_mix_10 rfl ?_
  refine q_putL 10 33 14 dX10_mix_11 rfl fiX10_302 ff10_33 rfl ⟨_, rfl⟩ (fun h1 e1 => ?_)
  obtain ⟨m2, eg3⟩ : ∃ z : MS, z = mI m0 0 33 ((31 * (m0 0 33)) + x1) := ⟨_, rfl⟩
  have hyp := hyp m2 eg3
  obtain rfl : h1 = hM m2 := by rw [e1, eg3]; exact rfl
  clear e1
  exact ex_vret dX10_mix_14 rfl ⟨rfl, _, rfl, hyp⟩
set_option maxRecDepth 4000 in
theorem uX10_mixEntries {P : MS → Prop} (m0 : MS)  (hyp : MMv mX10_layLives [vr 0] m0 (fun m1 => YYv mX10_mixEntries 6 [some (vr 0), some (vi 0), none, none] [] m1 P)) : MMv mX10_mixEntries [vr 0] m0 P := by
  refine met_of_ex (by decide +kernel) (Nat.le_of_ble_eq_true rfl) ?_
  show EX mX10_mixEntries 0 [some (vr 0), none, none, none] [] (hM m0) (0, 0) _
  refine ex_aload_n 1 dX10_mixEntries_0 rfl rfl ?_
  refine s_callVv [] 4 dX10_mixEntries_1 rfl cvX10_250 rfl rfl ⟨Nat.le_of_ble_eq_true rfl, Nat.le_of_ble_eq_true rfl⟩ (Nat.le_of_ble_eq_true rfl) ⟨_, rfl⟩ hyp (fun h1 hq => ?_)
  obtain ⟨m1, rfl, hyp⟩ := hq
  refine ex_iconst 5 dX10_mixEntries_4 rfl ?_
  refine q_istore_n [some (vr 0), some (vi 0), none, none] 6 dX10_mixEntries_5 rfl (Nat.le_of_ble_eq_true rfl) rfl rfl ?_
  exact hyp
set_option maxRecDepth 4000 in
theorem uX10_mixEntries_6 {P : MS → Prop} (m0 : MS) (x1 : Int) (hyp : rng x1 ∧ rng (m0 0 2) ∧ (m0 0 2 ≤ x1 → (YYv mX10_mixEntries 101 [some (vr 0), some (vi 0), none, none] [] m0 P)) ∧ (x1 < m0 0 2 → (YYv mX10_mixEntries 16 [some (vr 0), some (vi x1), some (vi 0), none] [] m0 P))) : YYv mX10_mixEntries 6 [some (vr 0), some (vi x1), none, none] [] m0 P := by
  refine ex_iload_n 7 dX10_mixEntries_6 rfl rfl ?_
  refine ex_aload_n 8 dX10_mixEntries_7 rfl rfl ?_
  refine q_getI 10 2 11 dX10_mixEntries_8 rfl fiX10_118 (Or.inl rfl) ⟨_, rfl⟩ ?_
  obtain ⟨o1, hyp⟩ := hyp
  obtain ⟨o2, hyp⟩ := hyp
  obtain ⟨ht, hf⟩ := hyp
  refine ex_icmp_ge 99 14 dX10_mixEntries_11 (by decide) rfl o1 o2 (fun c3 => ?_) (fun c3 => ?_)
  · have hyp := ht c3
    clear ht hf
    refine ex_iconst 100 dX10_mixEntries_99 rfl ?_
    refine q_istore_n [some (vr 0), some (vi 0), none, none] 101 dX10_mixEntries_100 rfl (Nat.le_of_ble_eq_true rfl) rfl rfl ?_
    exact hyp
  · have hyp := hf c3
    clear ht hf
    refine ex_iconst 15 dX10_mixEntries_14 rfl ?_
    refine q_istore_n [some (vr 0), some (vi x1), some (vi 0), none] 16 dX10_mixEntries_15 rfl (Nat.le_of_ble_eq_true rfl) rfl rfl ?_
    exact hyp
set_option maxRecDepth 4000 in
theorem uX10_mixEntries_16 {P : MS → Prop} (m0 : MS) (x1 : Int) (x2 : Int) (hyp : rng x2 ∧ (8 ≤ x2 → (YYv mX10_mixEntries 41 [some (vr 0), some (vi x1), some (vi 0), none] [] m0 P)) ∧ (x2 < 8 → (MMi mX10_entryNow [vr 0, vi x1, vi x2] m0 (fun y3 m2 => rng y3 ∧ MMv mX10_mix [vr 0, vl y3] m2 (fun m5 => YYv mX10_mixEntries 16 [some (vr 0), some (vi x1), some (vi (x2 + 1)), none] [] m5 P))))) : YYv mX10_mixEntries 16 [some (vr 0), some (vi x1), some (vi x2), none] [] m0 P := by
  refine ex_iload_n 17 dX10_mixEntries_16 rfl rfl ?_
  refine ex_bipush 19 dX10_mixEntries_17 rfl ⟨by decide, by decide⟩ ?_
  obtain ⟨o1, hyp⟩ := hyp
  obtain ⟨ht, hf⟩ := hyp
  refine ex_icmp_ge 39 22 dX10_mixEntries_19 (by decide) rfl o1 ⟨by decide, by decide⟩ (fun c6 => ?_) (fun c6 => ?_)
  · have hyp := ht c6
    clear ht hf
    refine ex_iconst 40 dX10_mixEntries_39 rfl ?_
    refine q_istore_n [some (vr 0), some (vi x1), some (vi 0), none] 41 dX10_mixEntries_40 rfl (Nat.le_of_ble_eq_true rfl) rfl rfl ?_
    exact hyp
  · have hyp := hf c6
    clear ht hf
    refine ex_aload_n 23 dX10_mixEntries_22 rfl rfl ?_
    refine ex_aload_n 24 dX10_mixEntries_23 rfl rfl ?_
    refine ex_iload_n 25 dX10_mixEntries_24 rfl rfl ?_
    refine ex_iload_n 26 dX10_mixEntries_25 rfl rfl ?_
    refine s_callVi [vi x1, vi x2] 29 dX10_mixEntries_26 rfl cvX10_279 rfl rfl ⟨Nat.le_of_ble_eq_true rfl, Nat.le_of_ble_eq_true rfl⟩ (Nat.le_of_ble_eq_true rfl) ⟨_, rfl⟩ hyp (fun y3 h1 hq => ?_)
    obtain ⟨m2, rfl, hyp⟩ := hq
    obtain ⟨o4, hyp⟩ := hyp
    refine ex_i2l 30 dX10_mixEntries_29 rfl o4 ?_
    refine s_callVv [vl y3] 33 dX10_mixEntries_30 rfl cvX10_306 rfl rfl ⟨Nat.le_of_ble_eq_true rfl, Nat.le_of_ble_eq_true rfl⟩ (Nat.le_of_ble_eq_true rfl) ⟨_, rfl⟩ hyp (fun h1 hq => ?_)
    obtain ⟨m5, rfl, hyp⟩ := hq
    refine q_iinc [some (vr 0), some (vi x1), some (vi (x2 + 1)), none] 36 dX10_mixEntries_33 rfl rfl (Nat.le_of_ble_eq_true rfl) rfl rfl ?_
    refine ex_goto 16 dX10_mixEntries_36 (by decide) ?_
    exact hyp
set_option maxRecDepth 4000 in
theorem uX10_mixEntries_41 {P : MS → Prop} (m0 : MS) (x1 : Int) (x2 : Int) (hyp : 0 ≤ x1 ∧ x1 < 18 ∧ rng x2 ∧ rng (m0 5 (x1).toNat) ∧ (m0 5 (x1).toNat ≤ x2 → (MMi mX10_fitsNow [vr 0, vi x1] m0 (fun y6 m5 => rng y6 ∧ MMv mX10_mix [vr 0, vl y6] m5 (fun m8 => MMi mX10_nearestNow [vr 0, vi x1] m8 (fun y10 m9 => rng y10 ∧ MMv mX10_mix [vr 0, vl y10] m9 (fun m12 => YYv mX10_mixEntries 6 [some (vr 0), some (vi (x1 + 1)), none, none] [] m12 P)))))) ∧ (x2 < m0 5 (x1).toNat → (0 ≤ (8 * x1) + x2 ∧ (8 * x1) + x2 < 144 ∧ rng (m0 6 ((8 * x1) + x2).toNat) ∧ MMv mX10_mix [vr 0, vl (m0 6 ((8 * x1) + x2).toNat)] m0 (fun m16 => YYv mX10_mixEntries 41 [some (vr 0), some (vi x1), some (vi (x2 + 1)), none] [] m16 P)))) : YYv mX10_mixEntries 41 [some (vr 0), some (vi x1), some (vi x2), none] [] m0 P := by
  refine ex_iload_n 42 dX10_mixEntries_41 rfl rfl ?_
  refine ex_aload_n 43 dX10_mixEntries_42 rfl rfl ?_
  refine q_getR (a := 5) 10 6 46 dX10_mixEntries_43 rfl fiX10_22 rfl ⟨_, rfl⟩ rfl ?_
  refine ex_iload_n 47 dX10_mixEntries_46 rfl rfl ?_
  obtain ⟨o1, hyp⟩ := hyp
  obtain ⟨o2, hyp⟩ := hyp
  refine ex_iald 48 dX10_mixEntries_47 rfl (ai_of (n := 18) rfl o1 o2 (by decide)) ?_
  obtain ⟨o3, hyp⟩ := hyp
  obtain ⟨o4, hyp⟩ := hyp
  obtain ⟨ht, hf⟩ := hyp
  refine ex_icmp_ge 73 51 dX10_mixEntries_48 (by decide) rfl o3 o4 (fun c17 => ?_) (fun c17 => ?_)
  · have hyp := ht c17
    clear ht hf
    refine ex_aload_n 74 dX10_mixEntries_73 rfl rfl ?_
    refine ex_aload_n 75 dX10_mixEntries_74 rfl rfl ?_
    refine ex_iload_n 76 dX10_mixEntries_75 rfl rfl ?_
    refine s_callVi [vi x1] 79 dX10_mixEntries_76 rfl cvX10_185 rfl rfl ⟨Nat.le_of_ble_eq_true rfl, Nat.le_of_ble_eq_true rfl⟩ (Nat.le_of_ble_eq_true rfl) ⟨_, rfl⟩ hyp (fun y6 h1 hq => ?_)
    obtain ⟨m5, rfl, hyp⟩ := hq
    obtain ⟨o7, hyp⟩ := hyp
    refine ex_i2l 80 dX10_mixEntries_79 rfl o7 ?_
    refine s_callVv [vl y6] 83 dX10_mixEntries_80 rfl cvX10_306 rfl rfl ⟨Nat.le_of_ble_eq_true rfl, Nat.le_of_ble_eq_true rfl⟩ (Nat.le_of_ble_eq_true rfl) ⟨_, rfl⟩ hyp (fun h1 hq => ?_)
    obtain ⟨m8, rfl, hyp⟩ := hq
    refine ex_aload_n 84 dX10_mixEntries_83 rfl rfl ?_
    refine ex_aload_n 85 dX10_mixEntries_84 rfl rfl ?_
    refine ex_iload_n 86 dX10_mixEntries_85 rfl rfl ?_
    refine s_callVi [vi x1] 89 dX10_mixEntries_86 rfl cvX10_188 rfl rfl ⟨Nat.le_of_ble_eq_true rfl, Nat.le_of_ble_eq_true rfl⟩ (Nat.le_of_ble_eq_true rfl) ⟨_, rfl⟩ hyp (fun y10 h1 hq => ?_)
    obtain ⟨m9, rfl, hyp⟩ := hq
    obtain ⟨o11, hyp⟩ := hyp
    refine ex_i2l 90 dX10_mixEntries_89 rfl o11 ?_
    refine s_callVv [vl y10] 93 dX10_mixEntries_90 rfl cvX10_306 rfl rfl ⟨Nat.le_of_ble_eq_true rfl, Nat.le_of_ble_eq_true rfl⟩ (Nat.le_of_ble_eq_true rfl) ⟨_, rfl⟩ hyp (fun h1 hq => ?_)
    obtain ⟨m12, rfl, hyp⟩ := hq
    refine q_iinc [some (vr 0), some (vi (x1 + 1)), some (vi x2), none] 96 dX10_mixEntries_93 rfl rfl (Nat.le_of_ble_eq_true rfl) rfl rfl ?_
    refine ex_goto 6 dX10_mixEntries_96 (by decide) ?_
    refine ex_dropL (ls' := [some (vr 0), some (vi (x1 + 1)), none, none]) 2 rfl ?_
    exact hyp
  · have hyp := hf c17
    clear ht hf
    refine ex_aload_n 52 dX10_mixEntries_51 rfl rfl ?_
    refine ex_aload_n 53 dX10_mixEntries_52 rfl rfl ?_
    refine q_getR (a := 6) 10 7 56 dX10_mixEntries_53 rfl fiX10_25 rfl ⟨_, rfl⟩ rfl ?_
    refine ex_bipush 58 dX10_mixEntries_56 rfl ⟨by decide, by decide⟩ ?_
    refine ex_iload_n 59 dX10_mixEntries_58 rfl rfl ?_
    refine ex_imul 60 dX10_mixEntries_59 rfl ?_
    refine ex_iload_n 61 dX10_mixEntries_60 rfl rfl ?_
    refine ex_iadd 62 dX10_mixEntries_61 rfl ?_
    obtain ⟨o13, hyp⟩ := hyp
    obtain ⟨o14, hyp⟩ := hyp
    refine ex_iald 63 dX10_mixEntries_62 rfl (ai_of (n := 144) rfl o13 o14 (by decide)) ?_
    obtain ⟨o15, hyp⟩ := hyp
    refine ex_i2l 64 dX10_mixEntries_63 rfl o15 ?_
    refine s_callVv [vl (m0 6 ((8 * x1) + x2).toNat)] 67 dX10_mixEntries_64 rfl cvX10_306 rfl rfl ⟨Nat.le_of_ble_eq_true rfl, Nat.le_of_ble_eq_true rfl⟩ (Nat.le_of_ble_eq_true rfl) ⟨_, rfl⟩ hyp (fun h1 hq => ?_)
    obtain ⟨m16, rfl, hyp⟩ := hq
    refine q_iinc [some (vr 0), some (vi x1), some (vi (x2 + 1)), none] 70 dX10_mixEntries_67 rfl rfl (Nat.le_of_ble_eq_true rfl) rfl rfl ?_
    refine ex_goto 41 dX10_mixEntries_70 (by decide) ?_
    exact hyp
set_option maxRecDepth 4000 in
theorem uX10_mixEntries_101 {P : MS → Prop} (m0 : MS) (x1 : Int) (hyp : rng x1 ∧ rng (m0 0 2) ∧ (m0 0 2 ≤ x1 → (P m0)) ∧ (x1 < m0 0 2 → (YYv mX10_mixEntries 113 [some (vr 0), some (vi x1), some (vi (x1 + 1)), none] [] m0 P))) : YYv mX10_mixEntries 101 [some (vr 0), some (vi x1), none, none] [] m0 P := by
  refine ex_iload_n 102 dX10_mixEntries_101 rfl rfl ?_
  refine ex_aload_n 103 dX10_mixEntries_102 rfl rfl ?_
  refine q_getI 10 2 106 dX10_mixEntries_103 rfl fiX10_118 (Or.inl rfl) ⟨_, rfl⟩ ?_
  obtain ⟨o1, hyp⟩ := hyp
  obtain ⟨o2, hyp⟩ := hyp
  obtain ⟨ht, hf⟩ := hyp
  refine ex_icmp_ge 158 109 dX10_mixEntries_106 (by decide) rfl o1 o2 (fun c3 => ?_) (fun c3 => ?_)
  · have hyp := ht c3
    clear ht hf
    exact ex_vret dX10_mixEntries_158 rfl ⟨rfl, _, rfl, hyp⟩
  · have hyp := hf c3
    clear ht hf
    refine ex_iload_n 110 dX10_mixEntries_109 rfl rfl ?_
    refine ex_iconst 111 dX10_mixEntries_110 rfl ?_
    refine ex_iadd 112 dX10_mixEntries_111 rfl ?_
    refine q_istore_n [some (vr 0), some (vi x1), some (vi (x1 + 1)), none] 113 dX10_mixEntries_112 rfl (Nat.le_of_ble_eq_true rfl) rfl rfl ?_
    exact hyp
set_option maxRecDepth 4000 in
theorem uX10_mixEntries_113 {P : MS → Prop} (m0 : MS) (x1 : Int) (x2 : Int) (hyp : rng x2 ∧ rng (m0 0 2) ∧ (m0 0 2 ≤ x2 → (YYv mX10_mixEntries 101 [some (vr 0), some (vi (x1 + 1)), none, none] [] m0 P)) ∧ (x2 < m0 0 2 → (YYv mX10_mixEntries 123 [some (vr 0), some (vi x1), some (vi x2), some (vi 0)] [] m0 P))) : YYv mX10_mixEntries 113 [some (vr 0), some (vi x1), some (vi x2), none] [] m0 P := by
  refine ex_iload_n 114 dX10_mixEntries_113 rfl rfl ?_
  refine ex_aload_n 115 dX10_mixEntries_114 rfl rfl ?_
  refine q_getI 10 2 118 dX10_mixEntries_115 rfl fiX10_118 (Or.inl rfl) ⟨_, rfl⟩ ?_
  obtain ⟨o1, hyp⟩ := hyp
  obtain ⟨o2, hyp⟩ := hyp
  obtain ⟨ht, hf⟩ := hyp
  refine ex_icmp_ge 152 121 dX10_mixEntries_118 (by decide) rfl o1 o2 (fun c3 => ?_) (fun c3 => ?_)
  · have hyp := ht c3
    clear ht hf
    refine q_iinc [some (vr 0), some (vi (x1 + 1)), some (vi x2), none] 155 dX10_mixEntries_152 rfl rfl (Nat.le_of_ble_eq_true rfl) rfl rfl ?_
    refine ex_goto 101 dX10_mixEntries_155 (by decide) ?_
    refine ex_dropL (ls' := [some (vr 0), some (vi (x1 + 1)), none, none]) 2 rfl ?_
    exact hyp
  · have hyp := hf c3
    clear ht hf
    refine ex_iconst 122 dX10_mixEntries_121 rfl ?_
    refine q_istore_n [some (vr 0), some (vi x1), some (vi x2), some (vi 0)] 123 dX10_mixEntries_122 rfl (Nat.le_of_ble_eq_true rfl) rfl rfl ?_
    exact hyp
set_option maxRecDepth 4000 in
theorem uX10_mixEntries_123 {P : MS → Prop} (m0 : MS) (x1 : Int) (x2 : Int) (x3 : Int) (hyp : rng x3 ∧ (5 ≤ x3 → (YYv mX10_mixEntries 113 [some (vr 0), some (vi x1), some (vi (x2 + 1)), none] [] m0 P)) ∧ (x3 < 5 → (MMi mX10_twoNow [vr 0, vi x1, vi x2, vi x3] m0 (fun y3 m2 => rng y3 ∧ MMv mX10_mix [vr 0, vl y3] m2 (fun m5 => YYv mX10_mixEntries 123 [some (vr 0), some (vi x1), some (vi x2), some (vi (x3 + 1))] [] m5 P))))) : YYv mX10_mixEntries 123 [some (vr 0), some (vi x1), some (vi x2), some (vi x3)] [] m0 P := by
  refine ex_iload_n 124 dX10_mixEntries_123 rfl rfl ?_
  refine ex_iconst 125 dX10_mixEntries_124 rfl ?_
  obtain ⟨o1, hyp⟩ := hyp
  obtain ⟨ht, hf⟩ := hyp
  refine ex_icmp_ge 146 128 dX10_mixEntries_125 (by decide) rfl o1 ⟨by decide, by decide⟩ (fun c6 => ?_) (fun c6 => ?_)
  · have hyp := ht c6
    clear ht hf
    refine q_iinc [some (vr 0), some (vi x1), some (vi (x2 + 1)), some (vi x3)] 149 dX10_mixEntries_146 rfl rfl (Nat.le_of_ble_eq_true rfl) rfl rfl ?_
    refine ex_goto 113 dX10_mixEntries_149 (by decide) ?_
    refine ex_dropL (ls' := [some (vr 0), some (vi x1), some (vi (x2 + 1)), none]) 3 rfl ?_
    exact hyp
  · have hyp := hf c6
    clear ht hf
    refine ex_aload_n 129 dX10_mixEntries_128 rfl rfl ?_
    refine ex_aload_n 130 dX10_mixEntries_129 rfl rfl ?_
    refine ex_iload_n 131 dX10_mixEntries_130 rfl rfl ?_
    refine ex_iload_n 132 dX10_mixEntries_131 rfl rfl ?_
    refine ex_iload_n 133 dX10_mixEntries_132 rfl rfl ?_
    refine s_callVi [vi x1, vi x2, vi x3] 136 dX10_mixEntries_133 rfl cvX10_181 rfl rfl ⟨Nat.le_of_ble_eq_true rfl, Nat.le_of_ble_eq_true rfl⟩ (Nat.le_of_ble_eq_true rfl) ⟨_, rfl⟩ hyp (fun y3 h1 hq => ?_)
    obtain ⟨m2, rfl, hyp⟩ := hq
    obtain ⟨o4, hyp⟩ := hyp
    refine ex_i2l 137 dX10_mixEntries_136 rfl o4 ?_
    refine s_callVv [vl y3] 140 dX10_mixEntries_137 rfl cvX10_306 rfl rfl ⟨Nat.le_of_ble_eq_true rfl, Nat.le_of_ble_eq_true rfl⟩ (Nat.le_of_ble_eq_true rfl) ⟨_, rfl⟩ hyp (fun h1 hq => ?_)
    obtain ⟨m5, rfl, hyp⟩ := hq
    refine q_iinc [some (vr 0), some (vi x1), some (vi x2), some (vi (x3 + 1))] 143 dX10_mixEntries_140 rfl rfl (Nat.le_of_ble_eq_true rfl) rfl rfl ?_
    refine ex_goto 123 dX10_mixEntries_143 (by decide) ?_
    exact hyp
set_option maxRecDepth 4000 in
theorem uX10_mixLives {P : MS → Prop} (m0 : MS)  (hyp : YYv mX10_mixLives 2 [some (vr 0), some (vi 0), none] [] m0 P) : MMv mX10_mixLives [vr 0] m0 P := by
  refine met_of_ex (by decide +kernel) (Nat.le_of_ble_eq_true rfl) ?_
  show EX mX10_mixLives 0 [some (vr 0), none, none] [] (hM m0) (0, 0) _
  refine ex_iconst 1 dX10_mixLives_0 rfl ?_
  refine q_istore_n [some (vr 0), some (vi 0), none] 2 dX10_mixLives_1 rfl (Nat.le_of_ble_eq_true rfl) rfl rfl ?_
  exact hyp
set_option maxRecDepth 4000 in
theorem uX10_mixLives_2 {P : MS → Prop} (m0 : MS) (x1 : Int) (hyp : rng x1 ∧ (6 ≤ x1 → (YYv mX10_mixLives 26 [some (vr 0), some (vi 0), none] [] m0 P)) ∧ (x1 < 6 → (MMi mX10_livesNow [vr 0, vi x1] m0 (fun y3 m2 => rng y3 ∧ MMv mX10_mix [vr 0, vl y3] m2 (fun m5 => YYv mX10_mixLives 2 [some (vr 0), some (vi (x1 + 1)), none] [] m5 P))))) : YYv mX10_mixLives 2 [some (vr 0), some (vi x1), none] [] m0 P := by
  refine ex_iload_n 3 dX10_mixLives_2 rfl rfl ?_
  refine ex_bipush 5 dX10_mixLives_3 rfl ⟨by decide, by decide⟩ ?_
  obtain ⟨o1, hyp⟩ := hyp
  obtain ⟨ht, hf⟩ := hyp
  refine ex_icmp_ge 24 8 dX10_mixLives_5 (by decide) rfl o1 ⟨by decide, by decide⟩ (fun c6 => ?_) (fun c6 => ?_)
  · have hyp := ht c6
    clear ht hf
    refine ex_iconst 25 dX10_mixLives_24 rfl ?_
    refine q_istore_n [some (vr 0), some (vi 0), none] 26 dX10_mixLives_25 rfl (Nat.le_of_ble_eq_true rfl) rfl rfl ?_
    exact hyp
  · have hyp := hf c6
    clear ht hf
    refine ex_aload_n 9 dX10_mixLives_8 rfl rfl ?_
    refine ex_aload_n 10 dX10_mixLives_9 rfl rfl ?_
    refine ex_iload_n 11 dX10_mixLives_10 rfl rfl ?_
    refine s_callVi [vi x1] 14 dX10_mixLives_11 rfl cvX10_262 rfl rfl ⟨Nat.le_of_ble_eq_true rfl, Nat.le_of_ble_eq_true rfl⟩ (Nat.le_of_ble_eq_true rfl) ⟨_, rfl⟩ hyp (fun y3 h1 hq => ?_)
    obtain ⟨m2, rfl, hyp⟩ := hq
    obtain ⟨o4, hyp⟩ := hyp
    refine ex_i2l 15 dX10_mixLives_14 rfl o4 ?_
    refine s_callVv [vl y3] 18 dX10_mixLives_15 rfl cvX10_306 rfl rfl ⟨Nat.le_of_ble_eq_true rfl, Nat.le_of_ble_eq_true rfl⟩ (Nat.le_of_ble_eq_true rfl) ⟨_, rfl⟩ hyp (fun h1 hq => ?_)
    obtain ⟨m5, rfl, hyp⟩ := hq
    refine q_iinc [some (vr 0), some (vi (x1 + 1)), none] 21 dX10_mixLives_18 rfl rfl (Nat.le_of_ble_eq_true rfl) rfl rfl ?_
    refine ex_goto 2 dX10_mixLives_21 (by decide) ?_
    exact hyp
set_option maxRecDepth 4000 in
theorem uX10_mixLives_26 {P : MS → Prop} (m0 : MS) (x1 : Int) (hyp : rng x1 ∧ rng (m0 0 28) ∧ (m0 0 28 ≤ x1 → (P m0)) ∧ (x1 < m0 0 28 → (YYv mX10_mixLives 36 [some (vr 0), some (vi x1), some (vi 0)] [] m0 P))) : YYv mX10_mixLives 26 [some (vr 0), some (vi x1), none] [] m0 P := by
  refine ex_iload_n 27 dX10_mixLives_26 rfl rfl ?_
  refine ex_aload_n 28 dX10_mixLives_27 rfl rfl ?_
  refine q_getI 10 28 31 dX10_mixLives_28 rfl fiX10_212 (Or.inl rfl) ⟨_, rfl⟩ ?_
  obtain ⟨o1, hyp⟩ := hyp
  obtain ⟨o2, hyp⟩ := hyp
  obtain ⟨ht, hf⟩ := hyp
  refine ex_icmp_ge 94 34 dX10_mixLives_31 (by decide) rfl o1 o2 (fun c3 => ?_) (fun c3 => ?_)
  · have hyp := ht c3
    clear ht hf
    exact ex_vret dX10_mixLives_94 rfl ⟨rfl, _, rfl, hyp⟩
  · have hyp := hf c3
    clear ht hf
    refine ex_iconst 35 dX10_mixLives_34 rfl ?_
    refine q_istore_n [some (vr 0), some (vi x1), some (vi 0)] 36 dX10_mixLives_35 rfl (Nat.le_of_ble_eq_true rfl) rfl rfl ?_
    exact hyp
set_option maxRecDepth 4000 in
theorem uX10_mixLives_36 {P : MS → Prop} (m0 : MS) (x1 : Int) (x2 : Int) (hyp : rng x2 ∧ (8 ≤ x2 → (YYv mX10_mixLives 61 [some (vr 0), some (vi x1), some (vi 0)] [] m0 P)) ∧ (x2 < 8 → (MMi mX10_lifeNow [vr 0, vi x1, vi x2] m0 (fun y3 m2 => rng y3 ∧ MMv mX10_mix [vr 0, vl y3] m2 (fun m5 => YYv mX10_mixLives 36 [some (vr 0), some (vi x1), some (vi (x2 + 1))] [] m5 P))))) : YYv mX10_mixLives 36 [some (vr 0), some (vi x1), some (vi x2)] [] m0 P := by
  refine ex_iload_n 37 dX10_mixLives_36 rfl rfl ?_
  refine ex_bipush 39 dX10_mixLives_37 rfl ⟨by decide, by decide⟩ ?_
  obtain ⟨o1, hyp⟩ := hyp
  obtain ⟨ht, hf⟩ := hyp
  refine ex_icmp_ge 59 42 dX10_mixLives_39 (by decide) rfl o1 ⟨by decide, by decide⟩ (fun c6 => ?_) (fun c6 => ?_)
  · have hyp := ht c6
    clear ht hf
    refine ex_iconst 60 dX10_mixLives_59 rfl ?_
    refine q_istore_n [some (vr 0), some (vi x1), some (vi 0)] 61 dX10_mixLives_60 rfl (Nat.le_of_ble_eq_true rfl) rfl rfl ?_
    exact hyp
  · have hyp := hf c6
    clear ht hf
    refine ex_aload_n 43 dX10_mixLives_42 rfl rfl ?_
    refine ex_aload_n 44 dX10_mixLives_43 rfl rfl ?_
    refine ex_iload_n 45 dX10_mixLives_44 rfl rfl ?_
    refine ex_iload_n 46 dX10_mixLives_45 rfl rfl ?_
    refine s_callVi [vi x1, vi x2] 49 dX10_mixLives_46 rfl cvX10_273 rfl rfl ⟨Nat.le_of_ble_eq_true rfl, Nat.le_of_ble_eq_true rfl⟩ (Nat.le_of_ble_eq_true rfl) ⟨_, rfl⟩ hyp (fun y3 h1 hq => ?_)
    obtain ⟨m2, rfl, hyp⟩ := hq
    obtain ⟨o4, hyp⟩ := hyp
    refine ex_i2l 50 dX10_mixLives_49 rfl o4 ?_
    refine s_callVv [vl y3] 53 dX10_mixLives_50 rfl cvX10_306 rfl rfl ⟨Nat.le_of_ble_eq_true rfl, Nat.le_of_ble_eq_true rfl⟩ (Nat.le_of_ble_eq_true rfl) ⟨_, rfl⟩ hyp (fun h1 hq => ?_)
    obtain ⟨m5, rfl, hyp⟩ := hq
    refine q_iinc [some (vr 0), some (vi x1), some (vi (x2 + 1))] 56 dX10_mixLives_53 rfl rfl (Nat.le_of_ble_eq_true rfl) rfl rfl ?_
    refine ex_goto 36 dX10_mixLives_56 (by decide) ?_
    exact hyp
set_option maxRecDepth 4000 in
theorem uX10_mixLives_61 {P : MS → Prop} (m0 : MS) (x1 : Int) (x2 : Int) (hyp : 0 ≤ x1 ∧ x1 < 18 ∧ rng x2 ∧ rng (m0 21 (x1).toNat) ∧ (m0 21 (x1).toNat ≤ x2 → (YYv mX10_mixLives 26 [some (vr 0), some (vi (x1 + 1)), none] [] m0 P)) ∧ (x2 < m0 21 (x1).toNat → (MMi mX10_weddingAt [vr 0, vi x1, vi x2] m0 (fun y6 m5 => rng y6 ∧ MMv mX10_mix [vr 0, vl y6] m5 (fun m8 => YYv mX10_mixLives 61 [some (vr 0), some (vi x1), some (vi (x2 + 1))] [] m8 P))))) : YYv mX10_mixLives 61 [some (vr 0), some (vi x1), some (vi x2)] [] m0 P := by
  refine ex_iload_n 62 dX10_mixLives_61 rfl rfl ?_
  refine ex_aload_n 63 dX10_mixLives_62 rfl rfl ?_
  refine q_getR (a := 21) 10 31 66 dX10_mixLives_63 rfl fiX10_70 rfl ⟨_, rfl⟩ rfl ?_
  refine ex_iload_n 67 dX10_mixLives_66 rfl rfl ?_
  obtain ⟨o1, hyp⟩ := hyp
  obtain ⟨o2, hyp⟩ := hyp
  refine ex_iald 68 dX10_mixLives_67 rfl (ai_of (n := 18) rfl o1 o2 (by decide)) ?_
  obtain ⟨o3, hyp⟩ := hyp
  obtain ⟨o4, hyp⟩ := hyp
  obtain ⟨ht, hf⟩ := hyp
  refine ex_icmp_ge 88 71 dX10_mixLives_68 (by decide) rfl o3 o4 (fun c9 => ?_) (fun c9 => ?_)
  · have hyp := ht c9
    clear ht hf
    refine q_iinc [some (vr 0), some (vi (x1 + 1)), some (vi x2)] 91 dX10_mixLives_88 rfl rfl (Nat.le_of_ble_eq_true rfl) rfl rfl ?_
    refine ex_goto 26 dX10_mixLives_91 (by decide) ?_
    refine ex_dropL (ls' := [some (vr 0), some (vi (x1 + 1)), none]) 2 rfl ?_
    exact hyp
  · have hyp := hf c9
    clear ht hf
    refine ex_aload_n 72 dX10_mixLives_71 rfl rfl ?_
    refine ex_aload_n 73 dX10_mixLives_72 rfl rfl ?_
    refine ex_iload_n 74 dX10_mixLives_73 rfl rfl ?_
    refine ex_iload_n 75 dX10_mixLives_74 rfl rfl ?_
    refine s_callVi [vi x1, vi x2] 78 dX10_mixLives_75 rfl cvX10_276 rfl rfl ⟨Nat.le_of_ble_eq_true rfl, Nat.le_of_ble_eq_true rfl⟩ (Nat.le_of_ble_eq_true rfl) ⟨_, rfl⟩ hyp (fun y6 h1 hq => ?_)
    obtain ⟨m5, rfl, hyp⟩ := hq
    obtain ⟨o7, hyp⟩ := hyp
    refine ex_i2l 79 dX10_mixLives_78 rfl o7 ?_
    refine s_callVv [vl y6] 82 dX10_mixLives_79 rfl cvX10_306 rfl rfl ⟨Nat.le_of_ble_eq_true rfl, Nat.le_of_ble_eq_true rfl⟩ (Nat.le_of_ble_eq_true rfl) ⟨_, rfl⟩ hyp (fun h1 hq => ?_)
    obtain ⟨m8, rfl, hyp⟩ := hq
    refine q_iinc [some (vr 0), some (vi x1), some (vi (x2 + 1))] 85 dX10_mixLives_82 rfl rfl (Nat.le_of_ble_eq_true rfl) rfl rfl ?_
    refine ex_goto 61 dX10_mixLives_85 (by decide) ?_
    exact hyp
set_option maxRecDepth 4000 in
theorem uX10_digest {P : Int → MS → Prop} (m0 : MS)  (hyp : ∀ m2 : MS, m2 = mI m0 0 33 1567 → (MMv mX10_mixEntries [vr 0] m2 (fun m4 => MMv mX10_mixLives [vr 0] m4 (fun m5 => YYl mX10_digest 17 [some (vr 0), some (vi 0)] [] m5 P)))) : MMl mX10_digest [vr 0] m0 P := by
  refine met_of_ex (by decide +kernel) (Nat.le_of_ble_eq_true rfl) ?_
  show EX mX10_digest 0 [some (vr 0), none] [] (hM m0) (0, 0) _
  refine ex_aload_n 1 dX10_digest_0 rfl rfl ?_
  refine ex_ldc2 (n := 1567) 4 dX10_digest_1 rfl (wt6 29 rfl rfl) ?_
  refine q_putL 10 33 7 dX10_digest_4 rfl fiX10_302 ff10_33 rfl ⟨_, rfl⟩ (fun h1 e1 => ?_)
  obtain ⟨m2, eg3⟩ : ∃ z : MS, z = mI m0 0 33 1567 := ⟨_, rfl⟩
  have hyp := hyp m2 eg3
  obtain rfl : h1 = hM m2 := by rw [e1, eg3]; exact rfl
  clear e1
  refine ex_aload_n 8 dX10_digest_7 rfl rfl ?_
  refine s_callVv [] 11 dX10_digest_8 rfl cvX10_312 rfl rfl ⟨Nat.le_of_ble_eq_true rfl, Nat.le_of_ble_eq_true rfl⟩ (Nat.le_of_ble_eq_true rfl) ⟨_, rfl⟩ hyp (fun h1 hq => ?_)
  obtain ⟨m4, rfl, hyp⟩ := hq
  refine ex_aload_n 12 dX10_digest_11 rfl rfl ?_
  refine s_callVv [] 15 dX10_digest_12 rfl cvX10_315 rfl rfl ⟨Nat.le_of_ble_eq_true rfl, Nat.le_of_ble_eq_true rfl⟩ (Nat.le_of_ble_eq_true rfl) ⟨_, rfl⟩ hyp (fun h1 hq => ?_)
  obtain ⟨m5, rfl, hyp⟩ := hq
  refine ex_iconst 16 dX10_digest_15 rfl ?_
  refine q_istore_n [some (vr 0), some (vi 0)] 17 dX10_digest_16 rfl (Nat.le_of_ble_eq_true rfl) rfl rfl ?_
  exact hyp
set_option maxRecDepth 4000 in
theorem uX10_digest_17 {P : Int → MS → Prop} (m0 : MS) (x1 : Int) (hyp : rng x1 ∧ rng (m0 0 0) ∧ (m0 0 0 ≤ x1 → (YYl mX10_digest 44 [some (vr 0), some (vi 0)] [] m0 P)) ∧ (x1 < m0 0 0 → (0 ≤ x1 ∧ x1 < 60 ∧ rng (m0 1 (x1).toNat) ∧ MMv mX10_mix [vr 0, vl (m0 1 (x1).toNat)] m0 (fun m6 => YYl mX10_digest 17 [some (vr 0), some (vi (x1 + 1))] [] m6 P)))) : YYl mX10_digest 17 [some (vr 0), some (vi x1)] [] m0 P := by
  refine ex_iload_n 18 dX10_digest_17 rfl rfl ?_
  refine ex_aload_n 19 dX10_digest_18 rfl rfl ?_
  refine q_getI 10 0 22 dX10_digest_19 rfl fiX10_80 (Or.inl rfl) ⟨_, rfl⟩ ?_
  obtain ⟨o1, hyp⟩ := hyp
  obtain ⟨o2, hyp⟩ := hyp
  obtain ⟨ht, hf⟩ := hyp
  refine ex_icmp_ge 42 25 dX10_digest_22 (by decide) rfl o1 o2 (fun c7 => ?_) (fun c7 => ?_)
  · have hyp := ht c7
    clear ht hf
    refine ex_iconst 43 dX10_digest_42 rfl ?_
    refine q_istore_n [some (vr 0), some (vi 0)] 44 dX10_digest_43 rfl (Nat.le_of_ble_eq_true rfl) rfl rfl ?_
    exact hyp
  · have hyp := hf c7
    clear ht hf
    refine ex_aload_n 26 dX10_digest_25 rfl rfl ?_
    refine ex_aload_n 27 dX10_digest_26 rfl rfl ?_
    refine q_getR (a := 1) 10 1 30 dX10_digest_27 rfl fiX10_7 rfl ⟨_, rfl⟩ rfl ?_
    refine ex_iload_n 31 dX10_digest_30 rfl rfl ?_
    obtain ⟨o3, hyp⟩ := hyp
    obtain ⟨o4, hyp⟩ := hyp
    refine ex_iald 32 dX10_digest_31 rfl (ai_of (n := 60) rfl o3 o4 (by decide)) ?_
    obtain ⟨o5, hyp⟩ := hyp
    refine ex_i2l 33 dX10_digest_32 rfl o5 ?_
    refine s_callVv [vl (m0 1 (x1).toNat)] 36 dX10_digest_33 rfl cvX10_306 rfl rfl ⟨Nat.le_of_ble_eq_true rfl, Nat.le_of_ble_eq_true rfl⟩ (Nat.le_of_ble_eq_true rfl) ⟨_, rfl⟩ hyp (fun h1 hq => ?_)
    obtain ⟨m6, rfl, hyp⟩ := hq
    refine q_iinc [some (vr 0), some (vi (x1 + 1))] 39 dX10_digest_36 rfl rfl (Nat.le_of_ble_eq_true rfl) rfl rfl ?_
    refine ex_goto 17 dX10_digest_39 (by decide) ?_
    exact hyp
set_option maxRecDepth 4000 in
theorem uX10_digest_44 {P : Int → MS → Prop} (m0 : MS) (x1 : Int) (hyp : rng x1 ∧ (8 ≤ x1 → (P (m0 0 33) m0)) ∧ (x1 < 8 → (MMi mX10_howMany [vr 0, vi x1] m0 (fun y3 m2 => rng y3 ∧ MMv mX10_mix [vr 0, vl y3] m2 (fun m5 => YYl mX10_digest 44 [some (vr 0), some (vi (x1 + 1))] [] m5 P))))) : YYl mX10_digest 44 [some (vr 0), some (vi x1)] [] m0 P := by
  refine ex_iload_n 45 dX10_digest_44 rfl rfl ?_
  refine ex_bipush 47 dX10_digest_45 rfl ⟨by decide, by decide⟩ ?_
  obtain ⟨o1, hyp⟩ := hyp
  obtain ⟨ht, hf⟩ := hyp
  refine ex_icmp_ge 66 50 dX10_digest_47 (by decide) rfl o1 ⟨by decide, by decide⟩ (fun c6 => ?_) (fun c6 => ?_)
  · have hyp := ht c6
    clear ht hf
    refine ex_aload_n 67 dX10_digest_66 rfl rfl ?_
    refine q_getL 10 33 70 dX10_digest_67 rfl fiX10_302 rfl ⟨_, rfl⟩ ?_
    exact ex_lret dX10_digest_70 rfl ⟨_, rfl, _, rfl, hyp⟩
  · have hyp := hf c6
    clear ht hf
    refine ex_aload_n 51 dX10_digest_50 rfl rfl ?_
    refine ex_aload_n 52 dX10_digest_51 rfl rfl ?_
    refine ex_iload_n 53 dX10_digest_52 rfl rfl ?_
    refine s_callVi [vi x1] 56 dX10_digest_53 rfl cvX10_297 rfl rfl ⟨Nat.le_of_ble_eq_true rfl, Nat.le_of_ble_eq_true rfl⟩ (Nat.le_of_ble_eq_true rfl) ⟨_, rfl⟩ hyp (fun y3 h1 hq => ?_)
    obtain ⟨m2, rfl, hyp⟩ := hq
    obtain ⟨o4, hyp⟩ := hyp
    refine ex_i2l 57 dX10_digest_56 rfl o4 ?_
    refine s_callVv [vl y3] 60 dX10_digest_57 rfl cvX10_306 rfl rfl ⟨Nat.le_of_ble_eq_true rfl, Nat.le_of_ble_eq_true rfl⟩ (Nat.le_of_ble_eq_true rfl) ⟨_, rfl⟩ hyp (fun h1 hq => ?_)
    obtain ⟨m5, rfl, hyp⟩ := hq
    refine q_iinc [some (vr 0), some (vi (x1 + 1))] 63 dX10_digest_60 rfl rfl (Nat.le_of_ble_eq_true rfl) rfl rfl ?_
    refine ex_goto 44 dX10_digest_63 (by decide) ?_
    exact hyp

/-! the String constant's letters: soundOf -/
theorem dJ0_length_8abf5_0 : decode mJ0_length_8abf5.2.1 0 = .ok (.aload_n 0, 1) := by decide +kernel
theorem dJ0_length_8abf5_1 : decode mJ0_length_8abf5.2.1 1 = .ok (.getfield 9, 3) := by decide +kernel
theorem dJ0_length_8abf5_4 : decode mJ0_length_8abf5.2.1 4 = .ok (.arraylength, 1) := by decide +kernel
theorem dJ0_length_8abf5_5 : decode mJ0_length_8abf5.2.1 5 = .ok (.aload_n 0, 1) := by decide +kernel
theorem dJ0_length_8abf5_6 : decode mJ0_length_8abf5.2.1 6 = .ok (.invokevirtual 335, 3) := by decide +kernel
theorem dJ0_length_8abf5_9 : decode mJ0_length_8abf5.2.1 9 = .ok (.ishr, 1) := by decide +kernel
theorem dJ0_length_8abf5_10 : decode mJ0_length_8abf5.2.1 10 = .ok (.ireturn, 1) := by decide +kernel
theorem dJ0_coder_7d493_0 : decode mJ0_coder_7d493.2.1 0 = .ok (.getstatic 38, 3) := by decide +kernel
theorem dJ0_coder_7d493_3 : decode mJ0_coder_7d493.2.1 3 = .ok (.ifCond .eq 10, 3) := by decide +kernel
theorem dJ0_coder_7d493_6 : decode mJ0_coder_7d493.2.1 6 = .ok (.aload_n 0, 1) := by decide +kernel
theorem dJ0_coder_7d493_7 : decode mJ0_coder_7d493.2.1 7 = .ok (.getfield 15, 3) := by decide +kernel
theorem dJ0_coder_7d493_10 : decode mJ0_coder_7d493.2.1 10 = .ok (.goto 4, 3) := by decide +kernel
theorem dJ0_coder_7d493_13 : decode mJ0_coder_7d493.2.1 13 = .ok (.iconst 1, 1) := by decide +kernel
theorem dJ0_coder_7d493_14 : decode mJ0_coder_7d493.2.1 14 = .ok (.ireturn, 1) := by decide +kernel
theorem dJ0_charAt_5068e_0 : decode mJ0_charAt_5068e.2.1 0 = .ok (.aload_n 0, 1) := by decide +kernel
theorem dJ0_charAt_5068e_1 : decode mJ0_charAt_5068e.2.1 1 = .ok (.invokevirtual 492, 3) := by decide +kernel
theorem dJ0_charAt_5068e_4 : decode mJ0_charAt_5068e.2.1 4 = .ok (.ifCond .eq 12, 3) := by decide +kernel
theorem dJ0_charAt_5068e_7 : decode mJ0_charAt_5068e.2.1 7 = .ok (.aload_n 0, 1) := by decide +kernel
theorem dJ0_charAt_5068e_8 : decode mJ0_charAt_5068e.2.1 8 = .ok (.getfield 9, 3) := by decide +kernel
theorem dJ0_charAt_5068e_11 : decode mJ0_charAt_5068e.2.1 11 = .ok (.iload_n 1, 1) := by decide +kernel
theorem dJ0_charAt_5068e_12 : decode mJ0_charAt_5068e.2.1 12 = .ok (.invokestatic 495, 3) := by decide +kernel
theorem dJ0_charAt_5068e_15 : decode mJ0_charAt_5068e.2.1 15 = .ok (.ireturn, 1) := by decide +kernel
theorem dJ0_charAt_5068e_16 : decode mJ0_charAt_5068e.2.1 16 = .ok (.aload_n 0, 1) := by decide +kernel
theorem dJ0_charAt_5068e_17 : decode mJ0_charAt_5068e.2.1 17 = .ok (.getfield 9, 3) := by decide +kernel
theorem dJ0_charAt_5068e_20 : decode mJ0_charAt_5068e.2.1 20 = .ok (.iload_n 1, 1) := by decide +kernel
theorem dJ0_charAt_5068e_21 : decode mJ0_charAt_5068e.2.1 21 = .ok (.invokestatic 498, 3) := by decide +kernel
theorem dJ0_charAt_5068e_24 : decode mJ0_charAt_5068e.2.1 24 = .ok (.ireturn, 1) := by decide +kernel
theorem dJ0_isLatin1_aae02_0 : decode mJ0_isLatin1_aae02.2.1 0 = .ok (.getstatic 38, 3) := by decide +kernel
theorem dJ0_isLatin1_aae02_3 : decode mJ0_isLatin1_aae02.2.1 3 = .ok (.ifCond .eq 14, 3) := by decide +kernel
theorem dJ0_isLatin1_aae02_6 : decode mJ0_isLatin1_aae02.2.1 6 = .ok (.aload_n 0, 1) := by decide +kernel
theorem dJ0_isLatin1_aae02_7 : decode mJ0_isLatin1_aae02.2.1 7 = .ok (.getfield 15, 3) := by decide +kernel
theorem dJ0_isLatin1_aae02_10 : decode mJ0_isLatin1_aae02.2.1 10 = .ok (.ifCond .ne 7, 3) := by decide +kernel
theorem dJ0_isLatin1_aae02_13 : decode mJ0_isLatin1_aae02.2.1 13 = .ok (.iconst 1, 1) := by decide +kernel
theorem dJ0_isLatin1_aae02_14 : decode mJ0_isLatin1_aae02.2.1 14 = .ok (.goto 4, 3) := by decide +kernel
theorem dJ0_isLatin1_aae02_17 : decode mJ0_isLatin1_aae02.2.1 17 = .ok (.iconst 0, 1) := by decide +kernel
theorem dJ0_isLatin1_aae02_18 : decode mJ0_isLatin1_aae02.2.1 18 = .ok (.ireturn, 1) := by decide +kernel
theorem dJ1_charAt_3b067_0 : decode mJ1_charAt_3b067.2.1 0 = .ok (.iload_n 1, 1) := by decide +kernel
theorem dJ1_charAt_3b067_1 : decode mJ1_charAt_3b067.2.1 1 = .ok (.aload_n 0, 1) := by decide +kernel
theorem dJ1_charAt_3b067_2 : decode mJ1_charAt_3b067.2.1 2 = .ok (.arraylength, 1) := by decide +kernel
theorem dJ1_charAt_3b067_3 : decode mJ1_charAt_3b067.2.1 3 = .ok (.invokestatic 9, 3) := by decide +kernel
theorem dJ1_charAt_3b067_6 : decode mJ1_charAt_3b067.2.1 6 = .ok (.aload_n 0, 1) := by decide +kernel
theorem dJ1_charAt_3b067_7 : decode mJ1_charAt_3b067.2.1 7 = .ok (.iload_n 1, 1) := by decide +kernel
theorem dJ1_charAt_3b067_8 : decode mJ1_charAt_3b067.2.1 8 = .ok (.baload, 1) := by decide +kernel
theorem dJ1_charAt_3b067_9 : decode mJ1_charAt_3b067.2.1 9 = .ok (.sipush 255, 3) := by decide +kernel
theorem dJ1_charAt_3b067_12 : decode mJ1_charAt_3b067.2.1 12 = .ok (.iand, 1) := by decide +kernel
theorem dJ1_charAt_3b067_13 : decode mJ1_charAt_3b067.2.1 13 = .ok (.i2c, 1) := by decide +kernel
theorem dJ1_charAt_3b067_14 : decode mJ1_charAt_3b067.2.1 14 = .ok (.ireturn, 1) := by decide +kernel
theorem dJ0_checkIndex_df160_0 : decode mJ0_checkIndex_df160.2.1 0 = .ok (.iload_n 0, 1) := by decide +kernel
theorem dJ0_checkIndex_df160_1 : decode mJ0_checkIndex_df160.2.1 1 = .ok (.iload_n 1, 1) := by decide +kernel
theorem dJ0_checkIndex_df160_2 : decode mJ0_checkIndex_df160.2.1 2 = .ok (.getstatic 1053, 3) := by decide +kernel
theorem dJ0_checkIndex_df160_5 : decode mJ0_checkIndex_df160.2.1 5 = .ok (.invokestatic 1059, 3) := by decide +kernel
theorem dJ0_checkIndex_df160_8 : decode mJ0_checkIndex_df160.2.1 8 = .ok (.pop, 1) := by decide +kernel
theorem dJ0_checkIndex_df160_9 : decode mJ0_checkIndex_df160.2.1 9 = .ok (.return_, 1) := by decide +kernel
theorem dJ3_checkIndex_8e157_0 : decode mJ3_checkIndex_8e157.2.1 0 = .ok (.iload_n 0, 1) := by decide +kernel
theorem dJ3_checkIndex_8e157_1 : decode mJ3_checkIndex_8e157.2.1 1 = .ok (.ifCond .lt 8, 3) := by decide +kernel
theorem dJ3_checkIndex_8e157_4 : decode mJ3_checkIndex_8e157.2.1 4 = .ok (.iload_n 0, 1) := by decide +kernel
theorem dJ3_checkIndex_8e157_5 : decode mJ3_checkIndex_8e157.2.1 5 = .ok (.iload_n 1, 1) := by decide +kernel
theorem dJ3_checkIndex_8e157_6 : decode mJ3_checkIndex_8e157.2.1 6 = .ok (.if_icmp .lt 10, 3) := by decide +kernel
theorem dJ3_checkIndex_8e157_9 : decode mJ3_checkIndex_8e157.2.1 9 = .ok (.aload_n 2, 1) := by decide +kernel
theorem dJ3_checkIndex_8e157_10 : decode mJ3_checkIndex_8e157.2.1 10 = .ok (.iload_n 0, 1) := by decide +kernel
theorem dJ3_checkIndex_8e157_11 : decode mJ3_checkIndex_8e157.2.1 11 = .ok (.iload_n 1, 1) := by decide +kernel
theorem dJ3_checkIndex_8e157_12 : decode mJ3_checkIndex_8e157.2.1 12 = .ok (.invokestatic 95, 3) := by decide +kernel
theorem dJ3_checkIndex_8e157_15 : decode mJ3_checkIndex_8e157.2.1 15 = .ok (.athrow, 1) := by decide +kernel
theorem dJ3_checkIndex_8e157_16 : decode mJ3_checkIndex_8e157.2.1 16 = .ok (.iload_n 0, 1) := by decide +kernel
theorem dJ3_checkIndex_8e157_17 : decode mJ3_checkIndex_8e157.2.1 17 = .ok (.ireturn, 1) := by decide +kernel
theorem dX4_soundOf_0 : decode mX4_soundOf.2.1 0 = .ok (.iload_n 0, 1) := by decide +kernel
theorem dX4_soundOf_1 : decode mX4_soundOf.2.1 1 = .ok (.bipush 97, 2) := by decide +kernel
theorem dX4_soundOf_3 : decode mX4_soundOf.2.1 3 = .ok (.isub, 1) := by decide +kernel
theorem dX4_soundOf_4 : decode mX4_soundOf.2.1 4 = .ok (.istore_n 1, 1) := by decide +kernel
theorem dX4_soundOf_5 : decode mX4_soundOf.2.1 5 = .ok (.iload_n 1, 1) := by decide +kernel
theorem dX4_soundOf_6 : decode mX4_soundOf.2.1 6 = .ok (.ifCond .lt 12, 3) := by decide +kernel
theorem dX4_soundOf_9 : decode mX4_soundOf.2.1 9 = .ok (.iload_n 1, 1) := by decide +kernel
theorem dX4_soundOf_10 : decode mX4_soundOf.2.1 10 = .ok (.ldc 40, 2) := by decide +kernel
theorem dX4_soundOf_12 : decode mX4_soundOf.2.1 12 = .ok (.invokevirtual 42, 3) := by decide +kernel
theorem dX4_soundOf_15 : decode mX4_soundOf.2.1 15 = .ok (.if_icmp .lt 7, 3) := by decide +kernel
theorem dX4_soundOf_18 : decode mX4_soundOf.2.1 18 = .ok (.iload_n 0, 1) := by decide +kernel
theorem dX4_soundOf_19 : decode mX4_soundOf.2.1 19 = .ok (.goto 9, 3) := by decide +kernel
theorem dX4_soundOf_22 : decode mX4_soundOf.2.1 22 = .ok (.ldc 40, 2) := by decide +kernel
theorem dX4_soundOf_24 : decode mX4_soundOf.2.1 24 = .ok (.iload_n 1, 1) := by decide +kernel
theorem dX4_soundOf_25 : decode mX4_soundOf.2.1 25 = .ok (.invokevirtual 47, 3) := by decide +kernel
theorem dX4_soundOf_28 : decode mX4_soundOf.2.1 28 = .ok (.ireturn, 1) := by decide +kernel
theorem in_i (k : Int32) (h : ¬ (k < 0 ∨ (26 : Nat) ≤ k.toNatClampNeg)) : vp_in k 26 := h
theorem ch_k : ∀ k : Nat, k < 26 → (((by40.getD k 0 &&& (Int16.ofInt 255).toInt32).toUInt32 % 65536).toInt32 = by40.getD k 0) ∧ narrow .char (.int (by40.getD k 0)) = .int (by40.getD k 0) := by decide +kernel
theorem so_ok : ∀ k : Nat, k < 26 → (¬ (Int32.ofInt (k : Int) < 0)) ∧ Int32.ofInt (k : Int) < 26 ∧ (Int32.ofInt (k : Int)).toNatClampNeg = k := by decide +kernel
section SO
variable {q v : Nat}
theorem r_coder : METR mJ0_coder_7d493 [.ref q] q v (fun w => w = some (.int 0)) := by
  refine metr_of (ls := [some (.ref q)]) (by decide +kernel) (Nat.le_of_ble_eq_true rfl) (fun i w h => ?_) ?_
  · match i, h with
    | 0, h => simp at h; subst h; exact List.mem_cons_self
    | i + 1, h => simp at h
  refine er_compact 3 dJ0_coder_7d493_0 rfl (wt2 231 rfl rfl) ?_
  refine er_if_eq 13 6 dJ0_coder_7d493_3 rfl rfl (fun z => absurd z (by decide)) (fun _ => ?_)
  refine er_aload 7 dJ0_coder_7d493_6 rfl rfl ?_
  refine er_coder 10 dJ0_coder_7d493_7 rfl (wt6 44 rfl rfl) ?_
  refine er_goto 14 dJ0_coder_7d493_10 rfl ?_
  exact er_ret (ty := .byte) dJ0_coder_7d493_14 rfl rfl rfl
theorem r_latin : METR mJ0_isLatin1_aae02 [.ref q] q v (fun w => w = some (.int 1)) := by
  refine metr_of (ls := [some (.ref q)]) (by decide +kernel) (Nat.le_of_ble_eq_true rfl) (fun i w h => ?_) ?_
  · match i, h with
    | 0, h => simp at h; subst h; exact List.mem_cons_self
    | i + 1, h => simp at h
  refine er_compact 3 dJ0_isLatin1_aae02_0 rfl (wt2 231 rfl rfl) ?_
  refine er_if_eq 17 6 dJ0_isLatin1_aae02_3 rfl rfl (fun z => absurd z (by decide)) (fun _ => ?_)
  refine er_aload 7 dJ0_isLatin1_aae02_6 rfl rfl ?_
  refine er_coder 10 dJ0_isLatin1_aae02_7 rfl (wt6 44 rfl rfl) ?_
  refine er_if_ne 17 13 dJ0_isLatin1_aae02_10 rfl rfl (fun z => absurd rfl z) (fun _ => ?_)
  refine er_iconst 14 dJ0_isLatin1_aae02_13 rfl ?_
  refine er_goto 18 dJ0_isLatin1_aae02_14 rfl ?_
  exact er_ret (ty := .boolean) dJ0_isLatin1_aae02_18 rfl rfl rfl
theorem r_length : METR mJ0_length_8abf5 [.ref q] q v (fun w => w = some (.int 26)) := by
  refine metr_of (ls := [some (.ref q)]) (by decide +kernel) (Nat.le_of_ble_eq_true rfl) (fun i w h => ?_) ?_
  · match i, h with
    | 0, h => simp at h; subst h; exact List.mem_cons_self
    | i + 1, h => simp at h
  refine er_aload 1 dJ0_length_8abf5_0 rfl rfl ?_
  refine er_value 4 dJ0_length_8abf5_1 rfl (wt6 43 rfl rfl) ?_
  refine er_len 5 dJ0_length_8abf5_4 rfl ?_
  refine er_aload 6 dJ0_length_8abf5_5 rfl rfl ?_
  refine er_callV (N := mJ0_coder_7d493) (n := 0) [] 9 dJ0_length_8abf5_6 rfl (wt2 227 rfl rfl) nvJ0_coder_7d493 (wt2 228 rfl rfl) (wt2 229 rfl rfl) rfl rfl (Nat.le_of_ble_eq_true rfl) (Nat.le_of_ble_eq_true rfl) (by decide) r_coder (fun w hw => ?_)
  subst hw
  refine er_ishr 10 dJ0_length_8abf5_9 rfl ?_
  exact er_ret (ty := .int) dJ0_length_8abf5_10 rfl rfl rfl
theorem r_check3 {k : Nat} (hk : k < 26) {z : Value} (hz : z.category = 1) : METR mJ3_checkIndex_8e157 [.int (Int32.ofInt (k : Int)), .int 26, z] q v (fun w => w = some (.int (Int32.ofInt (k : Int)))) := by
  obtain ⟨h0, h1, -⟩ := so_ok k hk
  refine metr_of (ls := [some (.int (Int32.ofInt (k : Int))), some (.int 26)]) (by decide +kernel) ?_ (fun i w h => ?_) ?_
  · show (([Slot.val (.int (Int32.ofInt (k : Int)))] ++ ([Slot.val (.int 26)] ++ ((if z.category = 2 then [Slot.val z, .second] else [.val z]) ++ []))) : List Slot).length ≤ 3
    rw [hz]
    exact Nat.le_refl _
  · match i, h with
    | 0, h => simp at h; subst h; exact List.mem_cons_self
    | 1, h => simp at h; subst h; exact List.mem_cons_of_mem _ List.mem_cons_self
    | i + 2, h => simp at h
  refine er_iload 1 dJ3_checkIndex_8e157_0 rfl rfl ?_
  refine er_if_lt 9 4 dJ3_checkIndex_8e157_1 rfl rfl h0 ?_
  refine er_iload 5 dJ3_checkIndex_8e157_4 rfl rfl ?_
  refine er_iload 6 dJ3_checkIndex_8e157_5 rfl rfl ?_
  refine er_icmp_lt 16 dJ3_checkIndex_8e157_6 rfl h1 ?_
  refine er_iload 17 dJ3_checkIndex_8e157_16 rfl rfl ?_
  exact er_ret (ty := .int) dJ3_checkIndex_8e157_17 rfl rfl rfl
theorem r_check0 {k : Nat} (hk : k < 26) : METR mJ0_checkIndex_df160 [.int (Int32.ofInt (k : Int)), .int 26] q v (fun w => w = none) := by
  refine metr_of (ls := [some (.int (Int32.ofInt (k : Int))), some (.int 26)]) (by decide +kernel) (Nat.le_of_ble_eq_true rfl) (fun i w h => ?_) ?_
  · match i, h with
    | 0, h => simp at h; subst h; exact List.mem_cons_self
    | 1, h => simp at h; subst h; exact List.mem_cons_of_mem _ List.mem_cons_self
    | i + 2, h => simp at h
  refine er_iload 1 dJ0_checkIndex_df160_0 rfl rfl ?_
  refine er_iload 2 dJ0_checkIndex_df160_1 rfl rfl ?_
  refine er_form 5 dJ0_checkIndex_df160_2 rfl (wt3 7 rfl rfl) (fun z hz => ?_)
  have hz1 : z.category = 1 := by rcases hz with rfl | ⟨t, rfl⟩ <;> rfl
  refine er_callS (N := mJ3_checkIndex_8e157) (n := 3) (st := []) [.int (Int32.ofInt (k : Int)), .int 26, z] 8 dJ0_checkIndex_df160_5 rfl (wt3 9 rfl rfl) nvJ3_checkIndex_8e157 (wt3 10 rfl rfl) rfl (Nat.le_of_ble_eq_true rfl) (Nat.le_of_ble_eq_true rfl) (by decide) (r_check3 hk hz1) (fun w hw => ?_)
  subst hw
  refine er_pop 9 dJ0_checkIndex_df160_8 rfl rfl ?_
  exact er_vret dJ0_checkIndex_df160_9 rfl rfl
theorem r_char1 {k : Nat} (hk : k < 26) : METR mJ1_charAt_3b067 [.ref v, .int (Int32.ofInt (k : Int))] q v (fun w => w = some (.int (by40.getD k 0))) := by
  obtain ⟨h0, h1, h2⟩ := so_ok k hk
  obtain ⟨c1, c2⟩ := ch_k k hk
  refine metr_of (ls := [some (.ref v), some (.int (Int32.ofInt (k : Int)))]) (by decide +kernel) (Nat.le_of_ble_eq_true rfl) (fun i w h => ?_) ?_
  · match i, h with
    | 0, h => simp at h; subst h; exact List.mem_cons_self
    | 1, h => simp at h; subst h; exact List.mem_cons_of_mem _ List.mem_cons_self
    | i + 2, h => simp at h
  refine er_iload 1 dJ1_charAt_3b067_0 rfl rfl ?_
  refine er_aload 2 dJ1_charAt_3b067_1 rfl rfl ?_
  refine er_len 3 dJ1_charAt_3b067_2 rfl ?_
  refine er_callS (N := mJ0_checkIndex_df160) (n := 2) (st := []) [.int (Int32.ofInt (k : Int)), .int 26] 6 dJ1_charAt_3b067_3 rfl (wt3 4 rfl rfl) nvJ0_checkIndex_df160 (wt3 5 rfl rfl) rfl (Nat.le_of_ble_eq_true rfl) (Nat.le_of_ble_eq_true rfl) (by decide) (r_check0 hk) (fun w hw => ?_)
  subst hw
  refine er_aload 7 dJ1_charAt_3b067_6 rfl rfl ?_
  refine er_iload 8 dJ1_charAt_3b067_7 rfl rfl ?_
  refine er_bald 9 dJ1_charAt_3b067_8 rfl (fun z => by rcases z with z | z; exact h0 z; omega) ?_
  rw [h2]
  refine er_sipush 12 dJ1_charAt_3b067_9 rfl ?_
  refine er_iand 13 dJ1_charAt_3b067_12 rfl ?_
  refine er_i2c 14 dJ1_charAt_3b067_13 rfl c1 ?_
  exact er_ret (ty := .char) dJ1_charAt_3b067_14 rfl c2 rfl
theorem r_charAt {k : Nat} (hk : k < 26) : METR mJ0_charAt_5068e [.ref q, .int (Int32.ofInt (k : Int))] q v (fun w => w = some (.int (by40.getD k 0))) := by
  obtain ⟨c1, c2⟩ := ch_k k hk
  refine metr_of (ls := [some (.ref q), some (.int (Int32.ofInt (k : Int)))]) (by decide +kernel) (Nat.le_of_ble_eq_true rfl) (fun i w h => ?_) ?_
  · match i, h with
    | 0, h => simp at h; subst h; exact List.mem_cons_self
    | 1, h => simp at h; subst h; exact List.mem_cons_of_mem _ List.mem_cons_self
    | i + 2, h => simp at h
  refine er_aload 1 dJ0_charAt_5068e_0 rfl rfl ?_
  refine er_callV (N := mJ0_isLatin1_aae02) (n := 0) [] 4 dJ0_charAt_5068e_1 rfl (wt2 237 rfl rfl) nvJ0_isLatin1_aae02 (wt2 238 rfl rfl) (wt2 239 rfl rfl) rfl rfl (Nat.le_of_ble_eq_true rfl) (Nat.le_of_ble_eq_true rfl) (by decide) r_latin (fun w hw => ?_)
  subst hw
  refine er_if_eq 16 7 dJ0_charAt_5068e_4 rfl rfl (fun z => absurd z (by decide)) (fun _ => ?_)
  refine er_aload 8 dJ0_charAt_5068e_7 rfl rfl ?_
  refine er_value 11 dJ0_charAt_5068e_8 rfl (wt6 43 rfl rfl) ?_
  refine er_iload 12 dJ0_charAt_5068e_11 rfl rfl ?_
  refine er_callS (N := mJ1_charAt_3b067) (n := 2) (st := []) [.ref v, .int (Int32.ofInt (k : Int))] 15 dJ0_charAt_5068e_12 rfl (wt3 1 rfl rfl) nvJ1_charAt_3b067 (wt3 2 rfl rfl) rfl (Nat.le_of_ble_eq_true rfl) (Nat.le_of_ble_eq_true rfl) (by decide) (r_char1 hk) (fun w hw => ?_)
  subst hw
  exact er_ret (ty := .char) dJ0_charAt_5068e_15 rfl c2 rfl
end SO
/-! in the world: a call on the constant -/
section EXS
variable {M N : MD} {ls : List (Option PV)} {st : List PV} {h : PH} {Q : Option PV → PH → Prop} {B : Nat × Nat}
theorem ex_str {pc idx n : Nat} {av : List PV} {x : Int} (hcl : M.1.cls = "LifeLinks$Names") (hd : decode M.2.1 pc = .ok (.invokevirtual idx, 3)) (hl : Cond.methodLink M.1.cls idx N.1 ∈ WS) (hN : NV N n) (hi : Cond.instanceMethod N.1 ∈ WS) (hs : Cond.selects N.1.cls N.1 N.1 ∈ WS) (hc : N.1.cls = "java/lang/String") (hn : av.length = n) (hfr : N.2.2.2.2.1 + 1 ≤ M.2.2.2.2.1) (hlc : 8 + (N.2.2.1 + 11) + N.2.2.2.2.2 ≤ M.2.2.2.2.2) (hw : px_sum st ≤ 8) (hM : ∀ (ad : Nat → Nat) (q v : Nat), METR N (.ref q :: av.map (px_tr ad)) q v (fun w => w = some (.int (Int32.ofInt x)))) (k : EX M (pc + 3) ls (vi x :: st) h B Q) :
    ∀ (p : Program) (l : Launch) (e : Env) (R : Room) (s : State) (m : MethodId) (args : Array Value) (below : List Frame) (meth : Method) (c : Code) (D : va_G) (cy : Nat → ClassId) (ad : Nat → Nat) (T0 : List (Nat × Nat)) (A : Nat → Prop) (H : Heap) (locs : List Loc) (cells slots : Nat) (lsA : Array Slot) (q v : Nat),
    CX p R s m args meth c M D cy A → SX D cy ad h s A H locs R T0 cells slots B → PL ad M.2.2.1 lsA ls → SGX q v A s s.heap →
    W p l e R s m args below meth c H locs cells slots (MQ below (PQ D cy ad T0 A R.cells Q) args s R.cells R.slots A) (F0 m pc lsA (((av.map (px_tr ad)).reverse) ++ .ref q :: st.map (px_tr ad))) := by
  intro p l e R s m args below meth c D cy ad T0 A H locs cells slots lsA q v C S L hG
  have cellB : ∃ cellB : Cell, H[q]? = some cellB ∧ cellB.vm.isStatics = false ∧ s.vm.findClass N.1.cls = some cellB.cls := by rw [hc]; exact vk_recv (i := 0) hG.1 (by omega) S.2.2.1
  have hgo : ∀ U : State, U.heap = H → s.WarmedH U.vm → SGX q v (fun y => H.size ≤ y) U H := fun U hU hW => ((hG.moved hW.alike).kept S.2.2.1.2.1).narrow (fun y hy => S.2.2.2.1 y (Nat.le_trans S.2.2.1.1 hy))
  have hr := va_runV (p := p) (l := l) (e := e) (R := R) (below := below) (meth := meth) (H := H) (locs := locs) (cells := cells) (slots := slots) (g := F0 m pc lsA (((av.map (px_tr ad)).reverse) ++ .ref q :: st.map (px_tr ad))) (As := av.map (px_tr ad)) (rest := st.map (px_tr ad)) (b := q) ⟨C.1, C.2.1, C.2.2.2.1, C.2.2.2.2.1, C.2.2.2.2.2.1⟩ (hM ad q v l H.size) (cwV n C.2.2.2.2.2.1 (hN.goodV hl hi hs) rfl rfl rfl ⟨rfl, hN.2.2⟩ ⟨by rw [C.2.2.2.2.2.2.2.2.1]; exact hfr, by rw [C.2.2.2.2.2.2.2.2.2.1]; exact hlc⟩) ⟨er_pre, cellB, fun U hU hW => ⟨rfl, by rw [hU], by rw [hU]; exact hgo U hU hW⟩⟩ rfl (by rw [List.length_map]; exact hn) L.1 rfl (lv_room (by rw [px_sum_eq]; exact hw)) hd ⟨by have := S.2.2.2.2.1; omega, by have := S.2.2.2.2.2.1; omega⟩
  intro T hT X
  obtain ⟨w, st₀, t, T', L', h0, X', hL', e1, e2, ⟨w', ho, hq, hh⟩, stp⟩ := hr T hT X
  have hv : w = w' := by cases ho; rfl
  subst hv
  subst hq
  obtain ⟨t2, a1, b1⟩ := k p l e R s m args below meth c D cy ad T0 A H (locs ++ L') cells slots lsA C ⟨S.1, S.2.1, ⟨S.2.2.1.1, S.2.2.1.2.1, fun y hy => by
    rcases List.mem_append.mp hy with z | z
    · exact S.2.2.1.2.2 y z
    · exact S.2.2.2.1 _ (Nat.le_trans S.2.2.1.1 (hL' y z))⟩, S.2.2.2⟩ L T' (by rw [e1, hh, h0]) X'
  exact ⟨t2, stp t2 a1, b1⟩
theorem ex_slen {pc : Nat} (hcl : M.1.cls = "LifeLinks$Names") (hd0 : decode M.2.1 pc = .ok (.ldc 40, 2)) (hd : decode M.2.1 (pc + 2) = .ok (.invokevirtual 42, 3)) (hl : Cond.methodLink M.1.cls 42 mJ0_length_8abf5.1 ∈ WS) (hfr : mJ0_length_8abf5.2.2.2.2.1 + 1 ≤ M.2.2.2.2.1) (hlc : 8 + (mJ0_length_8abf5.2.2.1 + 11) + mJ0_length_8abf5.2.2.2.2.2 ≤ M.2.2.2.2.2) (hw : px_sum st ≤ 8) (k : EX M (pc + 2 + 3) ls (vi 26 :: st) h B Q) : EX M pc ls st h B Q := by
  intro p l e R s m args below meth c D cy ad T0 A H locs cells slots lsA C S L
  obtain ⟨⟨q, v, hR, hV⟩, hZ, hZq, -⟩ := C.2.2.2.2.2.2.2.2.2.2.2
  refine va_ldcS (own := "LifeLinks$Names") C.1 C.2.1 (by rw [← hcl]; exact C.2.2.2.2.1) hR hd0 ?_
  exact ex_str (N := mJ0_length_8abf5) (n := 0) (av := []) (x := 26) hcl hd hl nvJ0_length_8abf5 (wt2 224 rfl rfl) (wt2 225 rfl rfl) rfl rfl hfr hlc hw (fun _ q v => r_length) k p l e R s m args below meth c D cy ad T0 A H locs cells slots lsA q v C S L ⟨hV, hZ, hZq⟩
theorem ex_schar {pc k : Nat} {i : Fin 4} (hk : k < 26) (hcl : M.1.cls = "LifeLinks$Names") (hd0 : decode M.2.1 pc = .ok (.ldc 40, 2)) (hd1 : decode M.2.1 (pc + 2) = .ok (.iload_n i, 1)) (hls : ls[(i : Nat)]? = some (some (vi (k : Int)))) (hd : decode M.2.1 (pc + 2 + 1) = .ok (.invokevirtual 47, 3)) (hl : Cond.methodLink M.1.cls 47 mJ0_charAt_5068e.1 ∈ WS) (hfr : mJ0_charAt_5068e.2.2.2.2.1 + 1 ≤ M.2.2.2.2.1) (hlc : 8 + (mJ0_charAt_5068e.2.2.1 + 11) + mJ0_charAt_5068e.2.2.2.2.2 ≤ M.2.2.2.2.2) (hw : px_sum st ≤ 8) (kk : EX M (pc + 2 + 1 + 3) ls (vi (by40.getD k 0).toInt :: st) h B Q) : EX M pc ls st h B Q := by
  intro p l e R s m args below meth c D cy ad T0 A H locs cells slots lsA C S L
  obtain ⟨⟨q, v, hR, hV⟩, hZ, hZq, -⟩ := C.2.2.2.2.2.2.2.2.2.2.2
  refine va_ldcS (own := "LifeLinks$Names") C.1 C.2.1 (by rw [← hcl]; exact C.2.2.2.2.1) hR hd0 ?_
  refine lv_iload_n C.1 C.2.1 hd1 rfl (L.2.2 _ _ hls) ?_
  exact ex_str (N := mJ0_charAt_5068e) (n := 1) (av := [vi (k : Int)]) (x := (by40.getD k 0).toInt) hcl hd hl nvJ0_charAt_5068e (wt2 234 rfl rfl) (wt2 235 rfl rfl) rfl rfl hfr hlc hw (fun _ q v => by rw [Int32.ofInt_toInt]; exact r_charAt hk) kk p l e R s m args below meth c D cy ad T0 A H locs cells slots lsA q v C S L ⟨hV, hZ, hZq⟩
end EXS
theorem soOK : SoOK := by
  intro g c P hc hP
  refine met_of_ex (by decide +kernel) (Nat.le_of_ble_eq_true rfl) ?_
  show EX mX4_soundOf 0 [some (vi c), none] [] (hX g) (0, 0) _
  obtain ⟨k, hk⟩ : ∃ k : Nat, c - 97 = (k : Int) := ⟨(c - 97).toNat, by omega⟩
  have hk26 : k < 26 := by omega
  refine ex_iload_n 1 dX4_soundOf_0 rfl rfl ?_
  refine ex_bipush 3 dX4_soundOf_1 rfl ⟨by decide, by decide⟩ ?_
  refine ex_isub 4 dX4_soundOf_3 rfl ?_
  rw [hk]
  refine q_istore_n [some (vi c), some (vi (k : Int))] 5 dX4_soundOf_4 rfl (Nat.le_of_ble_eq_true rfl) rfl rfl ?_
  refine ex_iload_n 6 dX4_soundOf_5 rfl rfl ?_
  refine ex_if_lt 18 9 dX4_soundOf_6 rfl rfl ⟨by omega, by omega⟩ (fun z => by omega) (fun _ => ?_)
  refine ex_iload_n 10 dX4_soundOf_9 rfl rfl ?_
  refine ex_slen rfl dX4_soundOf_10 dX4_soundOf_12 (wt2 223 rfl rfl) (Nat.le_of_ble_eq_true rfl) (Nat.le_of_ble_eq_true rfl) (Nat.le_of_ble_eq_true rfl) ?_
  refine ex_icmp_lt 22 18 dX4_soundOf_15 rfl rfl ⟨by omega, by omega⟩ ⟨by decide, by decide⟩ (fun _ => ?_) (fun z => by omega)
  refine ex_schar (k := k) hk26 rfl dX4_soundOf_22 dX4_soundOf_24 rfl dX4_soundOf_25 (wt2 233 rfl rfl) (Nat.le_of_ble_eq_true rfl) (Nat.le_of_ble_eq_true rfl) (by decide) ?_
  refine ex_iret dX4_soundOf_28 (Or.inl rfl) ⟨_, rfl, _, rfl, ?_⟩
  unfold soV at hP
  rw [hk, Int.toNat_natCast] at hP
  exact hP

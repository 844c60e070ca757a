/-! CONSTRUCTORS: what they make, as changes of the pure heap; L is how many cells lie there before -/
def pxn (h : PH) (L t n : Nat) : PH := (h.1 ++ [(t, n)], fun a j => if a = L then 0 else h.2.1 a j, fun a j => if a = L then none else h.2.2 a j)
def pnA (h : PH) (L b k n : Nat) : PH := px_upR (pxn h L 20 n) b k (some L)
def pnR (h : PH) (L b k t n : Nat) : PH := px_upR (pxn h L t n) b k (some L)
def pxg (h : PH) (L N K : Nat) : PH := (h.1 ++ (23, N) :: List.replicate N (20, K), fun a j => if L ≤ a then 0 else h.2.1 a j, fun a j => if a = L then (if j < N then some (L + 1 + j) else none) else h.2.2 a j)
def pnG (h : PH) (L b k N K : Nat) : PH := px_upR (pxg h L N K) b k (some L)
section MK
variable {h : PH} {L b k n t N K c i : Nat} {x : Int} {r : List (Nat × Nat)}
theorem pxn_eq (hL : h.1.length = L) : px_new h t n = pxn h L t n := by subst hL; rfl
theorem pxn_len (hL : h.1.length = L) : (pxn h L t n).1.length = L + 1 := by subst hL; exact List.length_append
theorem pnA_eq (hL : h.1.length = L) : px_upR (px_new h 20 n) b k (some h.1.length) = pnA h L b k n := by subst hL; rfl
theorem pnR_eq (hL : h.1.length = L) : px_upR (px_new h t n) b k (some h.1.length) = pnR h L b k t n := by subst hL; rfl
theorem pnG_eq (hL : h.1.length = L) : px_upR (px_grid h N K) b k (some h.1.length) = pnG h L b k N K := by subst hL; rfl
theorem pnA_len (hL : h.1.length = L) : (pnA h L b k n).1.length = L + 1 := pxn_len hL
theorem pnR_len (hL : h.1.length = L) : (pnR h L b k t n).1.length = L + 1 := pxn_len hL
theorem pnG_len (hL : h.1.length = L) : (pnG h L b k N K).1.length = L + (1 + N) := by
  show (h.1 ++ (23, N) :: List.replicate N (20, K)).length = _
  rw [List.length_append, List.length_cons, List.length_replicate, hL]
  omega
theorem upI_len (hL : h.1.length = L) : (px_upI h b k x).1.length = L := hL
theorem OB.app {h h1 : PH} (hO : OB h c i) (e : h1.1 = h.1 ++ r) : OB h1 c i := by
  obtain ⟨n, hn⟩ := hO
  refine ⟨n, ?_⟩
  rw [e, List.getElem?_append_left (List.getElem?_eq_some_iff.mp hn).1]
  exact hn
theorem OB.new (hO : OB h c i) : OB (px_new h t n) c i := hO.app rfl
theorem OB.pxn (hO : OB h c i) : OB (pxn h L t n) c i := hO.app rfl
theorem OB.grid (hO : OB h c i) : OB (px_grid h N K) c i := hO.app rfl
theorem OB.upI (hO : OB h c i) : OB (px_upI h b k x) c i := hO
theorem OB.pnA (hO : OB h c i) : OB (pnA h L b k n) c i := hO.app rfl
theorem OB.pnR (hO : OB h c i) : OB (pnR h L b k t n) c i := hO.app rfl
theorem OB.pnG (hO : OB h c i) : OB (pnG h L b k N K) c i := hO.app rfl
theorem OBn (h : PH) (L t n : Nat) (hL : h.1.length = L) : OB (pxn h L t n) t L := ⟨n, by
  show (h.1 ++ [(t, n)])[L]? = _
  rw [List.getElem?_append_right (by omega), hL, Nat.sub_self]
  rfl⟩
end MK
def fX0 (h : PH) (L b : Nat) (s : Int): PH := px_upI (pnA (pnA h L b 1 8) (L + 1) b 2 18) b 0 s
theorem iX0 {h : PH} {L b : Nat} {s : Int} (hO : OB h 0 b) (hL : h.1.length = L) : METv mX0_init [vr b, vi s] h (2, 26) (fun h1 => h1 = fX0 h L b s) := by
  refine met_of_ex (by decide +kernel) (Nat.le_of_ble_eq_true rfl) ?_
  show EX mX0_init 0 [some (vr b), some (vi s)] [] h (2, 26) _
  refine ex_aload_n 1 dX0_init_0 rfl rfl ?_
  refine ex_objInit 4 dX0_init_1 rfl (wt1 114 rfl rfl) (wt1 24 rfl rfl) (wt1 25 rfl rfl) (Nat.le_of_ble_eq_true rfl) (Nat.le_of_ble_eq_true rfl) ?_
  refine ex_aload_n 5 dX0_init_4 rfl rfl ?_
  refine ex_bipush 7 dX0_init_5 rfl ⟨by decide, by decide⟩ ?_
  refine ex_newa (N := 8) 9 (1, 18) dX0_init_7 rfl (wt1 43 rfl rfl) rfl (by decide) rfl (fun h1 e1 => ?_)
  subst e1
  refine q_putRF 0 1 12 dX0_init_9 rfl fiX0_9 ff0_1 rfl rfl hO.new (fun h1 e1 => ?_)
  replace e1 := e1.trans (pnA_eq hL)
  subst e1
  refine ex_aload_n 13 dX0_init_12 rfl rfl ?_
  refine ex_bipush 15 dX0_init_13 rfl ⟨by decide, by decide⟩ ?_
  refine ex_newa (N := 18) 17 (0, 0) dX0_init_15 rfl (wt1 43 rfl rfl) rfl (by decide) rfl (fun h1 e1 => ?_)
  subst e1
  refine q_putRF 0 2 20 dX0_init_17 rfl fiX0_15 ff0_2 rfl rfl (hO.pnA).new (fun h1 e1 => ?_)
  replace e1 := e1.trans (pnA_eq (pnA_len hL))
  subst e1
  refine ex_aload_n 21 dX0_init_20 rfl rfl ?_
  refine ex_iload_n 22 dX0_init_21 rfl rfl ?_
  refine q_putIF 0 0 25 dX0_init_22 rfl fiX0_18 ff0_0 rfl rfl ((hO.pnA).pnA) (fun h1 e1 => ?_)
  subst e1
  exact ex_vret dX0_init_25 rfl ⟨rfl, rfl⟩
def fX1 (h : PH) (L b : Nat) : PH := pnA h L b 0 5
theorem iX1 {h : PH} {L b : Nat} (hO : OB h 1 b) (hL : h.1.length = L) : METv mX1_init [vr b] h (1, 5) (fun h1 => h1 = fX1 h L b) := by
  refine met_of_ex (by decide +kernel) (Nat.le_of_ble_eq_true rfl) ?_
  show EX mX1_init 0 [some (vr b)] [] h (1, 5) _
  refine ex_aload_n 1 dX1_init_0 rfl rfl ?_
  refine ex_objInit 4 dX1_init_1 rfl (wt2 19 rfl rfl) (wt1 24 rfl rfl) (wt1 25 rfl rfl) (Nat.le_of_ble_eq_true rfl) (Nat.le_of_ble_eq_true rfl) ?_
  refine ex_aload_n 5 dX1_init_4 rfl rfl ?_
  refine ex_iconst 6 dX1_init_5 rfl ?_
  refine ex_newa (N := 5) 8 (0, 0) dX1_init_6 rfl (wt1 43 rfl rfl) rfl (by decide) rfl (fun h1 e1 => ?_)
  subst e1
  refine q_putRF 1 0 11 dX1_init_8 rfl fiX1_9 ff1_0 rfl rfl hO.new (fun h1 e1 => ?_)
  replace e1 := e1.trans (pnA_eq hL)
  subst e1
  exact ex_vret dX1_init_11 rfl ⟨rfl, rfl⟩
def fX3 (h : PH) (L b : Nat) : PH := pnG (pnA (pnA (pnA h L b 0 18) (L + 1) b 3 7) (L + 1 + 1) b 4 7) (L + 1 + 1 + 1) b 7 8 128
theorem iX3 {h : PH} {L b : Nat} (hO : OB h 3 b) (hL : h.1.length = L) : METv mX3_init [vr b] h (12, 1064) (fun h1 => h1 = fX3 h L b) := by
  refine met_of_ex (by decide +kernel) (Nat.le_of_ble_eq_true rfl) ?_
  show EX mX3_init 0 [some (vr b)] [] h (12, 1064) _
  refine ex_aload_n 1 dX3_init_0 rfl rfl ?_
  refine ex_objInit 4 dX3_init_1 rfl (wt1 216 rfl rfl) (wt1 24 rfl rfl) (wt1 25 rfl rfl) (Nat.le_of_ble_eq_true rfl) (Nat.le_of_ble_eq_true rfl) ?_
  refine ex_aload_n 5 dX3_init_4 rfl rfl ?_
  refine ex_bipush 7 dX3_init_5 rfl ⟨by decide, by decide⟩ ?_
  refine ex_newa (N := 18) 9 (11, 1046) dX3_init_7 rfl (wt1 43 rfl rfl) rfl (by decide) rfl (fun h1 e1 => ?_)
  subst e1
  refine q_putRF 3 0 12 dX3_init_9 rfl fiX3_9 ff3_0 rfl rfl hO.new (fun h1 e1 => ?_)
  replace e1 := e1.trans (pnA_eq hL)
  subst e1
  refine ex_aload_n 13 dX3_init_12 rfl rfl ?_
  refine ex_bipush 15 dX3_init_13 rfl ⟨by decide, by decide⟩ ?_
  refine ex_newa (N := 7) 17 (10, 1039) dX3_init_15 rfl (wt1 43 rfl rfl) rfl (by decide) rfl (fun h1 e1 => ?_)
  subst e1
  refine q_putRF 3 3 20 dX3_init_17 rfl fiX3_15 ff3_3 rfl rfl (hO.pnA).new (fun h1 e1 => ?_)
  replace e1 := e1.trans (pnA_eq (pnA_len hL))
  subst e1
  refine ex_aload_n 21 dX3_init_20 rfl rfl ?_
  refine ex_bipush 23 dX3_init_21 rfl ⟨by decide, by decide⟩ ?_
  refine ex_newa (N := 7) 25 (9, 1032) dX3_init_23 rfl (wt1 43 rfl rfl) rfl (by decide) rfl (fun h1 e1 => ?_)
  subst e1
  refine q_putRF 3 4 28 dX3_init_25 rfl fiX3_18 ff3_4 rfl rfl ((hO.pnA).pnA).new (fun h1 e1 => ?_)
  replace e1 := e1.trans (pnA_eq (pnA_len (pnA_len hL)))
  subst e1
  refine ex_aload_n 29 dX3_init_28 rfl rfl ?_
  refine ex_bipush 31 dX3_init_29 rfl ⟨by decide, by decide⟩ ?_
  refine ex_sipush 34 dX3_init_31 rfl ⟨by decide, by decide⟩ ?_
  refine ex_mna (N := 8) (K := 128) 38 (0, 0) dX3_init_34 rfl (wt1 217 rfl rfl) (wt1 43 rfl rfl) rfl rfl (by decide) (by decide) rfl (fun h1 e1 => ?_)
  subst e1
  refine q_putRF 3 7 41 dX3_init_38 rfl fiX3_23 ff3_7 rfl rfl (((hO.pnA).pnA).pnA).grid (fun h1 e1 => ?_)
  replace e1 := e1.trans (pnG_eq (pnA_len (pnA_len (pnA_len hL))))
  subst e1
  exact ex_vret dX3_init_41 rfl ⟨rfl, rfl⟩
def fX4 (h : PH) (L b : Nat) : PH := pnA (pnA h L b 0 9) (L + 1) b 1 9
theorem iX4 {h : PH} {L b : Nat} (hO : OB h 4 b) (hL : h.1.length = L) : METv mX4_init [vr b] h (2, 18) (fun h1 => h1 = fX4 h L b) := by
  refine met_of_ex (by decide +kernel) (Nat.le_of_ble_eq_true rfl) ?_
  show EX mX4_init 0 [some (vr b)] [] h (2, 18) _
  refine ex_aload_n 1 dX4_init_0 rfl rfl ?_
  refine ex_objInit 4 dX4_init_1 rfl (wt1 94 rfl rfl) (wt1 24 rfl rfl) (wt1 25 rfl rfl) (Nat.le_of_ble_eq_true rfl) (Nat.le_of_ble_eq_true rfl) ?_
  refine ex_aload_n 5 dX4_init_4 rfl rfl ?_
  refine ex_bipush 7 dX4_init_5 rfl ⟨by decide, by decide⟩ ?_
  refine ex_newa (N := 9) 9 (1, 9) dX4_init_7 rfl (wt1 43 rfl rfl) rfl (by decide) rfl (fun h1 e1 => ?_)
  subst e1
  refine q_putR 4 0 12 dX4_init_9 rfl fiX4_9 ff4_0 rfl hO.new (fun h1 e1 => ?_)
  replace e1 := e1.trans (pnA_eq hL)
  subst e1
  refine ex_aload_n 13 dX4_init_12 rfl rfl ?_
  refine ex_bipush 15 dX4_init_13 rfl ⟨by decide, by decide⟩ ?_
  refine ex_newa (N := 9) 17 (0, 0) dX4_init_15 rfl (wt1 43 rfl rfl) rfl (by decide) rfl (fun h1 e1 => ?_)
  subst e1
  refine q_putR 4 1 20 dX4_init_17 rfl fiX4_15 ff4_1 rfl (hO.pnA).new (fun h1 e1 => ?_)
  replace e1 := e1.trans (pnA_eq (pnA_len hL))
  subst e1
  exact ex_vret dX4_init_20 rfl ⟨rfl, rfl⟩
def fX5 (h : PH) (L b : Nat) : PH := pnA h L b 0 60
theorem iX5 {h : PH} {L b : Nat} (hO : OB h 5 b) (hL : h.1.length = L) : METv mX5_init [vr b] h (1, 60) (fun h1 => h1 = fX5 h L b) := by
  refine met_of_ex (by decide +kernel) (Nat.le_of_ble_eq_true rfl) ?_
  show EX mX5_init 0 [some (vr b)] [] h (1, 60) _
  refine ex_aload_n 1 dX5_init_0 rfl rfl ?_
  refine ex_objInit 4 dX5_init_1 rfl (wt1 31 rfl rfl) (wt1 24 rfl rfl) (wt1 25 rfl rfl) (Nat.le_of_ble_eq_true rfl) (Nat.le_of_ble_eq_true rfl) ?_
  refine ex_aload_n 5 dX5_init_4 rfl rfl ?_
  refine ex_bipush 7 dX5_init_5 rfl ⟨by decide, by decide⟩ ?_
  refine ex_newa (N := 60) 9 (0, 0) dX5_init_7 rfl (wt1 43 rfl rfl) rfl (by decide) rfl (fun h1 e1 => ?_)
  subst e1
  refine q_putRF 5 0 12 dX5_init_9 rfl fiX5_9 ff5_0 rfl rfl hO.new (fun h1 e1 => ?_)
  replace e1 := e1.trans (pnA_eq hL)
  subst e1
  exact ex_vret dX5_init_12 rfl ⟨rfl, rfl⟩
def fX6 (h : PH) (L b : Nat) : PH := pnG (pnG h L b 0 18 18) (L + (1 + 18)) b 1 18 18
theorem iX6 {h : PH} {L b : Nat} (hO : OB h 6 b) (hL : h.1.length = L) : METv mX6_init [vr b] h (38, 684) (fun h1 => h1 = fX6 h L b) := by
  refine met_of_ex (by decide +kernel) (Nat.le_of_ble_eq_true rfl) ?_
  show EX mX6_init 0 [some (vr b)] [] h (38, 684) _
  refine ex_aload_n 1 dX6_init_0 rfl rfl ?_
  refine ex_objInit 4 dX6_init_1 rfl (wt1 194 rfl rfl) (wt1 24 rfl rfl) (wt1 25 rfl rfl) (Nat.le_of_ble_eq_true rfl) (Nat.le_of_ble_eq_true rfl) ?_
  refine ex_aload_n 5 dX6_init_4 rfl rfl ?_
  refine ex_bipush 7 dX6_init_5 rfl ⟨by decide, by decide⟩ ?_
  refine ex_bipush 9 dX6_init_7 rfl ⟨by decide, by decide⟩ ?_
  refine ex_mna (N := 18) (K := 18) 13 (19, 342) dX6_init_9 rfl (wt1 195 rfl rfl) (wt1 43 rfl rfl) rfl rfl (by decide) (by decide) rfl (fun h1 e1 => ?_)
  subst e1
  refine q_putRF 6 0 16 dX6_init_13 rfl fiX6_11 ff6_0 rfl rfl hO.grid (fun h1 e1 => ?_)
  replace e1 := e1.trans (pnG_eq hL)
  subst e1
  refine ex_aload_n 17 dX6_init_16 rfl rfl ?_
  refine ex_bipush 19 dX6_init_17 rfl ⟨by decide, by decide⟩ ?_
  refine ex_bipush 21 dX6_init_19 rfl ⟨by decide, by decide⟩ ?_
  refine ex_mna (N := 18) (K := 18) 25 (0, 0) dX6_init_21 rfl (wt1 195 rfl rfl) (wt1 43 rfl rfl) rfl rfl (by decide) (by decide) rfl (fun h1 e1 => ?_)
  subst e1
  refine q_putRF 6 1 28 dX6_init_25 rfl fiX6_16 ff6_1 rfl rfl (hO.pnG).grid (fun h1 e1 => ?_)
  replace e1 := e1.trans (pnG_eq (pnG_len hL))
  subst e1
  exact ex_vret dX6_init_28 rfl ⟨rfl, rfl⟩
def fX7 (h : PH) (L b : Nat) : PH := pnA h L b 0 3
theorem iX7 {h : PH} {L b : Nat} (hO : OB h 7 b) (hL : h.1.length = L) : METv mX7_init [vr b] h (1, 3) (fun h1 => h1 = fX7 h L b) := by
  refine met_of_ex (by decide +kernel) (Nat.le_of_ble_eq_true rfl) ?_
  show EX mX7_init 0 [some (vr b)] [] h (1, 3) _
  refine ex_aload_n 1 dX7_init_0 rfl rfl ?_
  refine ex_objInit 4 dX7_init_1 rfl (wt1 49 rfl rfl) (wt1 24 rfl rfl) (wt1 25 rfl rfl) (Nat.le_of_ble_eq_true rfl) (Nat.le_of_ble_eq_true rfl) ?_
  refine ex_aload_n 5 dX7_init_4 rfl rfl ?_
  refine ex_iconst 6 dX7_init_5 rfl ?_
  refine ex_newa (N := 3) 8 (0, 0) dX7_init_6 rfl (wt1 43 rfl rfl) rfl (by decide) rfl (fun h1 e1 => ?_)
  subst e1
  refine q_putRF 7 0 11 dX7_init_8 rfl fiX7_9 ff7_0 rfl rfl hO.new (fun h1 e1 => ?_)
  replace e1 := e1.trans (pnA_eq hL)
  subst e1
  exact ex_vret dX7_init_11 rfl ⟨rfl, rfl⟩

/-! ROWS: what is made -/
theorem ex_objInit {M : MD} {pc : Nat} {ls : List (Option PV)} {st : List PV} {h : PH} {B : Nat × Nat} {Q : Option PV → PH → Prop} {i idx : Nat} (pc' : Nat) (hd : decode M.2.1 pc = .ok (.invokespecial idx, 3)) (hp : pc' = pc + 3) (hl : Cond.methodLink M.1.cls idx Lib.objectInit ∈ WS) (hi : Cond.instanceMethod Lib.objectInit ∈ WS) (hc : Cond.code Lib.objectInit ⟨#[0xb1]⟩ 1 none ∈ WS) (hfr : 1 ≤ M.2.2.2.2.1) (hlo : px_sum st + 12 ≤ M.2.2.2.2.2) (k : EX M pc' ls st h B Q) : EX M pc ls (vr i :: st) h B Q := by
  subst hp
  intro p l e R s m args below meth c D cy ad T0 A H locs cells slots lsA C S L
  refine W.objInit C.1 C.2.1 C.2.2.2.2.1 (C.2.2.2.2.2.1 _ hl) (C.2.2.2.2.2.1 _ hi) (C.2.2.2.2.2.1 _ hc) rfl (by rw [C.2.2.2.1]; exact L.1) rfl hd (by rw [C.2.2.2.2.2.2.2.2.1]; exact hfr) (by rw [C.2.2.2.2.2.2.2.2.2.1, px_sum_eq]; show 2 * 0 + _ + 12 ≤ _; omega) (k p l e R s m args below meth c D cy ad T0 A H locs cells slots lsA C S L)
section NEW
variable {s : State} {D : va_G} {cy : Nat → ClassId} {ad : Nat → Nat} {T0 : List (Nat × Nat)} {A : Nat → Prop} {H H1 : Heap} {locs : List Loc} {cells slots : Nat} {h : PH} {R : Room} {B : Nat × Nat}
theorem px_newS {t n sl : Nat} (S : SX D cy ad h s A H locs R T0 cells slots (B.1 + 1, B.2 + sl)) (hz : H1.size = H.size + 1) (hk : ∀ q, q < H.size → H1[q]? = H[q]?) (hn : px_at D cy ad (px_new h t n) H1 h.1.length) : SX D cy ad (px_new h t n) s A H1 locs R T0 (cells + 1) (slots + sl) B := by
  obtain ⟨S1, S2, S3, S4, S5, S6, S7, S8, S9⟩ := S
  dsimp only at S5 S6 S9
  have hlen : (px_new h t n).1.length = h.1.length + 1 := by simp [px_new]
  have had : ad h.1.length = H.size := by have := S9 0 (by omega); simpa using this
  refine ⟨fun i => ?_, ⟨fun i j hi hj e => ?_, fun i hi => ?_⟩, ⟨by have := S3.1; omega, fun q h1 h2 => by rw [hk q (Nat.lt_of_lt_of_le h1 S3.1)]; exact S3.2.1 q h1 h2, S3.2.2⟩, S4, by omega, by omega, by omega, (by obtain ⟨r, h2, h3⟩ := S8; exact ⟨r ++ [(t, n)], by simp [px_new, h2], by simp [h3]⟩), fun j hj => ?_⟩
  · by_cases hi : i = h.1.length
    · subst hi; exact hn
    · by_cases hl : i < h.1.length
      · exact px_kept (S1 i) (by show (h.1 ++ [(t, n)])[i]? = _; rw [List.getElem?_append_left hl]) (fun k => by simp [px_new, hi]) (fun k => by simp [px_new, hi]) (fun _ => hk _ (px_lt S1 hl))
      · unfold px_at
        have : (px_new h t n).1[i]? = none := List.getElem?_eq_none (by rw [hlen]; omega)
        rw [this]
        trivial
  · rw [hlen] at hi hj
    by_cases h1 : i < h.1.length
    · by_cases h2 : j < h.1.length
      · exact S2.1 i j h1 h2 e
      · have hj' : j = h.1.length := by omega
        subst hj'
        have := px_lt S1 h1
        omega
    · have hi' : i = h.1.length := by omega
      subst hi'
      by_cases h2 : j < h.1.length
      · have := px_lt S1 h2
        omega
      · omega
  · rw [hlen] at hi
    by_cases h1 : i < h.1.length
    · exact S2.2 i h1
    · have hi' : i = h.1.length := by omega
      subst hi'
      rw [had]
      exact S4 _ S3.1
  · have := S9 (j + 1) (by omega)
    rw [hlen, hz]
    rw [show h.1.length + 1 + j = h.1.length + (j + 1) by omega, this]
    omega
end NEW
theorem px_dflt (ty : FieldType) (ad : Nat → Nat) (h1 : ty ≠ .float) (h2 : ty ≠ .double) : defaultValue ty = px_V ty ad 0 none := by
  cases ty <;> first | rfl | exact absurd rfl h1 | exact absurd rfl h2
def px_noF (c n : Nat) : Bool := (List.range n).all fun k => match px_ty c k with
  | .float => false
  | .double => false
  | _ => true
theorem px_noF_spec {c n k : Nat} (h : px_noF c n = true) (hk : k < n) : px_ty c k ≠ .float ∧ px_ty c k ≠ .double := by
  have h1 := List.all_eq_true.mp h k (List.mem_range.mpr hk)
  revert h1
  cases px_ty c k <;> intro h1 <;> first | (cases h1; done) | (constructor <;> (intro e; cases e))
theorem ex_new {M : MD} {pc : Nat} {ls : List (Option PV)} {st : List PV} {h : PH} {B : Nat × Nat} {Q : Option PV → PH → Prop} {idx : Nat} {q : vw_C} (c0 pc' : Nat) (B' : Nat × Nat) (hd : decode M.2.1 pc = .ok (.new idx, 3)) (hp : pc' = pc + 3) (hc : vwCl[c0]? = some q) (hcl : Cond.classLink M.1.cls idx q.1 ∈ WS) (hin : Cond.instantiable q.1 q.2.2 ∈ WS) (hini : Cond.initialized q.1 ∈ WS) (hF : px_noF c0 q.2.2 = true) (hB : B = (B'.1 + 1, B'.2 + q.2.2)) (k : ∀ h1, h1 = px_new h c0 q.2.2 → EX M pc' ls (vr h.1.length :: st) h1 B' Q) : EX M pc ls st h B Q := by
  subst hp
  subst hB
  intro p l e R s m args below meth c D cy ad T0 A H locs cells slots lsA C S L
  obtain ⟨a1, a2, a3, a4⟩ := cls_ok c0 q hc
  have hKn := C.2.2.2.2.2.2.2.1.1 c0 q hc
  have had : ad h.1.length = H.size := by have := S.2.2.2.2.2.2.2.2 0 (by show 0 < B'.1 + 1; omega); simpa using this
  refine W.newcK C.1 C.2.1 C.2.2.2.2.1 (C.2.2.2.2.2.1 _ hcl) (C.2.2.2.2.2.1 _ hin) (C.2.2.2.2.2.1 _ hini) rfl hd (by have := S.2.2.2.2.1; dsimp only at this; omega) (by have := S.2.2.2.2.2.1; dsimp only at this; omega) hKn.2.1 rfl fun H1 kC hkC ez z oq => ?_
  have hn : px_at D cy ad (px_new h c0 q.2.2) H1 h.1.length := by
    unfold px_at
    have hT : (px_new h c0 q.2.2).1[h.1.length]? = some (c0, q.2.2) := by simp [px_new]
    rw [hT]
    dsimp only
    rw [if_pos a4]
    refine ⟨q, hc, ?_⟩
    rw [had]
    refine (u_born (px_ty c0) C.2.2.2.2.2.1 a1 hKn hkC ez a2).to (fun k hk => ?_)
    obtain ⟨f1, f2⟩ := px_noF_spec hF hk
    simp only [px_new, if_true]
    exact px_dflt _ ad f1 f2
  have k := k _ rfl p l e R s m args below meth c D cy ad T0 A H1 locs (cells + 1) (slots + q.2.2) lsA C (px_newS S z oq hn) L
  rw [List.map_cons, show px_tr ad (vr h.1.length) = .ref H.size by simp [px_tr, va_rf, had]] at k
  exact k
theorem px_int_cy {s : State} {D : va_G} {cy : Nat → ClassId} {cA : ClassId} (hK : va_K D vwCl (px_tys cy) s) (h : s.vm.findClass ("[" ++ (FieldType.int).toString) = some cA) : cA = cy 0 := Option.some.inj (h.symm.trans (hK.2 0 (cy 0, .int) rfl).2)
theorem ex_newa {M : MD} {pc : Nat} {ls : List (Option PV)} {st : List PV} {h : PH} {B : Nat × Nat} {Q : Option PV → PH → Prop} {n : Int} {N : Nat} (pc' : Nat) (B' : Nat × Nat) (hd : decode M.2.1 pc = .ok (.newarray .int, 2)) (hp : pc' = pc + 2) (ha : Cond.arrayClass .int ∈ WS) (hN : n = (N : Int)) (hb : N ≤ 100000) (hB : B = (B'.1 + 1, B'.2 + N)) (k : ∀ h1, h1 = px_new h 20 N → EX M pc' ls (vr h.1.length :: st) h1 B' Q) : EX M pc ls (vi n :: st) h B Q := by
  subst hp
  subst hB
  subst hN
  intro p l e R s m args below meth c D cy ad T0 A H locs cells slots lsA C S L
  have had : ad h.1.length = H.size := by have := S.2.2.2.2.2.2.2.2 0 (by show 0 < B'.1 + 1; omega); simpa using this
  have hr : rng (N : Int) := ⟨by omega, by omega⟩
  have hcl : (Int32.ofInt (N : Int)).toNatClampNeg = N := rng_cl (by omega) (by omega)
  refine va_newaK (atype := .int) C.1 C.2.1 (C.2.2.2.2.2.1 _ ha) rfl hd rfl (fun z => by have := (rng_lt hr rng_0).mp z; omega) hcl (by show N * 4 ≤ _; omega) (by have := S.2.2.2.2.1; dsimp only at this; omega) (by have := S.2.2.2.2.2.1; dsimp only at this; omega) rfl fun H1 cA e1 z o1 hAr hNm => ?_
  have hcy := px_int_cy C.2.2.2.2.2.2.2.1 hNm
  subst hcy
  have hn : px_at D cy ad (px_new h 20 N) H1 h.1.length := by
    unfold px_at
    have hT : (px_new h 20 N).1[h.1.length]? = some (20, N) := by simp [px_new]
    rw [hT]
    dsimp only
    rw [if_neg (by omega), if_pos rfl, had, e1]
    simp only [px_new, if_true]
    rfl
  have k := k _ rfl p l e R s m args below meth c D cy ad T0 A H1 locs (cells + 1) (slots + N) lsA C (px_newS S z o1 hn) L
  rw [List.map_cons, show px_tr ad (vr h.1.length) = .ref H.size by simp [px_tr, va_rf, had]] at k
  exact k
theorem ex_anew {M : MD} {pc : Nat} {ls : List (Option PV)} {st : List PV} {h : PH} {B : Nat × Nat} {Q : Option PV → PH → Prop} {n : Int} {N idx c0 : Nat} {q : vw_C} (t pc' : Nat) (B' : Nat × Nat) (hd : decode M.2.1 pc = .ok (.anewarray idx, 3)) (hp : pc' = pc + 3) (ht : (t = 21 ∧ c0 = 0) ∨ (t = 22 ∧ c0 = 1)) (hc : vwCl[c0]? = some q) (hcl : Cond.classLink M.1.cls idx q.1 ∈ WS) (hN : n = (N : Int)) (hb : N ≤ 100000) (hB : B = (B'.1 + 1, B'.2 + N)) (k : ∀ h1, h1 = px_new h t N → EX M pc' ls (vr h.1.length :: st) h1 B' Q) : EX M pc ls (vi n :: st) h B Q := by
  subst hp
  subst hB
  subst hN
  intro p l e R s m args below meth c D cy ad T0 A H locs cells slots lsA C S L
  have had : ad h.1.length = H.size := by have := S.2.2.2.2.2.2.2.2 0 (by show 0 < B'.1 + 1; omega); simpa using this
  have hr : rng (N : Int) := ⟨by omega, by omega⟩
  have hcln : (Int32.ofInt (N : Int)).toNatClampNeg = N := rng_cl (by omega) (by omega)
  have hao : va_AO q.1 s := by
    rcases ht with ⟨rfl, rfl⟩ | ⟨rfl, rfl⟩
    · cases hc; exact C.2.2.2.2.2.2.2.2.2.2.2.2.2.2.1
    · cases hc; exact C.2.2.2.2.2.2.2.2.2.2.2.2.2.2.2.1
  refine W.anew C.1 C.2.1 C.2.2.2.2.1 (C.2.2.2.2.2.1 _ hcl) (va_AO.use hao) rfl hd rfl (fun z => by have := (rng_lt hr rng_0).mp z; omega) (by rw [hcln]; omega) (by have := S.2.2.2.2.1; dsimp only at this; omega) (by rw [hcln]; have := S.2.2.2.2.2.1; dsimp only at this; omega) fun cA kA comp f1 f2 f3 f4 => ?_
  rw [hcln]
  have hcy : cA = cy (t - 20) := by
    rcases ht with ⟨rfl, rfl⟩ | ⟨rfl, rfl⟩
    · cases hc
      obtain ⟨kB, comp', k1, k2, k3, k4⟩ := (C.2.2.2.2.2.2.2.1.2 1 (cy 1, .object RX0) rfl).2
      exact Option.some.inj (f1.symm.trans k4)
    · cases hc
      obtain ⟨kB, comp', k1, k2, k3, k4⟩ := (C.2.2.2.2.2.2.2.1.2 2 (cy 2, .object RX1) rfl).2
      exact Option.some.inj (f1.symm.trans k4)
  have z : (H.push ({ cls := cA, slots := Array.replicate N .null, vm := .none } : Cell)).size = H.size + 1 := Array.size_push _
  have o1 : ∀ q, q < H.size → (H.push ({ cls := cA, slots := Array.replicate N .null, vm := .none } : Cell))[q]? = H[q]? := fun q hq => by rw [Array.getElem?_push, if_neg (Nat.ne_of_lt hq)]
  have e1 : (H.push ({ cls := cA, slots := Array.replicate N .null, vm := .none } : Cell))[H.size]? = some (arrV cA N (fun _ => .null)) := by rw [Array.getElem?_push_size, ← arrV_new]
  revert z o1 e1
  generalize H.push ({ cls := cA, slots := Array.replicate N .null, vm := .none } : Cell) = H1
  intro z o1 e1
  have hn : px_at D cy ad (px_new h t N) H1 h.1.length := by
    unfold px_at
    have hT : (px_new h t N).1[h.1.length]? = some (t, N) := by simp [px_new]
    rw [hT]
    dsimp only
    rw [if_neg (by omega), if_neg (by omega), had, e1, hcy]
    simp only [px_new, if_true]
    rfl
  have k := k _ rfl p l e R s m args below meth c D cy ad T0 A H1 locs (cells + 1) (slots + N) lsA C (px_newS S z o1 hn) L
  rw [List.map_cons, show px_tr ad (vr h.1.length) = .ref H.size by simp [px_tr, va_rf, had]] at k
  exact k
theorem px_outer (c : ClassId) (N h0 : Nat) : ∀ i : Nat, Jvm.Free.Multi.outerC c N h0 i = arrV c N (fun j => va_rf (if j < i then some (h0 + 1 + j) else none)) := by
  intro i
  induction i with
  | zero =>
    show ({ cls := c, slots := Array.replicate N .null, vm := .none } : Cell) = _
    rw [arrV_new]
    refine congrArg (arrV c N) (funext fun j => ?_)
    simp [va_rf]
  | succ i ih =>
    show (Jvm.Free.Multi.outerC c N h0 i).setSlot i (.ref (h0 + 1 + i)) = _
    rw [ih, arrV_store]
    refine congrArg (arrV c N) (funext fun j => ?_)
    by_cases e : j = i
    · subst e
      simp [updV, va_rf]
    · by_cases h : j < i
      · simp [updV, e, h, Nat.lt_succ_of_lt h]
      · simp [updV, e, h, show ¬ j < i + 1 by omega]
def px_grid (h : PH) (N K : Nat) : PH := (h.1 ++ (23, N) :: List.replicate N (20, K), fun a j => if h.1.length ≤ a then 0 else h.2.1 a j, fun a j => if a = h.1.length then (if j < N then some (h.1.length + 1 + j) else none) else h.2.2 a j)
theorem ex_mna {M : MD} {pc : Nat} {ls : List (Option PV)} {st : List PV} {h : PH} {B : Nat × Nat} {Q : Option PV → PH → Prop} {n k0 : Int} {N K idx : Nat} (pc' : Nat) (B' : Nat × Nat) (hd : decode M.2.1 pc = .ok (.multianewarray idx 2, 4)) (hp : pc' = pc + 4) (hcl : Cond.classLink M.1.cls idx ("[" ++ (FieldType.array .int).toString) ∈ WS) (hac : Cond.arrayClass .int ∈ WS) (hN : n = (N : Int)) (hK : k0 = (K : Int)) (hb : N ≤ 10000) (hb2 : K ≤ 10000) (hB : B = (B'.1 + (1 + N), B'.2 + (N + N * K))) (k : ∀ h1, h1 = px_grid h N K → EX M pc' ls (vr h.1.length :: st) h1 B' Q) : EX M pc ls (vi k0 :: vi n :: st) h B Q := by
  subst hp
  subst hB
  subst hN
  subst hK
  intro p l e R s m args below meth c D cy ad T0 A H locs cells slots lsA C S L
  intro T hT X
  obtain ⟨S1, S2, S3, S4, S5, S6, S7, S8, S9⟩ := S
  dsimp only at S5 S6 S9
  have had0 : ad h.1.length = H.size := by have := S9 0 (by omega); simpa using this
  have hadj : ∀ j, j < N → ad (h.1.length + 1 + j) = H.size + 1 + j := fun j hj => by
    have := S9 (1 + j) (by omega)
    rw [show h.1.length + 1 + j = h.1.length + (1 + j) by omega, this]
    omega
  have hr : rng (N : Int) := ⟨by omega, by omega⟩
  have hrk : rng (K : Int) := ⟨by omega, by omega⟩
  have hcn : (Int32.ofInt (N : Int)).toNatClampNeg = N := rng_cl (by omega) (by omega)
  have hck : (Int32.ofInt (K : Int)).toNatClampNeg = K := rng_cl (by omega) (by omega)
  obtain ⟨vm₁, cA, comp, -, fA, fC, -, -, X', step⟩ := X.multianewarray2F C.1 C.2.2.2.2.1 (C.2.2.2.2.2.1 _ hcl) (show (Cond.arrayOver (.array .int)).before args s = true from C.2.2.2.2.2.2.2.2.2.2.2.2.2.2.2.2.1) (C.2.2.2.2.2.1 _ hac) (g := F0 m pc lsA (.int (Int32.ofInt (K : Int)) :: .int (Int32.ofInt (N : Int)) :: st.map (px_tr ad))) rfl (by rw [C.2.1]; exact hd) rfl
    (fun z => by have := (rng_lt hr rng_0).mp z; omega) (fun z => by have := (rng_lt hrk rng_0).mp z; omega) (by rw [hcn]; omega) (by rw [hck]; show K * 4 ≤ _; omega) (by rw [hck]; omega) rfl rfl (by rw [hcn]; omega) (by rw [hcn, hck]; omega)
  rw [hcn, hck] at X' step
  have hTh : (T.setVm vm₁).heap = H := hT
  obtain ⟨f1, f2, -, -⟩ := Jvm.Free.Multi.fill_facts (T.setVm vm₁) cA comp N K (defaultValue .int) N
  have f3 : ∀ x : Nat, x < H.size → (Jvm.Free.Multi.fill (T.setVm vm₁) cA comp N K (defaultValue .int) N).heap[x]? = H[x]? := fun x hx => by
    have := Jvm.Free.Multi.fill_old (T.setVm vm₁) cA comp N K (defaultValue .int) (a := x) (by rw [hTh]; exact hx) N
    rw [hTh] at this
    exact this
  have f4 : ∀ j : Nat, j < N → (Jvm.Free.Multi.fill (T.setVm vm₁) cA comp N K (defaultValue .int) N).heap[H.size + 1 + j]? = some (arrV comp K (fun _ => .int 0)) := fun j hj => by
    have := Jvm.Free.Multi.fill_inner (T.setVm vm₁) cA comp N K (defaultValue .int) N j hj
    rw [hTh] at this
    rw [this, ← arrV_new]
    rfl
  rw [hTh] at f1 f2
  rw [px_outer] at f2
  have hc3 : cA = cy 3 := Option.some.inj (fA.symm.trans (C.2.2.2.2.2.2.2.1.2 3 (cy 3, .array .int) rfl).2)
  have hc0 : comp = cy 0 := Option.some.inj (fC.symm.trans (C.2.2.2.2.2.2.2.1.2 0 (cy 0, .int) rfl).2)
  subst hc3
  subst hc0
  revert f1 f2 f3 f4 X' step
  generalize Jvm.Free.Multi.fill (T.setVm vm₁) (cy 3) (cy 0) N K (defaultValue .int) N = F
  intro X' step f1 f2 f3 f4
  have hlen : (px_grid h N K).1.length = h.1.length + (1 + N) := by simp [px_grid]; omega
  have hS1 : SIM D cy ad (px_grid h N K) F.heap := by
    intro i
    by_cases hl : i < h.1.length
    · exact px_kept (S1 i) (by show (h.1 ++ _)[i]? = _; rw [List.getElem?_append_left hl]) (fun k => by simp [px_grid, Nat.not_le.mpr hl]) (fun k => by simp [px_grid, Nat.ne_of_lt hl]) (fun _ => f3 _ (px_lt S1 hl))
    · by_cases hi : i = h.1.length
      · subst hi
        have hT1 : (px_grid h N K).1[h.1.length]? = some (23, N) := by simp [px_grid]
        unfold px_at
        rw [hT1]
        dsimp only
        rw [if_neg (by omega), if_neg (by omega), had0, f2]
        refine congrArg (fun f => some (arrV (cy 3) N f)) (funext fun j => ?_)
        by_cases hj : j < N
        · simp [px_grid, hj, hadj j hj]
        · simp [px_grid, hj]
      · by_cases hi2 : i < h.1.length + (1 + N)
        · obtain ⟨j, rfl⟩ : ∃ j, i = h.1.length + 1 + j := ⟨i - (h.1.length + 1), by omega⟩
          have hT1 : (px_grid h N K).1[h.1.length + 1 + j]? = some (20, K) := by
            show (h.1 ++ (23, N) :: List.replicate N (20, K))[_]? = _
            rw [List.getElem?_append_right (by omega), show h.1.length + 1 + j - h.1.length = j + 1 by omega, List.getElem?_cons_succ, List.getElem?_replicate, if_pos (by omega)]
          unfold px_at
          rw [hT1]
          dsimp only
          rw [if_neg (by omega), if_pos rfl, hadj j (by omega), f4 j (by omega)]
          refine congrArg (fun f => some (arrV (cy 0) K f)) (funext fun q => ?_)
          simp [px_grid, show h.1.length ≤ h.1.length + 1 + j by omega]
        · unfold px_at
          have : (px_grid h N K).1[i]? = none := List.getElem?_eq_none (by rw [hlen]; omega)
          rw [this]
          trivial
  have hge : ∀ i, h.1.length ≤ i → i < h.1.length + (1 + N) → ad i = H.size + (i - h.1.length) := fun i h1 h2 => by
    have := S9 (i - h.1.length) (by omega)
    rw [show h.1.length + (i - h.1.length) = i by omega] at this
    exact this
  obtain ⟨t, a1, b1⟩ := k _ rfl p l e R s m args below meth c D cy ad T0 A F.heap locs (cells + (1 + N)) (slots + (N + N * K)) lsA C ⟨hS1, ⟨fun i j hi hj e => by
      rw [hlen] at hi hj
      by_cases h1 : i < h.1.length <;> by_cases h2 : j < h.1.length
      · exact S2.1 i j h1 h2 e
      · have := px_lt S1 h1
        have := hge j (by omega) hj
        omega
      · have := px_lt S1 h2
        have := hge i (by omega) hi
        omega
      · have := hge j (by omega) hj
        have := hge i (by omega) hi
        omega, fun i hi => by
      rw [hlen] at hi
      by_cases h1 : i < h.1.length
      · exact S2.2 i h1
      · rw [hge i (by omega) hi]
        exact S4 _ (by have := S3.1; omega)⟩, ⟨by have := S3.1; omega, fun q h1 h2 => by rw [f3 q (Nat.lt_of_lt_of_le h1 S3.1)]; exact S3.2.1 q h1 h2, S3.2.2⟩, S4, by omega, by omega, by omega, (by obtain ⟨r, h2, h3⟩ := S8; exact ⟨r ++ ((23, N) :: List.replicate N (20, K)), by simp [px_grid, h2], by simp [h3]; omega⟩), fun j hj => by
      have := S9 (1 + N + j) (by omega)
      rw [hlen, show h.1.length + (1 + N) + j = h.1.length + (1 + N + j) by omega, this]
      omega⟩ L F rfl (by rw [show cells + (1 + N) = cells + 1 + N by omega, show slots + (N + N * K) = slots + N + N * K by omega]; exact X')
  refine ⟨t, step t ?_, b1⟩
  rw [List.map_cons, show px_tr ad (vr h.1.length) = .ref H.size by simp [px_tr, va_rf, had0]] at a1
  rw [show T.heap.size = H.size by rw [hT]]
  exact a1

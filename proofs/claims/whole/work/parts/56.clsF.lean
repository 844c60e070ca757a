/-! THE CLASS's LIVES: what a life's object holds of the entries that are laid to it -/
theorem V1_new {E : EE} (hW : WF E) {i : Nat} (hi : i < nB E) : vO (sV1 E i) (aB E i) = -1 ∧ (∀ d : Nat, sMt E (aB E i) = (d : Int) → vO (sV1 E i) d = -1 ∧ d < eN E ∧ eK E d = 2) := by
  obtain ⟨g1, g2, g3, g4⟩ := V1_ok hW i (by omega)
  have fr : ∀ e, (∀ j, j < i → e ≠ aB E j ∧ sMt E (aB E j) ≠ (e : Int)) → vO (sV1 E i) e = -1 := by
    intro e he
    by_cases c : vO (sV1 E i) e = -1
    · exact c
    · obtain ⟨j, hj, c⟩ := (g4 e).mp c
      obtain ⟨n1, n2⟩ := he j hj
      rcases c with c | c
      · exact absurd c n1
      · exact absurd c n2
  refine ⟨fr _ (fun j hj => ⟨fun z => by have := aB_inj (by omega) (by omega) z; omega, fun z => ?_⟩), fun d hd => ?_⟩
  · rcases sMt_B hW (show j < nB E by omega) with c | ⟨k, hk, c, -⟩
    · omega
    · exact bd_ne (show i < nB E by omega) hk (by omega)
  · rcases sMt_B hW hi with c | ⟨k, hk, c, e, -⟩
    · omega
    · obtain ⟨d1, d2⟩ := aD_ok hk
      have hq : d = aD E k := by omega
      subst hq
      refine ⟨fr _ (fun j hj => ⟨fun z => bd_ne (show j < nB E by omega) hk z.symm, fun z => ?_⟩), d1, d2⟩
      rcases sMt_B hW (show j < nB E by omega) with c' | ⟨k', hk', c', d', -⟩
      · omega
      · have : k' = k := aD_inj hk' hk (by omega)
        subst this
        have := aB_inj hi (show j < nB E by omega) (by omega)
        omega
theorem V2_new {E : EE} (hW : WF E) {k : Nat} (hk : k < nD E) (h : sMt E (aD E k) = -1) : vO (sV2 E k) (aD E k) = -1 := by
  obtain ⟨g1, g2, g3, g4, g5⟩ := V2_ok hW k (by omega)
  by_cases c : vO (sV2 E k) (aD E k) = -1
  · exact c
  · exfalso
    rcases (g5 _).mp c with ⟨j, hj, q | q⟩ | ⟨q, hq, e1, -⟩
    · exact bd_ne hj hk q.symm
    · rcases sMt_B hW hj with c' | ⟨k', hk', c', d', -⟩
      · omega
      · have : k' = k := aD_inj hk' hk (by omega)
        subst this
        omega
    · have := aD_inj (show q < nD E by omega) hk e1.symm
      omega
/-- x is the greatest, the least of f over those that O lays to l -/
def GMx (E : EE) (O : Nat → Int) (l : Nat) (f : Nat → Int) (x : Int) : Prop := (∀ k, k < eN E → O k = (l : Int) → f k ≤ x) ∧ ∃ k, k < eN E ∧ O k = (l : Int) ∧ f k = x
def GMn (E : EE) (O : Nat → Int) (l : Nat) (f : Nat → Int) (x : Int) : Prop := (∀ k, k < eN E → O k = (l : Int) → x ≤ f k) ∧ ∃ k, k < eN E ∧ O k = (l : Int) ∧ f k = x
/-- the members f (s of them, h heads) are those that O lays to l -/
def Mem (E : EE) (O : Nat → Int) (l s h : Nat) (f : Nat → Int) : Prop := (∀ p, p < s → ∃ k : Nat, f p = (k : Int) ∧ k < eN E ∧ O k = (l : Int) ∧ (p < h ↔ eK E k ≠ 1)) ∧ (∀ p q, p < s → q < s → f p = f q → p = q) ∧ (∀ k : Nat, k < eN E → O k = (l : Int) → ∃ p, p < s ∧ f p = (k : Int)) ∧ (∀ p q, h ≤ p → p < q → q < s → f p < f q)
def LR (E : EE) (O : Nat → Int) (l s h : Nat) (f : Nat → Int) (x y z : Int) : Prop := Mem E O l s h f ∧ (0 < s → GMx E O l (sF E) x ∧ GMn E O l (sL E) y ∧ GMx E O l (eY E) z)
theorem GMx_cg {E : EE} {O O' : Nat → Int} {l : Nat} {f : Nat → Int} {x : Int} (h : ∀ k, k < eN E → (O' k = (l : Int) ↔ O k = (l : Int))) (hg : GMx E O l f x) : GMx E O' l f x := by
  obtain ⟨h1, k, h2, h3, h4⟩ := hg
  exact ⟨fun j hj hO => h1 j hj ((h j hj).1 hO), k, h2, (h k h2).2 h3, h4⟩
theorem GMn_cg {E : EE} {O O' : Nat → Int} {l : Nat} {f : Nat → Int} {x : Int} (h : ∀ k, k < eN E → (O' k = (l : Int) ↔ O k = (l : Int))) (hg : GMn E O l f x) : GMn E O' l f x := by
  obtain ⟨h1, k, h2, h3, h4⟩ := hg
  exact ⟨fun j hj hO => h1 j hj ((h j hj).1 hO), k, h2, (h k h2).2 h3, h4⟩
theorem LR_cg {E : EE} {O O' : Nat → Int} {l s h : Nat} {f f' : Nat → Int} {x y z : Int} (hO : ∀ k, k < eN E → (O' k = (l : Int) ↔ O k = (l : Int))) (hf : ∀ p, p < s → f' p = f p) (hg : LR E O l s h f x y z) : LR E O' l s h f' x y z := by
  obtain ⟨⟨h1, h2, h3, h4⟩, h5⟩ := hg
  refine ⟨⟨fun p hp => ?_, fun p q hp hq e => ?_, fun k hk ho => ?_, fun p q hp hpq hq => ?_⟩, fun hs => ?_⟩
  · obtain ⟨k, a1, a2, a3, a4⟩ := h1 p hp
    exact ⟨k, by rw [hf p hp]; exact a1, a2, (hO k a2).2 a3, a4⟩
  · rw [hf p hp, hf q hq] at e
    exact h2 p q hp hq e
  · obtain ⟨p, hp, e⟩ := h3 k hk ((hO k hk).1 ho)
    exact ⟨p, hp, by rw [hf p hp]; exact e⟩
  · rw [hf p (by omega), hf q hq]
    exact h4 p q hp hpq hq
  · obtain ⟨a, b, c⟩ := h5 hs
    exact ⟨GMx_cg hO a, GMn_cg hO b, GMx_cg hO c⟩
theorem GMx_add {E : EE} {O : Nat → Int} {l e : Nat} {f : Nat → Int} {x : Int} (he : e < eN E) (hn : O e ≠ (l : Int)) (hg : GMx E O l f x) : GMx E (fU O e l) l f (max x (f e)) := by
  obtain ⟨h1, k, h2, h3, h4⟩ := hg
  refine ⟨fun j hj hO => ?_, ?_⟩
  · by_cases c : j = e
    · rw [c]; omega
    · rw [fU_ne c] at hO
      have := h1 j hj hO
      omega
  · by_cases c : x < f e
    · exact ⟨e, he, fU_eq, by omega⟩
    · exact ⟨k, h2, by rw [fU_ne (fun z => hn (by rw [← z]; exact h3))]; exact h3, by omega⟩
theorem GMn_add {E : EE} {O : Nat → Int} {l e : Nat} {f : Nat → Int} {x : Int} (he : e < eN E) (hn : O e ≠ (l : Int)) (hg : GMn E O l f x) : GMn E (fU O e l) l f (min x (f e)) := by
  obtain ⟨h1, k, h2, h3, h4⟩ := hg
  refine ⟨fun j hj hO => ?_, ?_⟩
  · by_cases c : j = e
    · rw [c]; omega
    · rw [fU_ne c] at hO
      have := h1 j hj hO
      omega
  · by_cases c : f e < x
    · exact ⟨e, he, fU_eq, by omega⟩
    · exact ⟨k, h2, by rw [fU_ne (fun z => hn (by rw [← z]; exact h3))]; exact h3, by omega⟩
theorem GMx_one {E : EE} {O : Nat → Int} {l e : Nat} {f : Nat → Int} (he : e < eN E) (h0 : ∀ k, k < eN E → O k ≠ (l : Int)) : GMx E (fU O e l) l f (f e) := by
  refine ⟨fun j hj hO => ?_, e, he, fU_eq, rfl⟩
  by_cases c : j = e
  · rw [c]; omega
  · rw [fU_ne c] at hO
    exact absurd hO (h0 j hj)
theorem GMn_one {E : EE} {O : Nat → Int} {l e : Nat} {f : Nat → Int} (he : e < eN E) (h0 : ∀ k, k < eN E → O k ≠ (l : Int)) : GMn E (fU O e l) l f (f e) := by
  refine ⟨fun j hj hO => ?_, e, he, fU_eq, rfl⟩
  by_cases c : j = e
  · rw [c]; omega
  · rw [fU_ne c] at hO
    exact absurd hO (h0 j hj)
/-- an entry comes to a life -/
theorem LR_add {E : EE} {O : Nat → Int} {l s h e : Nat} {f : Nat → Int} {x y z : Int} (he : e < eN E) (hn : O e ≠ (l : Int)) (hh : h ≤ s) (hk : eK E e ≠ 1 → h = s) (hw : eK E e = 1 → ∀ k, k < eN E → O k = (l : Int) → eK E k = 1 → k < e) (hg : LR E O l s h f x y z) : LR E (fU O e l) l (s + 1) (if eK E e = 1 then h else h + 1) (fU f s e) (if s = 0 then sF E e else max x (sF E e)) (if s = 0 then sL E e else min y (sL E e)) (if s = 0 then eY E e else max z (eY E e)) := by
  obtain ⟨⟨h1, h2, h3, h4⟩, h5⟩ := hg
  refine ⟨⟨fun p hp => ?_, fun p q hp hq ee => ?_, fun k hkN ho => ?_, fun p q hp hpq hq => ?_⟩, fun hs => ?_⟩
  · by_cases c : p = s
    · subst c
      refine ⟨e, fU_eq, he, fU_eq, ?_⟩
      by_cases d : eK E e = 1
      · rw [if_pos d]; omega
      · rw [if_neg d]; have := hk d; omega
    · obtain ⟨k, a1, a2, a3, a4⟩ := h1 p (by omega)
      have hke : k ≠ e := fun q => hn (by rw [← q]; exact a3)
      refine ⟨k, by rw [fU_ne c]; exact a1, a2, by rw [fU_ne hke]; exact a3, ?_⟩
      by_cases d : eK E e = 1
      · rw [if_pos d]; exact a4
      · rw [if_neg d]
        have := hk d
        rw [← a4]
        omega
  · by_cases c : p = s
    · by_cases d : q = s
      · omega
      · rw [c, fU_eq, fU_ne d] at ee
        obtain ⟨k, a1, a2, a3, -⟩ := h1 q (by omega)
        exact absurd (show O e = (l : Int) by rw [show e = k by omega]; exact a3) hn
    · by_cases d : q = s
      · rw [d, fU_eq, fU_ne c] at ee
        obtain ⟨k, a1, a2, a3, -⟩ := h1 p (by omega)
        exact absurd (show O e = (l : Int) by rw [show e = k by omega]; exact a3) hn
      · rw [fU_ne c, fU_ne d] at ee
        exact h2 p q (by omega) (by omega) ee
  · by_cases c : k = e
    · exact ⟨s, by omega, by rw [fU_eq, c]⟩
    · rw [fU_ne c] at ho
      obtain ⟨p, hp, e1⟩ := h3 k hkN ho
      exact ⟨p, by omega, by rw [fU_ne (by omega)]; exact e1⟩
  · by_cases d : eK E e = 1
    · rw [if_pos d] at hp
      by_cases c : q = s
      · rw [c, fU_eq, fU_ne (by omega)]
        obtain ⟨k, a1, a2, a3, a4⟩ := h1 p (by omega)
        have hk1 : eK E k = 1 := by
          by_cases z : eK E k = 1
          · exact z
          · have := a4.2 z; omega
        have := hw d k a2 a3 hk1
        omega
      · rw [fU_ne c, fU_ne (by omega)]
        exact h4 p q hp hpq (by omega)
    · rw [if_neg d] at hp
      have := hk d
      omega
  · by_cases c : s = 0
    · rw [if_pos c, if_pos c, if_pos c]
      have h0 : ∀ k, k < eN E → O k ≠ (l : Int) := fun k hkN ho => by
        obtain ⟨p, hp, -⟩ := h3 k hkN ho
        omega
      exact ⟨GMx_one he h0, GMn_one he h0, GMx_one he h0⟩
    · rw [if_neg c, if_neg c, if_neg c]
      obtain ⟨a, b, d⟩ := h5 (by omega)
      exact ⟨GMx_add he hn a, GMn_add he hn b, GMx_add he hn d⟩
theorem LR_none {E : EE} {O : Nat → Int} {l : Nat} {f : Nat → Int} {x y z : Int} (h0 : ∀ k, k < eN E → O k ≠ (l : Int)) : LR E O l 0 0 f x y z :=
  ⟨⟨fun p hp => absurd hp (Nat.not_lt_zero _), fun p q hp => absurd hp (Nat.not_lt_zero _), fun k hk ho => absurd ho (h0 k hk), fun p q _ _ hq => absurd hq (Nat.not_lt_zero _)⟩, fun hs => absurd hs (Nat.lt_irrefl _)⟩

/-! the reference: SHAKY, and what it tells of a life, of all lives -/
section MN
variable {E : EE} {P : Int → MS → Prop}
theorem sh_leaf {Q : Int → Prop} {f g h : Bool} (k : Q (bi (f || g || h))) : rng (bi f) ∧ (¬ bi f = 0 → Q 1) ∧ (bi f = 0 → rng (bi g) ∧ (¬ bi g = 0 → Q 1) ∧ (bi g = 0 → Q (bi h))) := by
  refine ⟨rng_bi f, fun c => ?_, fun c => ⟨rng_bi g, fun d => ?_, fun d => ?_⟩⟩
  · cases f
    · exact absurd rfl c
    · exact k
  · cases f
    · cases g
      · exact absurd rfl d
      · exact k
    · exact absurd c (by decide)
  · cases f
    · cases g
      · cases h <;> exact k
      · exact absurd d (by decide)
    · exact absurd c (by decide)
abbrev sh47 (P : Int → MS → Prop) (b d n : Nat) (lst : Int) (m : MS) (x : Int) : Prop := YYi mX10_isShaky 47 [some (vr 0), none, some (vi (b : Int)), some (vi (d : Int)), some (vi lst), some (vi x), some (vi (n : Int)), none, none] [] m P
theorem M_sh100 {m : MS} {b d n : Nat} {f g : Bool} (hR : RepM E m) (hW : WF E) (hb : b < eN E) (hd : d < eN E) (hn : n < eN E) (k : ∀ m', RepM E m' → Kp S14 m m' → sh47 P b d (n + 1) (sWo E b d - eB E 2) m' (bi (f || g || vH2 E b d n))) : YYi mX10_isShaky 100 [some (vr 0), none, some (vi (b : Int)), some (vi (d : Int)), some (vi (sWo E b d - eB E 2)), some (vi (bi f)), some (vi (n : Int)), none, none] [vi (bi g)] m P := by
  have h18 := hW.1
  obtain ⟨a1, -⟩ := hR.2.1 n hn
  obtain ⟨w1, -⟩ := hW.2.1 n hn
  have wb := hW.2.2.2.2.2.2
  have wo := sWo_b hW hb hd
  have wn := sWo_b hW hn hd
  refine uX10_isShaky_100 m _ _ _ _ _ _ ?_
  simp only [Int.toNat_natCast, a1]
  have go : ∀ (h : Bool) m1, RepM E m1 → Kp S14 m m1 → vH2 E b d n = h → sh47 P b d (n + 1) (sWo E b d - eB E 2) m1 (bi (f || g || h)) := by
    intro h m1 hR1 hk1 hh
    have := k m1 hR1 hk1
    rw [hh] at this
    exact this
  refine ⟨by omega, by omega, ⟨by omega, by omega⟩, fun c => ?_, fun c => ⟨⟨by omega, by omega⟩, ⟨by omega, by omega⟩, fun q => ?_, fun q => ?_⟩⟩
  · exact sh_leaf (Q := sh47 P b d (n + 1) (sWo E b d - eB E 2) m) (go false m hR Kp.rf (by simp [vH2, c]))
  · exact sh_leaf (Q := sh47 P b d (n + 1) (sWo E b d - eB E 2) m) (go false m hR Kp.rf (by simp [vH2, show n = b by omega]))
  · have q : n ≠ b := fun z => q (by omega)
    refine M_fit hR hW hn hd (fun m1 hR1 hk1 => ⟨fun hf => ⟨⟨by decide, by decide⟩, fun z => absurd z (by decide), fun _ => ?_⟩, fun hf => ⟨rng_0, fun _ => ?_, fun z => absurd rfl z⟩⟩)
    · refine M_worth hR1 hW hn hd (fun m2 hR2 hk2 => ⟨⟨by omega, by omega⟩, ⟨by omega, by omega⟩, fun y => ?_, fun y => ?_⟩)
      · exact sh_leaf (Q := sh47 P b d (n + 1) (sWo E b d - eB E 2) m2) (go false m2 hR2 (hk1.tr hk2) (by simp [vH2]; intros; omega))
      · exact sh_leaf (Q := sh47 P b d (n + 1) (sWo E b d - eB E 2) m2) (go true m2 hR2 (hk1.tr hk2) (by simp [vH2, q, hf, y]; omega))
    · exact sh_leaf (Q := sh47 P b d (n + 1) (sWo E b d - eB E 2) m1) (go false m1 hR1 hk1 (by simp [vH2, hf]))
theorem M_sh47 {b d : Nat} (hW : WF E) (hb : b < eN E) (hd : d < eN E) : ∀ (t n : Nat) (m : MS), RepM E m → n + t = eN E → (∀ m', RepM E m' → Kp S14 m m' → P (bi (vHn E b d (eN E))) m') → sh47 P b d n (sWo E b d - eB E 2) m (bi (vHn E b d n)) := by
  have h18 := hW.1
  intro t
  induction t with
  | zero =>
    intro n m hR hn hP
    have hn : n = eN E := by omega
    subst hn
    refine uX10_isShaky_47 m _ _ _ _ _ ?_
    rw [hR.1]
    exact ⟨⟨by omega, by omega⟩, ⟨by omega, by omega⟩, fun _ => ⟨bi_01 _, hP m hR Kp.rf⟩, fun z => by omega⟩
  | succ t ih =>
    intro n m hR hn hP
    have hnN : n < eN E := by omega
    obtain ⟨a1, -⟩ := hR.2.1 n hnN
    obtain ⟨w1, -⟩ := hW.2.1 n hnN
    have wb := hW.2.2.2.2.2.2
    have wo := sWo_b hW hb hd
    have wn := sWo_b hW hb hnN
    have go : ∀ (g : Bool) m1, RepM E m1 → Kp S14 m m1 → vH1 E b d n = g → YYi mX10_isShaky 100 [some (vr 0), none, some (vi (b : Int)), some (vi (d : Int)), some (vi (sWo E b d - eB E 2)), some (vi (bi (vHn E b d n))), some (vi (n : Int)), none, none] [vi (bi g)] m1 P := by
      intro g m1 hR1 hk1 hg
      refine M_sh100 hR1 hW hb hd hnN (fun m2 hR2 hk2 => ?_)
      have := ih (n + 1) m2 hR2 (by omega) (fun m3 a c => hP m3 a ((hk1.tr hk2).tr c))
      rw [vHn, hg] at this
      exact this
    refine uX10_isShaky_47 m _ _ _ _ _ ?_
    rw [hR.1]
    simp only [Int.toNat_natCast, a1]
    refine ⟨⟨by omega, by omega⟩, ⟨by omega, by omega⟩, fun z => by omega, fun _ => ⟨by omega, by omega, ⟨by omega, by omega⟩, fun c => ?_, fun c => ⟨⟨by omega, by omega⟩, fun q => ?_, fun q => ?_⟩⟩⟩
    · exact uX10_isShaky_99 m _ _ _ _ _ (go false m hR Kp.rf (by simp [vH1, c]))
    · exact uX10_isShaky_99 m _ _ _ _ _ (go false m hR Kp.rf (by simp [vH1, show n = d by omega]))
    · have q : n ≠ d := fun z => q (by omega)
      refine M_fit hR hW hb hnN (fun m1 hR1 hk1 => ⟨fun hf => ⟨⟨by decide, by decide⟩, fun z => absurd z (by decide), fun _ => ?_⟩, fun hf => ⟨rng_0, fun _ => ?_, fun z => absurd rfl z⟩⟩)
      · refine M_worth hR1 hW hb hnN (fun m2 hR2 hk2 => ⟨⟨by omega, by omega⟩, ⟨by omega, by omega⟩, fun y => ?_, fun y => ?_⟩)
        · exact uX10_isShaky_99 m2 _ _ _ _ _ (go false m2 hR2 (hk1.tr hk2) (by simp [vH1]; intros; omega))
        · exact go true m2 hR2 (hk1.tr hk2) (by simp [vH1, q, hf, y]; omega)
      · exact uX10_isShaky_99 m1 _ _ _ _ _ (go false m1 hR1 hk1 (by simp [vH1, hf]))
theorem M_isShaky {V : VV} {m : MS} {l : Nat} (hR : RepM E m) (hW : WF E) (hV : VM E V m) (hI : VI E V) (hvn : vN V ≤ 18) (hl : l < vN V) (hP : ∀ m', RepM E m' → Kp S14 m m' → P (bi (vH E V l)) m') : MMi mX10_isShaky [vr 0, vi (l : Int)] m P := by
  have h18 := hW.1
  obtain ⟨h1, h2, -⟩ := hI.2.1 l hl
  obtain ⟨q1, q2, -⟩ := hV.1.2 l hl
  have wb := hW.2.2.2.2.2.2
  refine uX10_isShaky m l ?_
  simp only [Int.toNat_natCast]
  rw [q1, q2]
  unfold vH at hP
  refine ⟨by omega, by omega, ⟨by rcases h1 with c | ⟨b, x, c, -⟩ <;> omega, by rcases h1 with c | ⟨b, x, c, -⟩ <;> omega⟩, fun c => ?_, fun c => ⟨⟨by rcases h2 with c | ⟨b, x, c, -⟩ <;> omega, by rcases h2 with c | ⟨b, x, c, -⟩ <;> omega⟩, fun d => ?_, fun d => ?_⟩⟩
  · have := hP m hR Kp.rf
    simp [c, bi] at this
    exact this
  · obtain ⟨b, x1, x2, -⟩ := h1.resolve_left c
    obtain ⟨d', y1, y2, -⟩ := h2.resolve_left d
    rw [x2, y2]
    rw [x2, y2, Int.toNat_natCast, Int.toNat_natCast, show decide ((b : Int) ≠ -1) = true by simp, show decide ((d' : Int) ≠ -1) = true by simp, Bool.true_and, Bool.true_and] at hP
    refine M_worth hR hW x1 y1 (fun m1 hR1 hk1 => ?_)
    have h8 : m1 8 (2 : Int).toNat = eB E 2 := hR1.2.2.2.2
    rw [h8]
    exact M_sh47 hW x1 y1 (eN E) 0 m1 hR1 (by omega) (fun m' a k => hP m' a (hk1.tr k))
  · have := hP m hR Kp.rf
    simp [d, bi] at this
    exact this
theorem M_shakyMany {V : VV} {m : MS} (hR : RepM E m) (hW : WF E) (hV : VM E V m) (hI : VI E V) (hvn : vN V ≤ 18) (hP : ∀ m', RepM E m' → Kp S14 m m' → P (vHm E V) m') : MMi mX10_shakyMany [vr 0] m P := by
  have loop : ∀ (t n : Nat) (m : MS), RepM E m → VM E V m → n + t = vN V → (∀ m', RepM E m' → Kp S14 m m' → P (vHm E V) m') → YYi mX10_shakyMany 4 [some (vr 0), some (vi (cnt (fun l => vH E V l) n)), some (vi (n : Int))] [] m P := by
    intro t
    induction t with
    | zero =>
      intro n m hR hV hn hP
      have hn : n = vN V := by omega
      subst hn
      refine uX10_shakyMany_4 m _ _ ?_
      rw [hV.1.1]
      exact ⟨⟨by omega, by omega⟩, ⟨by omega, by omega⟩, fun _ => hP m hR Kp.rf, fun z => by omega⟩
    | succ t ih =>
      intro n m hR hV hn hP
      refine uX10_shakyMany_4 m _ _ ?_
      rw [hV.1.1]
      refine ⟨⟨by omega, by omega⟩, ⟨by omega, by omega⟩, fun z => by omega, fun _ => ?_⟩
      refine M_isShaky hR hW hV hI hvn (by omega) (fun m1 hR1 hk1 => ?_)
      have := ih (n + 1) m1 hR1 (hV.k14 hk1) (by omega) (fun m' a k => hP m' a (hk1.tr k))
      rw [cnt] at this
      refine ⟨rng_bi _, fun c => ?_, fun c => ?_⟩
      · rw [if_neg (fun z => by rw [z] at c; exact absurd c (by decide))] at this
        exact this
      · have q : vH E V n = true := by
          cases q : vH E V n
          · rw [q] at c; exact absurd rfl c
          · rfl
        rw [if_pos q] at this
        exact this
  exact uX10_shakyMany m (loop (vN V) 0 m hR hV (by omega) hP)
theorem M_lifeNow {V : VV} {m : MS} {l : Nat} {w : Int} (hR : RepM E m) (hW : WF E) (hV : VM E V m) (hI : VI E V) (hvn : vN V ≤ 18) (hl : l < vN V) (hw : 0 ≤ w ∧ w ≤ 7) (hP : ∀ m', RepM E m' → Kp S14 m m' → P (vLn E V l w) m') : MMi mX10_lifeNow [vr 0, vi (l : Int), vi w] m P := by
  obtain ⟨q1, q2, q3⟩ := hV.1.2 l hl
  unfold vLn at hP
  refine uX10_lifeNow m l w ?_
  simp only [Int.toNat_natCast, q1, q2, q3]
  refine ⟨⟨by omega, by omega⟩, fun c => ?_, fun c => ⟨by omega, by omega, ?_⟩, fun c => ⟨by omega, by omega, ?_⟩, fun c => ⟨by omega, by omega, ?_⟩, fun c => ?_, fun c => ?_, fun c => ?_, fun c => ?_⟩
  · have := hP m hR Kp.rf
    rw [show w = 7 by omega] at this
    exact M_lastYear hR hW hV hI hvn (by omega) this
  · subst c; exact hP m hR Kp.rf
  · subst c; exact hP m hR Kp.rf
  · subst c; exact hP m hR Kp.rf
  · subst c; exact M_bornOf hR hW hV hI hvn (by omega) ⟨by decide, by decide⟩ (hP m hR Kp.rf)
  · subst c; exact M_bornOf hR hW hV hI hvn (by omega) rng_0 (hP m hR Kp.rf)
  · subst c
    refine M_isShaky hR hW hV hI hvn hl (fun m1 hR1 hk1 => ?_)
    have : P (bi (vH E V l)) m1 := hP m1 hR1 hk1
    refine ⟨rng_bi _, fun c => by rw [c] at this; exact this, fun c => ?_⟩
    rw [(bi_01 _).resolve_left c] at this
    exact this
  · subst c; exact M_entriesOf hR hW hV hI hvn (by omega) (hP m hR Kp.rf)
/-- the lives of a state of entries -/
theorem Vz_ok (hW : WF E) : VI E (sVz E) ∧ vN (sVz E) ≤ 18 ∧ ∀ l, vW (sVz E) l ≤ 3 := ⟨(Vl_ok hW (eN E) (Nat.le_refl _)).1, Vl_n hW (Nat.le_refl _), (Vl_ok hW (eN E) (Nat.le_refl _)).2.2.1⟩
theorem M_livesNow {m : MS} {w : Int} (hR : RepM E m) (hW : WF E) (h7 : W7 E) (hw : 0 ≤ w ∧ w ≤ 5) (hP : ∀ m', RepM E m' → MtM E m' → VM E (sVz E) m' → Kp SP m m' → P (sLs E w) m') : MMi mX10_livesNow [vr 0, vi w] m P := by
  obtain ⟨hI, hvn, -⟩ := Vz_ok hW
  refine uX10_livesNow m w ?_
  refine M_lives hR hW h7 (fun m1 hR1 hM1 hV1 hk1 => ?_)
  have h0 := hP m1 hR1 hM1 hV1 hk1
  have h1 : ∀ m', RepM E m' → Kp S14 m1 m' → P (sLs E w) m' := fun m' a k => hP m' a (hM1.k14 k) (hV1.k14 k) (hk1.tr k.sp)
  unfold sLs at h0 h1
  rw [hV1.1.1, hM1.2.2.1, hM1.2.2.2]
  refine ⟨⟨by omega, by omega⟩, fun c => ?_, fun c => ?_, fun c => ?_, fun c => ?_, fun c => ?_, fun c => ?_⟩
  · rw [show w = 5 by omega] at h0
    exact M_onlyMany hR1 hW hV1 hI hvn h0
  · subst c; exact h0
  · subst c; exact h0
  · subst c; exact h0
  · subst c; exact M_doubtful hR1 hW hV1 hI hvn h0
  · subst c; exact M_shakyMany hR1 hW hV1 hI hvn h1
end MN

/-! ===== PURE: the calls goes, least, needs, count ===== -/
/-- r is the first for which p holds, or -1 -/
def frst (p : Nat → Prop) (n : Nat) (r : Int32) : Prop := (∃ i, i < n ∧ p i ∧ (∀ j, j < i → ¬ p j) ∧ r = nI i) ∨ ((∀ j, j < n → ¬ p j) ∧ r = -1)
theorem frst_uniq {p : Nat → Prop} {n : Nat} {r r2 : Int32} (a : frst p n r) (b : frst p n r2) : r = r2 := by
  rcases a with ⟨i, hi, pi, ni, ei⟩ | ⟨na, ea⟩
  · rcases b with ⟨j, hj, pj, nj, ej⟩ | ⟨nb, eb⟩
    · rcases Nat.lt_trichotomy i j with z | z | z
      · exact absurd pi (nj i z)
      · rw [ei, ej, z]
      · exact absurd pj (ni j z)
    · exact absurd pi (nb i hi)
  · rcases b with ⟨j, hj, pj, nj, ej⟩ | ⟨nb, eb⟩
    · exact absurd pj (na j hj)
    · rw [ea, eb]
def cG (N rb n : Nat) (Ds : Nat → PD) (l : Nat) : Bool := decide (¬ wholeV N rb n Ds (nI l) ≤ 0)
theorem goers_ok {h : PH} {N rb n : Nat} {Ds : Nat → PD} {Q : Int32 → PH → Prop} (g : TG h N rb n Ds) (r2 : qR h 0 2 = some 7) (q : ∀ v, qU v = bs (cG N rb n Ds) 32 → Q v h) : wp_X11_goers 0 h Q := by
  refine loopR 32 (fun i s => s.2.1 = nI i ∧ s.2.2 = h ∧ qU s.1 = bs (cG N rb n Ds) i) (fun s => s.2.1.toNatClampNeg) ⟨rfl, rfl, rfl⟩ (fun i s hi p => by rw [p.1]; exact nI_clamp (by omega)) ?_ ?_
  · rintro i ⟨v, i', h'⟩ hi ⟨e1, e2, e3⟩ back hb
    dsimp only at e1 e2 e3
    subst e1 e2
    refine ⟨fun c => absurd c (nI_ge (b := 32) hi (by decide)), fun _ => ⟨7, r2, whole_ok g hi ⟨fun c w ew => hb _ ⟨by rw [ew]; exact nI_1 i, rfl, ?_⟩, fun c x ex w ew => hb _ ⟨by rw [ew]; exact nI_1 i, rfl, ?_⟩⟩⟩⟩
    · show qU v = bs _ i + _
      rw [if_neg (by unfold cG; simp; exact c)]; exact e3
    · show qU x = bs _ i + _
      rw [if_pos (by unfold cG; simp; exact i_nle.mp c), ex]; exact bs_or hi e3
  · rintro ⟨v, i', h'⟩ ⟨e1, e2, e3⟩ back
    dsimp only at e1 e2 e3
    subst e1 e2
    exact ⟨fun _ => q v e3, fun c => absurd (nI_le (Nat.le_refl 32) (by decide)) c⟩
/-- nothing but the laying has changed -/
theorem Inv.lay {h h2 : PH} {N rb n d e : Nat} {Ds : Nat → PD} (i : Inv h) (id : IDd h N rb n Ds d e) (f2 : Fg [] [(70, 0), (70, 20), (72, 0)] h h2) (dl : DrL h2 N rb n Ds) : Inv h2 := by
  obtain ⟨i0, i1, i2, i3, i4, i5, i6, i7, i8, i9, i10⟩ := i
  exact ⟨i0.fg f2 rfl, i1.ag (f2.ag rfl), ⟨N, rb, n, Ds, d, e, id.re (f2.ag rfl) dl⟩, i3.ag (f2.ag rfl), i4.ag (f2.ag rfl), i5.ag (f2.ag rfl), i6.ag (f2.ag rfl), i7.fg f2 rfl, i8.ag (f2.ag rfl), i9.ag (f2.ag rfl), i10.ag (f2.ag rfl)⟩
/-- the model begins: thrown = 0, lay() -/
theorem mlay {h h1 : PH} {N rb n d e : Nat} {Ds : Nat → PD} {Q : PH → Prop} (i : Inv h) (id : IDd h N rb n Ds d e) (e1 : h1 = qsI h 70 0 0) (q : ∀ h2, Inv h2 → Rm h h2 → DrM h2 N rb n Ds → Fg [] [(70, 0), (70, 20), (72, 0)] h h2 → Q h2) : wp_X12_lay 70 h1 Q := by
  have f1 : Fg [] [(70, 0)] h h1 := by rw [e1]; exact Fg.sI _ _ _ _
  refine lay_ok (id.2.2.1.ag (f1.ag rfl)) (fun h2 f2 dm dl => ?_)
  have f : Fg [] [(70, 0), (70, 20), (72, 0)] h h2 := f1.tr f2 rfl rfl
  exact q h2 (i.lay id f dl) f.rm dm f
theorem m1_of {x : Int32} (h1 : ¬ x < -1) (h2 : x < 0) : x = -1 := by
  apply Int32.toInt_inj.mp
  rw [Int32.lt_iff_toInt_lt] at h1 h2
  have : (-1 : Int32).toInt = -1 := rfl
  have : (0 : Int32).toInt = 0 := rfl
  omega
theorem op_goes {h : PH} (i : Inv h) (x : Int32) : wp_X11_goes 0 x h (fun r h1 => wp_X12_goes 70 x h1 (Both h r)) := by
  obtain ⟨N, rb, n, Ds, d, e, id⟩ := i.2.2.1
  have sh := i.1
  have g := id.2.2.2.1
  have r2 : qR h 0 2 = some 7 := sh.R 0 2 7 (by decide)
  have nb : ¬ ((1 : Int32) = 0) := by decide
  refine ⟨fun c1 => isLaw_ok (fun L hL eL => ⟨fun _ => ⟨7, r2, ?_⟩, fun z => absurd z nb⟩) (fun no => ⟨fun z => absurd rfl z, fun _ h1 e1 => mlay i id e1 (fun h2 i2 rm dm f2 => ⟨fun _ => ⟨rfl, i2, rm⟩, fun c2 => ⟨fun c3 => ?_, fun _ => ⟨rfl, i2, rm⟩⟩⟩)⟩), fun c1 => goers_ok g r2 (fun v ev => bitc_ok ?_)⟩
  · subst eL
    refine whole_ok g hL ⟨fun c => ?_, fun c => ?_⟩
    · intro h1 e1
      refine mlay i id e1 (fun h2 i2 rm dm f2 => ⟨fun z => absurd (by rw [Int32.lt_iff_toInt_lt] at z ⊢; have e0 : (0 : Int32).toInt = 0 := rfl; have e1 : (-1 : Int32).toInt = -1 := rfl; omega) (nI_pos (n := L) (by omega)), fun _ => ⟨fun _ => ⟨fun z => absurd z c1, fun _ => mwhole_ok dm ⟨fun _ => ⟨rfl, i2, rm⟩, fun z => absurd c z⟩⟩, fun z => absurd (nI_lt (b := 32) hL (by decide)) z⟩⟩)
    · intro h1 e1
      refine mlay i id e1 (fun h2 i2 rm dm f2 => ⟨fun z => absurd (by rw [Int32.lt_iff_toInt_lt] at z ⊢; have e0 : (0 : Int32).toInt = 0 := rfl; have e1 : (-1 : Int32).toInt = -1 := rfl; omega) (nI_pos (n := L) (by omega)), fun _ => ⟨fun _ => ⟨fun z => absurd z c1, fun _ => mwhole_ok dm ⟨fun z => absurd z c, fun _ => ⟨rfl, i2, rm⟩⟩⟩, fun z => absurd (nI_lt (b := 32) hL (by decide)) z⟩⟩)
  · exfalso
    have c4 : ¬ x < 0 := fun z => c1 (m1_of c2 z)
    obtain ⟨j, hj, ej⟩ := nI_of c4
    rw [ej] at c3
    exact no j ((nI_ltI (b := 32) hj (by decide)).mp c3) ej
  · intro h1 e1
    subst c1
    refine mlay i id e1 (fun h2 i2 rm dm f2 => ⟨fun z => absurd z (by decide), fun _ => ⟨fun _ => ⟨fun _ => ?_, fun z => absurd rfl z⟩, fun z => absurd (by decide) z⟩⟩)
    rw [ev, pc_bs]
    refine loopR 32 (fun k s => s = (nI (cn (cG N rb n Ds) k), nI k, h2)) (fun s => s.2.1.toNatClampNeg) rfl (fun k s hk p => by rw [p]; exact nI_clamp (by omega)) ?_ ?_
    · intro k s hk p back hb
      subst p
      refine ⟨fun c => absurd c (nI_ge (b := 32) hk (by decide)), fun _ => mwhole_ok dm ⟨fun c w ew => hb _ ?_, fun c x ex w ew => hb _ ?_⟩⟩
      · rw [ew, nI_1]
        show _ = (nI (cn _ k + _), _, _)
        rw [if_neg (by unfold cG; simp; exact c)]; rfl
      · rw [ew, ex, nI_1, nI_1]
        show _ = (nI (cn _ k + _), _, _)
        rw [if_pos (by unfold cG; simp; exact i_nle.mp c)]
    · intro s p back
      subst p
      exact ⟨fun _ => ⟨rfl, i2, rm⟩, fun c => absurd (nI_le (Nat.le_refl 32) (by decide)) c⟩
/-- o is a set within l -/
def sbB (o l : Nat) : Bool := decide (o &&& l = o)
theorem sb_c : ∀ l, l < 32 → ∀ o, o < 32 → ((nI o &&& nI l) = nI o ↔ sbB o l = true) := by decide +kernel
theorem sb_m : ∀ l, l < 32 → ∀ o, o < 32 → ((nI o &&& (nI l ^^^ (-1))) = 0 ↔ sbB o l = true) := by decide +kernel
def lsB (c : Nat → Bool) (l : Nat) : Prop := c l = true ∧ ∀ o, o < l → ¬ (sbB o l = true ∧ c o = true)
theorem bs_get {c : Nat → Bool} {v : Int32} {l : Nat} (e : qU v = bs c 32) (hl : l < 32) : q_ushr v (nI l) &&& 1 = 0 ↔ c l = false := by
  rw [bit_of hl, e, bs_bit c 32 hl]
  cases c l <;> decide
theorem isLeastOf_ok {h : PH} {c : Nat → Bool} {v : Int32} {l : Nat} {Q : Int32 → PH → Prop} (e : qU v = bs c 32) (hl : l < 32) (q1 : lsB c l → Q 1 h) (q0 : ¬ lsB c l → Q 0 h) : wp_X11_isLeastOf v (nI l) h Q := by
  refine ⟨fun c1 => ?_, fun c1 => q0 (fun z => by have := z.1; rw [(bs_get e hl).mp c1] at this; cases this)⟩
  have cl : c l = true := by
    cases hc : c l with
    | true => rfl
    | false => exact absurd ((bs_get e hl).mpr hc) c1
  refine loopR l (fun o s => s = (nI o, h) ∧ ∀ j, j < o → ¬ (sbB j l = true ∧ c j = true)) (fun s => s.1.toNatClampNeg) ⟨rfl, fun j hj => absurd hj (Nat.not_lt_zero j)⟩ (fun o s ho p => by rw [p.1]; exact nI_clamp (by omega)) ?_ ?_
  · rintro o s ho ⟨p, np⟩ back hb
    subst p
    have more : ¬ (sbB o l = true ∧ c o = true) → ∀ w, w = nI o + 1 → back (w, h) := fun z w ew => hb _ ⟨by rw [ew]; show _ = (nI (o + 1), h); rw [nI_1], fun j hj => by
      rcases (show j < o ∨ j = o by omega) with y | y
      · exact np j y
      · rw [y]; exact z⟩
    refine ⟨fun z => absurd z (nI_ge ho (by omega)), fun _ => ⟨fun c2 w ew => more (fun z => c2 ((sb_c l hl o (by omega)).mpr z.1)) w ew, fun c2 => ⟨fun c3 w ew => more (fun z => by have := z.2; rw [(bs_get e (by omega)).mp c3] at this; cases this) w ew, fun c3 => q0 (fun z => z.2 o ho ⟨(sb_c l hl o (by omega)).mp c2, ?_⟩)⟩⟩⟩
    cases hc : c o with
    | true => rfl
    | false => exact absurd ((bs_get e (by omega)).mpr hc) c3
  · rintro s ⟨p, np⟩ back
    subst p
    exact ⟨fun _ => q1 ⟨cl, np⟩, fun z => absurd (nI_le (Nat.le_refl l) (by omega)) z⟩
theorem mLeast_ok {h : PH} {N rb n l : Nat} {Ds : Nat → PD} {Q : Int32 → PH → Prop} (dm : DrM h N rb n Ds) (hl : l < 32) (q1 : lsB (cG N rb n Ds) l → Q 1 h) (q0 : ¬ lsB (cG N rb n Ds) l → Q 0 h) : wp_X12_isLeast 70 (nI l) h Q := by
  refine mwhole_ok dm ⟨fun c1 => ?_, fun c1 => q0 (fun z => by have := z.1; unfold cG at this; simp at this; exact c1 this)⟩
  have cl : cG N rb n Ds l = true := by unfold cG; simp; exact c1
  refine loopR l (fun o s => s = (nI o, h) ∧ ∀ j, j < o → ¬ (sbB j l = true ∧ cG N rb n Ds j = true)) (fun s => s.1.toNatClampNeg) ⟨rfl, fun j hj => absurd hj (Nat.not_lt_zero j)⟩ (fun o s ho p => by rw [p.1]; exact nI_clamp (by omega)) ?_ ?_
  · rintro o s ho ⟨p, np⟩ back hb
    subst p
    have more : ¬ (sbB o l = true ∧ cG N rb n Ds o = true) → ∀ w, w = nI o + 1 → back (w, h) := fun z w ew => hb _ ⟨by rw [ew]; show _ = (nI (o + 1), h); rw [nI_1], fun j hj => by
      rcases (show j < o ∨ j = o by omega) with y | y
      · exact np j y
      · rw [y]; exact z⟩
    refine ⟨fun z => absurd z (nI_ge ho (by omega)), fun _ => ⟨fun c2 w ew => more (fun z => c2 ((sb_m l hl o (by omega)).mpr z.1)) w ew, fun c2 => mwhole_ok dm ⟨fun c3 w ew => more (fun z => by have := z.2; unfold cG at this; simp at this; exact absurd c3 (i_nle.mpr this)) w ew, fun c3 => q0 (fun z => z.2 o ho ⟨(sb_m l hl o (by omega)).mp c2, by unfold cG; simp; exact i_nle.mp c3⟩)⟩⟩⟩
  · rintro s ⟨p, np⟩ back
    subst p
    exact ⟨fun _ => q1 ⟨cl, np⟩, fun z => absurd (nI_le (Nat.le_refl l) (by omega)) z⟩
noncomputable def lsD (c : Nat → Bool) (l : Nat) : Bool := @decide (lsB c l) (Classical.propDecidable _)
theorem lsD_iff (c : Nat → Bool) (l : Nat) : lsD c l = true ↔ lsB c l := by
  unfold lsD
  exact @decide_eq_true_iff _ (Classical.propDecidable _)
theorem op_least {h : PH} (i : Inv h) (x : Int32) : wp_X11_least 0 x h (fun r h1 => wp_X12_least 70 x h1 (Both h r)) := by
  obtain ⟨N, rb, n, Ds, d, e, id⟩ := i.2.2.1
  have sh := i.1
  have g := id.2.2.2.1
  have r2 : qR h 0 2 = some 7 := sh.R 0 2 7 (by decide)
  refine goers_ok g r2 (fun v ev => ?_)
  generalize hc : cG N rb n Ds = c at *
  let p : Nat → Prop := fun l => lsB c l ∧ nI (cn (lsD c) l) = x
  have mod : ∀ r, frst p 32 r → ∀ h1, h1 = qsI h 70 0 0 → wp_X12_lay 70 h1 (fun h2 => qLoop (wp_X12_least_13 70 x (Both h r)) (x, 0, h2)) := by
    intro r fr h1 e1
    refine mlay i id e1 (fun h2 i2 rm dm f2 => ?_)
    have fin : ∀ r2, frst p 32 r2 → Both h r r2 h2 := fun r2 f2 => ⟨frst_uniq fr f2, i2, rm⟩
    by_cases x0 : x < 0
    · have neg : frst p 32 (-1) := Or.inr ⟨fun j hj z => nI_pos (n := cn (lsD c) j) (by have := cn_le (lsD c) j; omega) (by rw [z.2]; exact x0), rfl⟩
      exact ⟨fun s => s = (x, 0, h2), fun _ => 0, rfl, fun s e => by
        subst e
        exact ⟨fun _ => fin _ neg, fun _ => ⟨fun _ => fin _ neg, fun z => absurd x0 z⟩⟩⟩
    · obtain ⟨m, hm, em⟩ := nI_of x0
      refine loopR 32 (fun k s => s.2.1 = nI k ∧ s.2.2 = h2 ∧ cn (lsD c) k ≤ m ∧ s.1 = nI (m - cn (lsD c) k) ∧ ∀ j, j < k → ¬ p j) (fun s => s.2.1.toNatClampNeg) ⟨rfl, rfl, Nat.zero_le _, em, fun j hj => absurd hj (Nat.not_lt_zero j)⟩ (fun k s hk q => by rw [q.1]; exact nI_clamp (by omega)) ?_ ?_
      · rintro k ⟨a, b, h'⟩ hk ⟨q1, q2, q3, q4, q5⟩ back hb
        dsimp only at q1 q2 q3 q4
        subst q1 q2
        have hmore : ∀ a2, cn (lsD c) (k + 1) ≤ m → a2 = nI (m - cn (lsD c) (k + 1)) → ¬ p k → ∀ w, w = nI k + 1 → back (a2, w, h') := fun a2 y1 y2 y3 w ew => hb _ ⟨by rw [ew]; exact nI_1 k, rfl, y1, y2, fun j hj => by
          rcases (show j < k ∨ j = k by omega) with y | y
          · exact q5 j y
          · rw [y]; exact y3⟩
        have pk : lsB c k → (p k ↔ cn (lsD c) k = m) := fun l => ⟨fun z => nI_inj (by have := cn_le (lsD c) k; omega) hm (by rw [z.2, em]), fun z => ⟨l, by rw [z, em]⟩⟩
        subst hc
        refine ⟨fun z => absurd z (nI_ge (b := 32) hk (by decide)), fun _ => ⟨fun z => absurd z x0, fun _ => mLeast_ok dm hk (fun l => ⟨fun _ => ⟨fun c2 w ew w2 ew2 => ?_, fun c2 => fin _ (Or.inl ⟨k, hk, (pk l).mpr ?_, q5, rfl⟩)⟩, fun z => absurd z (by decide)⟩) (fun l => ⟨fun z => absurd rfl z, fun _ w ew => ?_⟩)⟩⟩
        · rw [q4] at c2 ew
          have cs : cn (lsD (cG N rb n Ds)) (k + 1) = cn (lsD (cG N rb n Ds)) k + 1 := by
            show cn _ k + _ = _
            rw [if_pos ((lsD_iff _ k).mpr l)]
          have lt : cn (lsD (cG N rb n Ds)) k < m := by
            rcases Nat.lt_or_ge (cn (lsD (cG N rb n Ds)) k) m with z | z
            · exact z
            · exact absurd (by rw [show m - cn (lsD (cG N rb n Ds)) k = 0 by omega]; rfl) c2
          refine hmore w (by omega) ?_ (fun z => by have := (pk l).mp z; omega) w2 ew2
          rw [ew, cs]
          obtain ⟨y, ey⟩ : ∃ y, m - cn (lsD (cG N rb n Ds)) k = y + 1 := ⟨m - cn (lsD (cG N rb n Ds)) k - 1, by omega⟩
          rw [ey, show m - (cn (lsD (cG N rb n Ds)) k + 1) = y by omega]
          rw [← Int32.sub_eq_add_neg]; exact nI_pred y
        · rw [q4] at c2
          have := nI_inj (b := 0) (by omega) (by decide) c2
          omega
        · have cs : cn (lsD (cG N rb n Ds)) (k + 1) = cn (lsD (cG N rb n Ds)) k := by
            show cn _ k + _ = _
            rw [if_neg (fun z => l ((lsD_iff _ k).mp z))]; rfl
          exact hmore a (by omega) (by rw [cs]; exact q4) (fun z => l z.1) w ew
      · rintro ⟨a, b, h'⟩ ⟨q1, q2, q3, q4, q5⟩ back
        dsimp only at q1 q2 q3 q4
        subst q1 q2
        exact ⟨fun _ => fin _ (Or.inr ⟨q5, rfl⟩), fun z => absurd (nI_le (Nat.le_refl 32) (by decide)) z⟩
  refine loopR 32 (fun k s => s = (nI (cn (lsD c) k), nI k, h) ∧ ∀ j, j < k → ¬ p j) (fun s => s.2.1.toNatClampNeg) ⟨rfl, fun j hj => absurd hj (Nat.not_lt_zero j)⟩ (fun k s hk q => by rw [q.1]; exact nI_clamp (by omega)) ?_ ?_
  · rintro k s hk ⟨q1, q5⟩ back hb
    subst q1
    have hmore : ∀ a2, a2 = nI (cn (lsD c) (k + 1)) → ¬ p k → ∀ w, w = nI k + 1 → back (a2, w, h) := fun a2 y2 y3 w ew => hb _ ⟨by rw [ew, y2, nI_1], fun j hj => by
      rcases (show j < k ∨ j = k by omega) with y | y
      · exact q5 j y
      · rw [y]; exact y3⟩
    refine ⟨fun z => absurd z (nI_ge (b := 32) hk (by decide)), fun _ => isLeastOf_ok ev hk (fun l => ⟨fun z => absurd z (by decide), fun _ => ⟨fun c2 w ew w2 ew2 => hmore w ?_ (fun z => c2 z.2) w2 ew2, fun c2 => mod _ (Or.inl ⟨k, hk, ⟨l, c2⟩, q5, rfl⟩)⟩⟩) (fun l => ⟨fun _ w ew => hmore _ ?_ (fun z => l z.1) w ew, fun z => absurd rfl z⟩)⟩
    · rw [ew, nI_1]
      show _ = nI (cn _ k + _)
      rw [if_pos ((lsD_iff _ k).mpr l)]
    · show _ = nI (cn _ k + _)
      rw [if_neg (fun z => l ((lsD_iff _ k).mp z))]; rfl
  · rintro s ⟨q1, q5⟩ back
    subst q1
    exact ⟨fun _ => mod _ (Or.inr ⟨q5, rfl⟩), fun z => absurd (nI_le (Nat.le_refl 32) (by decide)) z⟩
/-! needs -/
def ndB (N : Nat) (Ds : Nat → PD) (law : Int32) (k : Nat) : Bool := decide (qsum (fun t => gv (Ds k) N t law) N ≠ qsum (fun t => gv (Ds k) N t 0) N)
theorem prt {h : PH} {N rb n d e : Nat} {Ds : Nat → PD} (sh : Shp h) (id : IDd h N rb n Ds d e) : qR h d 0 = some (d + 1) ∧ qL h (d + 1) = 12 ∧ ∀ j, j < 12 → qR h (d + 1) j = some (d + 2 + j) := by
  rcases id.1.2.2 with q | q
  · rw [q.1]
    exact ⟨sh.R 26 0 27 (by decide), sh.L 27 (by decide) rfl, fun j hj => (sh.2.2.2 j hj).1⟩
  · rw [q.1]
    exact ⟨sh.R 40 0 41 (by decide), sh.L 41 (by decide) rfl, fun j hj => (sh.2.2.2 j hj).2⟩
theorem csum_ok {h : PH} {N rb n d e k : Nat} {Ds : Nat → PD} {law : Int32} {Q : Int32 → PH → Prop} (id : IDd h N rb n Ds d e) (hk : k < n) (q : Q (qsum (fun t => gv (Ds k) N t law) N) h) : wp_X4_sumWith (d + 2 + k) law (nI N) h Q := by
  have hN := id.2.2.1.1.2.2.2.1
  refine sum_ok (by omega) ?_
  rw [qsum_cong (fun t ht => pGive_e (id.2.1.2.2.2 k hk) (nI t) law (nI N))]
  exact q
theorem needsC {h : PH} {N rb n d e : Nat} {Ds : Nat → PD} {law : Int32} {Q : Int32 → PH → Prop} (sh : Shp h) (id : IDd h N rb n Ds d e) (q : ∀ v, qU v = bs (ndB N Ds law) n → Q v h) : qLoop (wp_X11_needs_27 0 law Q) (0, 0, h) := by
  have hn := id.2.2.1.2.2.2.1.1
  obtain ⟨p1, p2, p3⟩ := prt sh id
  have r10 := id.1.1
  have eN := id.2.1.2.1
  refine loopR n (fun k s => s.2.1 = nI k ∧ s.2.2 = h ∧ qU s.1 = bs (ndB N Ds law) k) (fun s => s.2.1.toNatClampNeg) ⟨rfl, rfl, rfl⟩ (fun i s hi p => by rw [p.1]; exact nI_clamp (by omega)) ?_ ?_
  · rintro k ⟨v, k', h'⟩ hk ⟨e1, e2, e3⟩ back hb
    dsimp only at e1 e2 e3
    subst e1 e2
    refine ⟨d, r10, fun c => ?_, fun c => ⟨d, r10, d + 1, p1, by rw [p2]; exact vp_in_nI (by omega) (by omega), d + 2 + k, by rw [nI_clamp (by omega)]; exact p3 k (by omega), d, r10, ?_⟩⟩
    · rw [id.2.1.1] at c
      exact absurd c (nI_ge hk (by omega))
    · rw [eN]
      refine csum_ok id hk ⟨d, r10, ?_⟩
      rw [eN]
      refine csum_ok id hk ⟨fun c w ew => hb _ ⟨by rw [ew]; exact nI_1 k, rfl, ?_⟩, fun c x ex w ew => hb _ ⟨by rw [ew]; exact nI_1 k, rfl, ?_⟩⟩
      · show qU v = bs _ k + _
        rw [if_neg (by unfold ndB; simp; exact c)]; exact e3
      · show qU x = bs _ k + _
        rw [if_pos (by unfold ndB; simp; exact c), ex]; exact bs_or (by omega) e3
  · rintro ⟨v, k', h'⟩ ⟨e1, e2, e3⟩ back
    dsimp only at e1 e2 e3
    subst e1 e2
    refine ⟨d, r10, fun _ => q v e3, fun c => ?_⟩
    rw [id.2.1.1] at c
    exact absurd (nI_le (Nat.le_refl n) (by omega)) c
theorem needsM {h : PH} {N rb n : Nat} {Ds : Nat → PD} {law : Int32} {Q : Int32 → PH → Prop} (dm : DrM h N rb n Ds) (q : ∀ v, qU v = bs (ndB N Ds law) n → Q v h) : qLoop (wp_X12_needs_36 70 law Q) (0, 0, h) := by
  have hn := dm.2.2.2.1
  have en : qI h 74 (0 : Int32).toNatClampNeg = nI n := by rw [c0_n]; exact dm.2.2.1.2.2
  refine loopR n (fun k s => s.2.1 = nI k ∧ s.2.2 = h ∧ qU s.1 = bs (ndB N Ds law) k) (fun s => s.2.1.toNatClampNeg) ⟨rfl, rfl, rfl⟩ (fun i s hi p => by rw [p.1]; exact nI_clamp (by omega)) ?_ ?_
  · rintro k ⟨v, k', h'⟩ hk ⟨e1, e2, e3⟩ back hb
    dsimp only at e1 e2 e3
    subst e1 e2
    have ok := dm.2.2.2.2.2 k hk
    refine ⟨74, dm.2.2.1.1, in0 dm.2.2.1.2.1 (by decide) (by decide), fun c => ?_, fun c => msum_ok dm.1 (by omega) ok.1 ok.2 (msum_ok dm.1 (by omega) ok.1 ok.2 ⟨fun c w ew => hb _ ⟨by rw [ew]; exact nI_1 k, rfl, ?_⟩, fun c x ex w ew => hb _ ⟨by rw [ew]; exact nI_1 k, rfl, ?_⟩⟩)⟩
    · rw [en] at c
      exact absurd c (nI_ge hk (by omega))
    · show qU v = bs _ k + _
      rw [if_neg (by unfold ndB; simp; exact c)]; exact e3
    · show qU x = bs _ k + _
      rw [if_pos (by unfold ndB; simp; exact c), ex]; exact bs_or (by omega) e3
  · rintro ⟨v, k', h'⟩ ⟨e1, e2, e3⟩ back
    dsimp only at e1 e2 e3
    subst e1 e2
    refine ⟨74, dm.2.2.1.1, in0 dm.2.2.1.2.1 (by decide) (by decide), fun _ => q v e3, fun c => ?_⟩
    rw [en] at c
    exact absurd (nI_le (Nat.le_refl n) (by omega)) c
theorem op_needs {h : PH} (i : Inv h) (x : Int32) : wp_X11_needs 0 x h (fun r h1 => wp_X12_needs 70 x h1 (Both h r)) := by
  obtain ⟨N, rb, n, Ds, d, e, id⟩ := i.2.2.1
  have sh := i.1
  have go : (x = 1 ∨ x = 2 ∨ x = 4 ∨ x = 8) → qLoop (wp_X11_needs_27 0 x (fun r h1 => wp_X12_needs 70 x h1 (Both h r))) (0, 0, h) := fun hx => needsC sh id (fun v ev h1 e1 => mlay i id e1 (fun h2 i2 rm dm f2 => by
    have m : qLoop (wp_X12_needs_36 70 x (Both h v)) (0, 0, h2) := needsM dm (fun w ew => ⟨qU_inj (by rw [ev, ew]), i2, rm⟩)
    refine ⟨fun _ => m, fun c1 => ⟨fun _ => m, fun c2 => ⟨fun _ => m, fun c3 => ⟨fun _ => m, fun c4 => ?_⟩⟩⟩⟩
    rcases hx with z | z | z | z
    · exact absurd z c1
    · exact absurd z c2
    · exact absurd z c3
    · exact absurd z c4))
  refine ⟨fun c => go (Or.inl c), fun c1 => ⟨fun c => go (Or.inr (Or.inl c)), fun c2 => ⟨fun c => go (Or.inr (Or.inr (Or.inl c))), fun c3 => ⟨fun c => go (Or.inr (Or.inr (Or.inr c))), fun c4 h1 e1 => mlay i id e1 (fun h2 i2 rm dm f2 => ⟨fun z => absurd z c1, fun _ => ⟨fun z => absurd z c2, fun _ => ⟨fun z => absurd z c3, fun _ => ⟨fun z => absurd z c4, fun _ => ⟨rfl, i2, rm⟩⟩⟩⟩⟩)⟩⟩⟩⟩
/-! count -/
theorem op_count {h : PH} (i : Inv h) (x : Int32) : wp_X11_count 0 x h (fun r h1 => wp_X12_count 70 x h1 (Both h r)) := by
  obtain ⟨N, rb, n, Ds, d, e, id⟩ := i.2.2.1
  have sh := i.1
  have r10 := id.1.1
  have tp := i.2.1
  have z0 : ∀ {P : Prop}, x = 0 → (¬ x = 0 → P) := fun a b => absurd a b
  -- what the model answers, given each
  have mod : ∀ r : Int32, (x = 0 → r = nI n) → (x = 1 → r = nI N) → (x = 2 → r = nI rb) → (x = 3 → r = nI (cn (fun k => decide (qI h 77 k ≠ 0)) 6)) → (x = 4 → r = qI h 70 2) → (¬ x = 0 → ¬ x = 1 → ¬ x = 2 → ¬ x = 3 → ¬ x = 4 → r = -1) → wp_X12_count 70 x h (Both h r) := by
    intro r a0 a1 a2 a3 a4 a5 h1 e1
    refine mlay i id e1 (fun h2 i2 rm dm f2 => ⟨fun c => ⟨74, dm.2.2.1.1, in0 dm.2.2.1.2.1 (by decide) (by decide), by rw [c0_n, dm.2.2.1.2.2]; exact a0 c, i2, rm⟩, fun c => ⟨72, dm.1.1, in08 dm.1, by rw [c0_n, dm.1.2.2.1]; exact a1 c, i2, rm⟩, fun c => ⟨73, dm.2.1.1, in0 dm.2.1.2.1 (by decide) (by decide), by rw [c0_n, dm.2.1.2.2]; exact a2 c, i2, rm⟩, fun c => ?_, fun c => ⟨by rw [f2.I rfl]; exact a4 c, i2, rm⟩, fun c0 c1 c2 c3 c4 => ⟨a5 c0 c1 c2 c3 c4, i2, rm⟩⟩)
    have s2 := i2.1
    rw [a3 c]
    refine loopR 6 (fun k s => s = (nI (cn (fun k => decide (qI h 77 k ≠ 0)) k), nI k, h2)) (fun s => s.2.1.toNatClampNeg) rfl (fun k s hk p => by rw [p]; exact nI_clamp (by omega)) ?_ ?_
    · intro k s hk p back hb
      subst p
      have e77 : qI h2 77 k = qI h 77 k := (f2.ag (C := [77]) (G := []) rfl).I rfl k
      refine ⟨fun c => absurd c (nI_ge (b := 6) hk (by decide)), fun _ => ⟨77, s2.R 70 19 77 (by decide), by rw [s2.L 77 (n := 6) (by decide) rfl]; exact vp_in_nI hk (by decide), fun c w ew => hb _ ?_, fun c y ey w ew => hb _ ?_⟩⟩
      · rw [nI_clamp (by omega), e77] at c
        rw [ew, nI_1]
        show _ = (nI (cn _ k + _), _, _)
        rw [if_neg (by simp; exact c)]; rfl
      · rw [nI_clamp (by omega), e77] at c
        rw [ew, ey, nI_1, nI_1]
        show _ = (nI (cn _ k + _), _, _)
        rw [if_pos (by simp; exact c)]
    · intro s p back
      subst p
      exact ⟨fun _ => ⟨rfl, i2, rm⟩, fun c => absurd (nI_le (Nat.le_refl 6) (by decide)) c⟩
  obtain ⟨len, _, l1, l2, _⟩ := tp
  have ne : ∀ {a b : Int32}, x = a → a ≠ b → ∀ {P : Prop}, (x = b → P) := fun u v _ w => absurd (u.symm.trans w) v
  refine ⟨fun c => ⟨d, r10, mod _ (fun _ => id.2.1.1) (ne c (by decide)) (ne c (by decide)) (ne c (by decide)) (ne c (by decide)) (fun z => absurd c z)⟩, fun c => ⟨d, r10, mod _ (ne c (by decide)) (fun _ => id.2.1.2.1) (ne c (by decide)) (ne c (by decide)) (ne c (by decide)) (fun _ z => absurd c z)⟩, fun c => ⟨d, r10, mod _ (ne c (by decide)) (ne c (by decide)) (fun _ => id.2.1.2.2.1) (ne c (by decide)) (ne c (by decide)) (fun _ _ z => absurd c z)⟩, fun c => ?_, fun c => ⟨1, sh.R 0 0 1 (by decide), mod _ (ne c (by decide)) (ne c (by decide)) (ne c (by decide)) (ne c (by decide)) (fun _ => by rw [l1, l2]) (fun _ _ _ _ z => absurd c z)⟩, fun c0 c1 c2 c3 c4 => mod _ (fun z => absurd z c0) (fun z => absurd z c1) (fun z => absurd z c2) (fun z => absurd z c3) (fun z => absurd z c4) (fun _ _ _ _ _ => rfl)⟩
  obtain ⟨B, kp, _⟩ := i.2.2.2.2.2.2.2.1
  refine loopR 6 (fun k s => s = (nI (cn (fun k => decide (qI h 77 k ≠ 0)) k), nI k, h)) (fun s => s.2.1.toNatClampNeg) rfl (fun k s hk p => by rw [p]; exact nI_clamp (by omega)) ?_ ?_
  · intro k s hk p back hb
    subst p
    have r7 : qR h 0 7 = some 23 := sh.R 0 7 23 (by decide)
    have l23 : qL h 23 = 6 := sh.L 23 (by decide) rfl
    refine ⟨23, r7, fun c => ?_, fun _ => ⟨23, r7, by rw [l23]; exact vp_in_nI hk (by decide), fun o eo => ⟨fun z w ew => hb _ ?_, fun b z y ey w ew => hb _ ?_⟩⟩⟩
    · rw [l23] at c
      exact absurd c (nI_ge hk (by decide))
    · rw [nI_clamp (by omega)] at eo
      have k0 : qI h 77 k = 0 := by
        rcases kp k hk with q | q
        · exact q.2
        · rw [← eo, z] at q; exact absurd q.1 (by simp)
      rw [ew, nI_1]
      show _ = (nI (cn _ k + _), _, _)
      rw [if_neg (by simp; exact k0)]; rfl
    · rw [nI_clamp (by omega)] at eo
      have k0 : ¬ qI h 77 k = 0 := by
        rcases kp k hk with q | q
        · rw [← eo, z] at q; exact absurd q.1 (by simp)
        · rw [q.2.1]; decide
      rw [ew, ey, nI_1, nI_1]
      show _ = (nI (cn _ k + _), _, _)
      rw [if_pos (by simp; exact k0)]
  · intro s p back
    subst p
    have l23 : qL h 23 = 6 := sh.L 23 (by decide) rfl
    refine ⟨23, sh.R 0 7 23 (by decide), fun _ => mod _ (ne c (by decide)) (ne c (by decide)) (ne c (by decide)) (fun _ => rfl) (ne c (by decide)) (fun _ _ _ z => absurd c z), fun c => ?_⟩
    rw [l23] at c
    exact absurd (nI_le (Nat.le_refl 6) (by decide)) c

/-! ===== PURE: which SAYINGS are right; the call right ===== -/
def rgt (N rb n : Nat) (Ds : Nat → PD) (s : Nat) : Prop :=
  if s = 0 then ∃ t, t < N ∧ ¬ vval N n Ds 3 t ≤ vval N n Ds 2 t
  else if s = 1 then ∀ k, k < n → ¬ dk (Ds k) = 4 → qsum (fun t => gv (Ds k) N t 0) N = 0
  else if s = 2 then ∃ k, k < n ∧ (dk (Ds k) = 1 ∨ dk (Ds k) = 2) ∧ ∃ t, t < N ∧ pTakes (cRow (Ds k)) N t = true
  else if s = 3 then ∃ K, rend N (fwd N rb n Ds 0) (bwB N rb n Ds 0) (rs0 0 1000) K ∧ rr (rgo N (fwd N rb n Ds 0) (bwB N rb n Ds 0) (rs0 0 1000) K) = 2
  else if s = 4 then 0 < rb
  else if s = 5 then ∃ k, k < n ∧ dk (Ds k) = 4
  else cG N rb n Ds 0 = false ∧ ∃ l, l < 32 ∧ cG N rb n Ds l = true
def rgR (N rb n : Nat) (Ds : Nat → PD) (s : Nat) (r : Int32) : Prop := (r = 1 ∧ rgt N rb n Ds s) ∨ (r = 0 ∧ ¬ rgt N rb n Ds s)
theorem pTakes_e {f : Nat → Int32} {D : PD} (e : rowE f D) (N t : Nat) : pTakes f N t = pTakes (cRow D) N t := by
  unfold pTakes
  rw [pPlace_e e, pLawC_e e, pGive_e e]
theorem bs_zero {c : Nat → Bool} : ∀ k, (∀ i, i < k → c i = false) → bs c k = 0
  | 0, _ => rfl
  | k + 1, h => by
    show bs c k + _ = 0
    rw [bs_zero k (fun i hi => h i (by omega)), h k (by omega)]; rfl
theorem bs_v0 {c : Nat → Bool} {v : Int32} (e : qU v = bs c 32) : v = 0 ↔ ∀ l, l < 32 → c l = false := by
  constructor
  · intro h l hl
    rw [h] at e
    have := bs_bit c 32 hl
    rw [← e, show qU (0 : Int32) = 0 from rfl, Nat.zero_div] at this
    cases hc : c l with
    | false => rfl
    | true => rw [hc] at this; exact absurd this (by decide)
  · intro h
    apply qU_inj
    rw [e, bs_zero 32 h]; rfl
theorem bs_v1 {c : Nat → Bool} {v : Int32} (e : qU v = bs c 32) : v &&& 1 = 0 ↔ c 0 = false := by
  have q : qU (v &&& 1) = qU v % 2 := by
    rw [qU_and]; exact Nat.and_two_pow_sub_one_eq_mod _ 1
  have b := bs_bit c 32 (i := 0) (by decide)
  rw [Nat.pow_zero, Nat.div_one, ← e] at b
  constructor
  · intro h
    rw [h, b] at q
    cases hc : c 0 with
    | false => rfl
    | true => rw [hc] at q; exact absurd q (by decide)
  · intro h
    apply qU_inj
    rw [q, b, h]; rfl
theorem rgt3 {N rb n : Nat} {Ds : Nat → PD} : rgt N rb n Ds 3 ↔ ∃ K, rend N (fwd N rb n Ds 0) (bwB N rb n Ds 0) (rs0 0 1000) K ∧ rr (rgo N (fwd N rb n Ds 0) (bwB N rb n Ds 0) (rs0 0 1000) K) = 2 := by
  unfold rgt
  rw [if_neg (by decide), if_neg (by decide), if_neg (by decide), if_pos rfl]
theorem crt_ok {h : PH} {N rb n d e s : Nat} {Ds : Nat → PD} {Q : Int32 → PH → Prop} (sh : Shp h) (id : IDd h N rb n Ds d e) (hs : s < 7) (q : ∀ h1 r, Fg [14, 15, 17] [(13, 2)] h h1 → rgR N rb n Ds s r → Q r h1) : wp_X11_isRight 0 (nI s) h Q := by
  obtain ⟨hp, hN⟩ := cTG id.2.2.2.1
  have hN8 := id.2.2.1.1.2.2.1
  have hn := id.2.2.1.2.2.2.1.1
  obtain ⟨p1, p2, p3⟩ := prt sh id
  have r10 := id.1.1
  have r2 : qR h 0 2 = some 7 := sh.R 0 2 7 (by decide)
  have tv := id.2.2.2.2
  have en : qI h d 1 = nI n := id.2.1.1
  have eN : qI h d 2 = nI N := id.2.1.2.1
  have fr := Fg.rf [14, 15, 17] [(13, 2)] h
  have yes : rgt N rb n Ds s → Q 1 h := fun z => q h 1 fr (Or.inl ⟨rfl, z⟩)
  have no : ¬ rgt N rb n Ds s → Q 0 h := fun z => q h 0 fr (Or.inr ⟨rfl, z⟩)
  have b01 : (0 : Int32) = 0 ∨ (0 : Int32) = 1 := Or.inl rfl
  have b11 : (1 : Int32) = 0 ∨ (1 : Int32) = 1 := Or.inr rfl
  have sx : ∀ m, m < 7 → nI s = nI m → s = m := fun m hm z => nI_inj (by omega) (by omega) z
  have k0 : ∀ k, k < n → qI h (d + 2 + k) 0 = nI (dk (Ds k)) := fun k hk => id.2.1.2.2.2 k hk 0 (by decide) (by decide)
  have k5 : ∀ k, k < n → dk (Ds k) < 5 := fun k hk => (id.2.2.1.2.2.2.1.2.2 k hk).1.1
  unfold rgt at yes no
  refine ⟨fun z => ?_, fun z => ?_, fun z => ?_, fun z => ?_, fun z => ?_, fun z => ?_, fun z => ?_, fun z0 z1 z2 z3 z4 z5 z6 => ?_⟩
  · have := sx 0 (by decide) z
    subst this
    rw [if_pos rfl] at yes no
    refine loopR N (fun t st => st = (nI t, h) ∧ ∀ j, j < t → vval N n Ds 3 j ≤ vval N n Ds 2 j) (fun st => st.1.toNatClampNeg) ⟨rfl, fun j hj => absurd hj (Nat.not_lt_zero j)⟩ (fun t st ht p => by rw [p.1]; exact nI_clamp (by omega)) ?_ ?_
    · rintro t st ht ⟨p, ih⟩ back hb
      subst p
      refine ⟨d, r10, fun z => absurd z (by rw [eN]; exact nI_ge ht (by omega)), fun _ => ⟨7, r2, cval_ok (v := 3) (t := some t) tv hp hN (by decide) ht ⟨7, r2, cval_ok (v := 2) (t := some t) tv hp hN (by decide) ht ⟨fun y w ew => hb _ ⟨by rw [ew, nI_1], fun j hj => ?_⟩, fun y => ⟨b11, yes ⟨t, ht, y⟩⟩⟩⟩⟩⟩
      rcases (show j < t ∨ j = t by omega) with x | x
      · exact ih j x
      · rw [x]; exact y
    · rintro st ⟨p, ih⟩ back
      subst p
      exact ⟨d, r10, fun _ => ⟨b01, no (fun ⟨t, ht, y⟩ => y (ih t ht))⟩, fun z => absurd (by rw [eN]; exact nI_le (Nat.le_refl N) (by omega)) z⟩
  · have := sx 1 (by decide) z
    subst this
    rw [if_neg (by decide), if_pos rfl] at yes no
    refine loopR n (fun k st => st = (nI k, h) ∧ ∀ j, j < k → ¬ dk (Ds j) = 4 → qsum (fun t => gv (Ds j) N t 0) N = 0) (fun st => st.1.toNatClampNeg) ⟨rfl, fun j hj => absurd hj (Nat.not_lt_zero j)⟩ (fun t st ht p => by rw [p.1]; exact nI_clamp (by omega)) ?_ ?_
    · rintro k st hk ⟨p, ih⟩ back hb
      subst p
      have more : (¬ dk (Ds k) = 4 → qsum (fun t => gv (Ds k) N t 0) N = 0) → ∀ w, w = nI k + 1 → back (w, h) := fun y w ew => hb _ ⟨by rw [ew, nI_1], fun j hj => by
        rcases (show j < k ∨ j = k by omega) with x | x
        · exact ih j x
        · rw [x]; exact y⟩
      have := k5 k hk
      refine ⟨d, r10, fun z => absurd z (by rw [en]; exact nI_ge hk (by omega)), fun _ => ⟨d, r10, d + 1, p1, by rw [p2]; exact vp_in_nI (by omega) (by decide), d + 2 + k, by rw [nI_clamp (by omega)]; exact p3 k (by omega), pk_eq (dk (Ds k)) 4 (fun z => more (fun y => absurd z y)) (fun z => ⟨d, r10, ?_⟩) (k0 k hk)⟩⟩
      rw [eN]
      exact csum_ok id hk ⟨fun y => more (fun _ => y), fun y => ⟨b01, no (fun x => y (x k hk z))⟩⟩
    · rintro st ⟨p, ih⟩ back
      subst p
      exact ⟨d, r10, fun _ => ⟨b11, yes ih⟩, fun z => absurd (by rw [en]; exact nI_le (Nat.le_refl n) (by omega)) z⟩
  · have := sx 2 (by decide) z
    subst this
    rw [if_neg (by decide), if_neg (by decide), if_pos rfl] at yes no
    refine loopR n (fun k st => st = (nI k, h) ∧ ∀ j, j < k → ¬ ((dk (Ds j) = 1 ∨ dk (Ds j) = 2) ∧ ∃ t, t < N ∧ pTakes (cRow (Ds j)) N t = true)) (fun st => st.1.toNatClampNeg) ⟨rfl, fun j hj => absurd hj (Nat.not_lt_zero j)⟩ (fun t st ht p => by rw [p.1]; exact nI_clamp (by omega)) ?_ ?_
    · rintro k st hk ⟨p, ih⟩ back hb
      subst p
      have more : ¬ ((dk (Ds k) = 1 ∨ dk (Ds k) = 2) ∧ ∃ t, t < N ∧ pTakes (cRow (Ds k)) N t = true) → ∀ w, w = nI k + 1 → back (w, h) := fun y w ew => hb _ ⟨by rw [ew, nI_1], fun j hj => by
        rcases (show j < k ∨ j = k by omega) with x | x
        · exact ih j x
        · rw [x]; exact y⟩
      have := k5 k hk
      have row := id.2.1.2.2.2 k hk
      have tk : (dk (Ds k) = 1 ∨ dk (Ds k) = 2) → wp_X4_takesWhereLawCounts (d + 2 + k) (qI h d 2) h (fun r15 h14 => ((r15 = 0 → ∀ v17 : Int32, v17 = nI k + 1 → back (v17, h14)) ∧ (¬ (r15 = 0) → ((1 : Int32) = 0 ∨ (1 : Int32) = 1) ∧ Q 1 h14))) := fun hk2 => by
        rw [eN]
        refine takes_ok (by omega) (fun t ht y => ⟨fun z => absurd z (by decide), fun _ => ⟨b11, yes ⟨k, hk, hk2, t, ht, by rw [← pTakes_e row]; exact y⟩⟩⟩) (fun y => ⟨fun _ => more (fun x => ?_), fun z => absurd rfl z⟩)
        obtain ⟨_, t, ht, x2⟩ := x
        rw [← pTakes_e row, y t ht] at x2
        cases x2
      exact ⟨d, r10, fun z => absurd z (by rw [en]; exact nI_ge hk (by omega)), fun _ => ⟨d, r10, d + 1, p1, by rw [p2]; exact vp_in_nI (by omega) (by decide), d + 2 + k, by rw [nI_clamp (by omega)]; exact p3 k (by omega), pk_eq (dk (Ds k)) 1 (fun z => ⟨d, r10, tk (Or.inl z)⟩) (fun z => n_eq (dk (Ds k)) 2 (fun z2 => more (fun y => by omega)) (fun z2 => ⟨d, r10, tk (Or.inr z2)⟩) (k0 k hk)) (k0 k hk)⟩⟩
    · rintro st ⟨p, ih⟩ back
      subst p
      exact ⟨d, r10, fun _ => ⟨b01, no (fun ⟨k, hk, y⟩ => ih k hk y)⟩, fun z => absurd (by rw [en]; exact nI_le (Nat.le_refl n) (by omega)) z⟩
  · have := sx 3 (by decide) z
    subst this
    refine ⟨13, sh.R 0 3 13 (by decide), 7, r2, prepare_g (L := 0) id.2.2.2.1 (by decide) (sh.R 13 0 14 (by decide)) (sh.R 13 1 15 (by decide)) (sh.L 14 (by decide) rfl) (sh.L 15 (by decide) rfl) (fun h1 f1 wc => ⟨17, by rw [f1.R rfl]; exact sh.R 0 5 17 (by decide), start_ok (t := 0) (fun h2 f2 s2 rc2 => ?_)⟩)⟩
    have f12 : Fg [14, 15, 17] [(13, 2)] h h2 := f1.tr f2 rfl rfl
    have wf2 := (wc.wf hN8 hN).ag (f2.ag rfl)
    refine ⟨17, by rw [f12.R rfl]; exact sh.R 0 5 17 (by decide), 13, by rw [f12.R rfl]; exact sh.R 0 3 13 (by decide), turn_ok wf2 (Or.inr rfl) (rok0 (by omega)) rfl rfl rc2 (fun h3 k f3 s3 rk rc3 => ?_)⟩
    have f13 : Fg [14, 15, 17] [(13, 2)] h h3 := f12.tr f3 rfl rfl
    have e6 := rc3.2.2.2.2.2
    refine ⟨17, by rw [f13.R rfl]; exact sh.R 0 5 17 (by decide), ?_, ?_⟩
    · rw [e6]; split
      · exact b11
      · exact b01
    · rw [e6]
      refine ⟨?_, q h3 _ f13 ?_⟩
      · split
        · exact b11
        · exact b01
      · unfold rgR
        rw [rgt3]
        by_cases y : rr (rgo N (fwd N rb n Ds 0) (bwB N rb n Ds 0) (rs0 0 1000) k) = 2
        · rw [if_pos y]; exact Or.inl ⟨rfl, k, rk, y⟩
        · rw [if_neg y]
          refine Or.inr ⟨rfl, fun ⟨K, x1, x2⟩ => ?_⟩
          have := rend_uniq rk x1
          rw [this] at y
          exact y x2
  · have := sx 4 (by decide) z
    subst this
    rw [if_neg (by decide), if_neg (by decide), if_neg (by decide), if_neg (by decide), if_pos rfl] at yes no
    have hrb := id.2.2.1.2.2.2.1.2.1
    exact ⟨d, r10, pk_le rb 0 (fun y => no (by omega)) (fun y => yes y) id.2.1.2.2.1⟩
  · have := sx 5 (by decide) z
    subst this
    rw [if_neg (by decide), if_neg (by decide), if_neg (by decide), if_neg (by decide), if_neg (by decide), if_pos rfl] at yes no
    refine loopR n (fun k st => st = (nI k, h) ∧ ∀ j, j < k → ¬ dk (Ds j) = 4) (fun st => st.1.toNatClampNeg) ⟨rfl, fun j hj => absurd hj (Nat.not_lt_zero j)⟩ (fun t st ht p => by rw [p.1]; exact nI_clamp (by omega)) ?_ ?_
    · rintro k st hk ⟨p, ih⟩ back hb
      subst p
      have := k5 k hk
      refine ⟨d, r10, fun z => absurd z (by rw [en]; exact nI_ge hk (by omega)), fun _ => ⟨d, r10, d + 1, p1, by rw [p2]; exact vp_in_nI (by omega) (by decide), d + 2 + k, by rw [nI_clamp (by omega)]; exact p3 k (by omega), n_eq (dk (Ds k)) 4 (fun z w ew => hb _ ⟨by rw [ew, nI_1], fun j hj => ?_⟩) (fun z => ⟨b11, yes ⟨k, hk, z⟩⟩) (k0 k hk)⟩⟩
      rcases (show j < k ∨ j = k by omega) with x | x
      · exact ih j x
      · rw [x]; exact z
    · rintro st ⟨p, ih⟩ back
      subst p
      exact ⟨d, r10, fun _ => ⟨b01, no (fun ⟨k, hk, y⟩ => ih k hk y)⟩, fun z => absurd (by rw [en]; exact nI_le (Nat.le_refl n) (by omega)) z⟩
  · have := sx 6 (by decide) z
    subst this
    rw [if_neg (by decide), if_neg (by decide), if_neg (by decide), if_neg (by decide), if_neg (by decide), if_neg (by decide)] at yes no
    refine goers_ok id.2.2.2.1 r2 (fun v ev => ⟨fun y => no (fun x => ?_), fun y => ⟨fun y1 => no (fun x => y1 ((bs_v1 ev).mpr x.1)), fun y1 => yes ⟨(bs_v1 ev).mp y1, ?_⟩⟩⟩)
    · obtain ⟨_, l, hl, x2⟩ := x
      rw [(bs_v0 ev).mp y l hl] at x2; cases x2
    · apply Classical.byContradiction
      intro x
      refine y ((bs_v0 ev).mpr (fun l hl => ?_))
      cases hc : cG N rb n Ds l with
      | false => rfl
      | true => exact absurd ⟨l, hl, hc⟩ x
  · exfalso
    rcases (show s = 0 ∨ s = 1 ∨ s = 2 ∨ s = 3 ∨ s = 4 ∨ s = 5 ∨ s = 6 by omega) with y | y | y | y | y | y | y <;> subst y
    · exact z0 rfl
    · exact z1 rfl
    · exact z2 rfl
    · exact z3 rfl
    · exact z4 rfl
    · exact z5 rfl
    · exact z6 rfl
theorem mrt_ok {h : PH} {N rb n s : Nat} {Ds : Nat → PD} {Q : Int32 → PH → Prop} (sh : Shp h) (dm : DrM h N rb n Ds) (dl : DrL h N rb n Ds) (hs : s < 7) (q : ∀ h1 r, Fg [78, 79] ([(70, 20), (72, 0)] ++ mfF) h h1 → DrM h1 N rb n Ds → DrL h1 N rb n Ds → rgR N rb n Ds s r → Q r h1) : wp_X12_isRight 70 (nI s) h Q := by
  have m := dm.1
  have hN := m.2.2.2.2.1
  have hN8 := m.2.2.2.1
  have hn := dm.2.2.2.1
  have eN : qI h 72 (0 : Int32).toNatClampNeg = nI N := by rw [c0_n]; exact m.2.2.1
  have en : qI h 74 (0 : Int32).toNatClampNeg = nI n := by rw [c0_n]; exact dm.2.2.1.2.2
  have r16 := dm.2.2.1.1
  have i74 : vp_in 0 (qL h 74) := in0 dm.2.2.1.2.1 (by decide) (by decide)
  have r17 := m.2.2.2.2.2.1
  have fr := Fg.rf [78, 79] ([(70, 20), (72, 0)] ++ mfF) h
  have yes : rgt N rb n Ds s → Q 1 h := fun z => q h 1 fr dm dl (Or.inl ⟨rfl, z⟩)
  have no : ¬ rgt N rb n Ds s → Q 0 h := fun z => q h 0 fr dm dl (Or.inr ⟨rfl, z⟩)
  have b01 : (0 : Int32) = 0 ∨ (0 : Int32) = 1 := Or.inl rfl
  have b11 : (1 : Int32) = 0 ∨ (1 : Int32) = 1 := Or.inr rfl
  have sx : ∀ m, m < 7 → nI s = nI m → s = m := fun m hm z => nI_inj (by omega) (by omega) z
  have k5 : ∀ k, k < n → dk (Ds k) < 5 := fun k hk => (dm.2.2.2.2.2 k hk).1.1
  have e0 : ∀ k, k < n → qI h 75 (nI (8 * k) + 0).toNatClampNeg = nI (dk (Ds k)) := fun k hk => (slot_at (by omega) (i := 0) (by decide) rfl).trans ((dm.2.2.2.2.2 k hk).2 0 (by decide))
  have i0k : ∀ k, k < n → vp_in (nI (8 * k) + 0) (qL h 75) := fun k hk => slot_in m (by omega) (i := 0) (by decide) rfl
  unfold rgt at yes no
  refine ⟨fun z => ?_, fun z => ?_, fun z => ?_, fun z => ?_, fun z => ?_, fun z => ?_, fun z0 z1 z2 z3 z4 z5 => ?_⟩
  · have := sx 0 (by decide) z
    subst this
    rw [if_pos rfl] at yes no
    refine loopR N (fun t st => st = (nI t, h) ∧ ∀ j, j < t → vval N n Ds 3 j ≤ vval N n Ds 2 j) (fun st => st.1.toNatClampNeg) ⟨rfl, fun j hj => absurd hj (Nat.not_lt_zero j)⟩ (fun t st ht p => by rw [p.1]; exact nI_clamp (by omega)) ?_ ?_
    · rintro t st ht ⟨p, ih⟩ back hb
      subst p
      refine ⟨72, m.1, in08 m, fun z => absurd z (by rw [eN]; exact nI_ge ht (by omega)), fun _ => mval_ok (v := 3) dm (by decide) ht (mval_ok (v := 2) dm (by decide) ht ⟨fun y w ew => hb _ ⟨by rw [ew, nI_1], fun j hj => ?_⟩, fun y => yes ⟨t, ht, y⟩⟩)⟩
      rcases (show j < t ∨ j = t by omega) with x | x
      · exact ih j x
      · rw [x]; exact y
    · rintro st ⟨p, ih⟩ back
      subst p
      exact ⟨72, m.1, in08 m, fun _ => no (fun ⟨t, ht, y⟩ => y (ih t ht)), fun z => absurd (by rw [eN]; exact nI_le (Nat.le_refl N) (by omega)) z⟩
  · have := sx 1 (by decide) z
    subst this
    rw [if_neg (by decide), if_pos rfl] at yes no
    refine loopR n (fun k st => st = (nI k, h) ∧ ∀ j, j < k → ¬ dk (Ds j) = 4 → qsum (fun t => gv (Ds j) N t 0) N = 0) (fun st => st.1.toNatClampNeg) ⟨rfl, fun j hj => absurd hj (Nat.not_lt_zero j)⟩ (fun t st ht p => by rw [p.1]; exact nI_clamp (by omega)) ?_ ?_
    · rintro k st hk ⟨p, ih⟩ back hb
      subst p
      have more : (¬ dk (Ds k) = 4 → qsum (fun t => gv (Ds k) N t 0) N = 0) → ∀ w, w = nI k + 1 → back (w, h) := fun y w ew => hb _ ⟨by rw [ew, nI_1], fun j hj => by
        rcases (show j < k ∨ j = k by omega) with x | x
        · exact ih j x
        · rw [x]; exact y⟩
      have := k5 k hk
      refine ⟨74, r16, i74, fun z => absurd z (by rw [en]; exact nI_ge hk (by omega)), fun _ => ⟨75, r17, ?_⟩⟩
      show wp_X12_slot 0 (nI k) h _
      unfold wp_X12_slot
      rw [slot0_n]
      have rk := dm.2.2.2.2.2 k hk
      exact ⟨i0k k hk, pk_eq (dk (Ds k)) 4 (fun z => more (fun y => absurd z y)) (fun z => msum_ok m (by omega) rk.1 rk.2 ⟨fun y => more (fun _ => y), fun y => no (fun x => y (x k hk z))⟩) (e0 k hk)⟩
    · rintro st ⟨p, ih⟩ back
      subst p
      exact ⟨74, r16, i74, fun _ => yes ih, fun z => absurd (by rw [en]; exact nI_le (Nat.le_refl n) (by omega)) z⟩
  · have := sx 2 (by decide) z
    subst this
    rw [if_neg (by decide), if_neg (by decide), if_pos rfl] at yes no
    refine loopR n (fun k st => st = (nI k, h) ∧ ∀ j, j < k → ¬ ((dk (Ds j) = 1 ∨ dk (Ds j) = 2) ∧ ∃ t, t < N ∧ pTakes (cRow (Ds j)) N t = true)) (fun st => st.1.toNatClampNeg) ⟨rfl, fun j hj => absurd hj (Nat.not_lt_zero j)⟩ (fun t st ht p => by rw [p.1]; exact nI_clamp (by omega)) ?_ ?_
    · rintro k st hk ⟨p, ih⟩ back hb
      subst p
      have := k5 k hk
      obtain ⟨o, e⟩ := dm.2.2.2.2.2 k hk
      refine ⟨74, r16, i74, fun z => absurd z (by rw [en]; exact nI_ge hk (by omega)), fun _ => ⟨75, r17, ?_⟩⟩
      show wp_X12_slot 0 (nI k) h _
      unfold wp_X12_slot
      rw [slot0_n]
      refine ⟨i0k k hk, fun v10 e10 => ?_⟩
      rw [e0 k hk] at e10
      subst e10
      refine loopR N (fun t st => st = (nI t, h) ∧ ∀ u, u < t → ¬ ((dk (Ds k) = 1 ∨ dk (Ds k) = 2) ∧ pTakes (cRow (Ds k)) N u = true)) (fun st => st.1.toNatClampNeg) ⟨rfl, fun j hj => absurd hj (Nat.not_lt_zero j)⟩ (fun t st ht p => by rw [p.1]; exact nI_clamp (by omega)) ?_ ?_
      · rintro t st ht ⟨p, ih2⟩ back2 hb2
        subst p
        have hj : (dpin (Ds k) + t) % N < N := Nat.mod_lt _ (by omega)
        have hj2 : ((dpin (Ds k) + t) % N + 1) % N < N := Nat.mod_lt _ (by omega)
        have hpin := o.2.1
        have ej : rnd (mrow h 0 k 1 + nI t) (nI N) = nI ((dpin (Ds k) + t) % N) := by
          rw [e 1 (by decide)]
          show rnd (nI (dpin (Ds k)) + nI t) (nI N) = _
          rw [nI_add, rnd_nat (by omega) (by omega) (by omega)]
        have ej2 : rnd (nI ((dpin (Ds k) + t) % N) + 1) (nI N) = nI (((dpin (Ds k) + t) % N + 1) % N) := by
          rw [nI_1, rnd_nat (by omega) (by omega) (by omega)]
        have pt : pTakes (cRow (Ds k)) N t = (pLawC (cRow (Ds k)) (nI ((dpin (Ds k) + t) % N)) (nI (((dpin (Ds k) + t) % N + 1) % N)) (nI N) && decide (gv (Ds k) N t 0 < 0)) := by
          unfold pTakes
          rw [place_e o hN ht, next_e hN hj]; rfl
        have more : ¬ ((dk (Ds k) = 1 ∨ dk (Ds k) = 2) ∧ pTakes (cRow (Ds k)) N t = true) → ∀ w, w = nI t + 1 → back2 (w, h) := fun y w ew => hb2 _ ⟨by rw [ew, nI_1], fun u hu => by
          rcases (show u < t ∨ u = t by omega) with x | x
          · exact ih2 u x
          · rw [x]; exact y⟩
        have wi := mWithin_e o hN e (nI ((dpin (Ds k) + t) % N))
        have wj := mWithin_e o hN e (nI (((dpin (Ds k) + t) % N + 1) % N))
        have lc1 : dk (Ds k) = 1 → pLawC (cRow (Ds k)) (nI ((dpin (Ds k) + t) % N)) (nI (((dpin (Ds k) + t) % N + 1) % N)) (nI N) = (!pWithin (cRow (Ds k)) (nI ((dpin (Ds k) + t) % N)) && pWithin (cRow (Ds k)) (nI (((dpin (Ds k) + t) % N + 1) % N))) := fun y => by
          unfold pLawC
          rw [show cRow (Ds k) 0 = nI (dk (Ds k)) from rfl, y, if_neg (by decide), if_neg (by decide)]
        have lc2 : dk (Ds k) = 2 → pLawC (cRow (Ds k)) (nI ((dpin (Ds k) + t) % N)) (nI (((dpin (Ds k) + t) % N + 1) % N)) (nI N) = (pWithin (cRow (Ds k)) (nI ((dpin (Ds k) + t) % N)) != pWithin (cRow (Ds k)) (nI (((dpin (Ds k) + t) % N + 1) % N))) := fun y => by
          unfold pLawC
          rw [show cRow (Ds k) 0 = nI (dk (Ds k)) from rfl, y, if_neg (by decide), if_pos (by decide)]
        generalize hA1 : pWithin (cRow (Ds k)) (nI ((dpin (Ds k) + t) % N)) = wa at *
        generalize hA2 : pWithin (cRow (Ds k)) (nI (((dpin (Ds k) + t) % N + 1) % N)) = wb at *
        generalize hA3 : pLawC (cRow (Ds k)) (nI ((dpin (Ds k) + t) % N)) (nI (((dpin (Ds k) + t) % N + 1) % N)) (nI N) = lc at *
        have d0 : ¬ ((dk (Ds k) = 1 ∨ dk (Ds k) = 2) ∧ lc = true) → wp_X12_isDoor_101 70 (nI k) (nI (dk (Ds k))) (nI t) 0 back back2 h (fun r5 h4 => ((r5 = 0 ∨ r5 = 1) ∧ Q r5 h4)) := fun y => ⟨fun _ => more (fun x => y ⟨x.1, by rw [pt, Bool.and_eq_true] at x; exact x.2.1⟩), fun y => absurd rfl y⟩
        have d1 : (dk (Ds k) = 1 ∨ dk (Ds k) = 2) → lc = true → wp_X12_isDoor_101 70 (nI k) (nI (dk (Ds k))) (nI t) 1 back back2 h (fun r5 h4 => ((r5 = 0 ∨ r5 = 1) ∧ Q r5 h4)) := fun y1 y2 => ⟨fun y => absurd y (by decide), fun _ => mgives_ok m (by omega) o e ht ⟨fun y => more (fun x => ?_), fun y => ⟨b11, yes ⟨k, hk, y1, t, ht, ?_⟩⟩⟩⟩
        · have d84 : ¬ (dk (Ds k) = 1 ∧ wa = false ∧ wb = true) → wp_X12_isDoor_84 70 (nI k) (nI (dk (Ds k))) (nI t) (b2i wa) (b2i wb) back back2 h (fun r5 h4 => ((r5 = 0 ∨ r5 = 1) ∧ Q r5 h4)) := fun y => n_eq (dk (Ds k)) 2 (fun y2 => d0 (fun x => y ?_)) (fun y2 => ⟨fun y3 => d0 (fun x => ?_), fun y3 => d1 (Or.inr y2) ?_⟩)
          · refine ⟨72, m.1, in08 m, fun z => absurd z (by rw [eN]; exact nI_ge ht (by omega)), fun _ => mplace_ok m (by omega) ?_⟩
            rw [ej]
            refine mwithin_ok m (by omega) ?_
            rw [wi]
            refine mplace_ok m (by omega) ?_
            rw [ej]
            refine round_ok m ?_
            rw [ej2]
            refine mwithin_ok m (by omega) ?_
            rw [wj]
            refine n_eq (dk (Ds k)) 1 (fun y => d84 (fun x => y x.1)) (fun y => ⟨fun y2 => d84 (fun x => y2 (by rw [x.2.1]; rfl)), fun y2 => ⟨fun y3 => d1 (Or.inl y) (by rw [lc1 y, (b2i_0 _).mp y2, b2i_t y3]; rfl), fun y3 => d84 (fun x => by rw [x.2.2] at y3; exact absurd y3 (by decide))⟩⟩)
          · have y1 : dk (Ds k) = 1 := by omega
            have := lc1 y1
            rw [x.2] at this
            cases wa <;> cases wb <;> first | exact ⟨y1, rfl, rfl⟩ | exact absurd this (by decide)
          · have := lc2 y2
            rw [(b2i_eq _ _).mp y3, bne_self_eq_false, x.2] at this
            cases this
          · rw [lc2 y2, bne_iff_ne]; exact fun y4 => y3 ((b2i_eq _ _).mpr y4)
        · rw [pt, Bool.and_eq_true, decide_eq_true_iff] at x
          exact absurd x.2.2 (i_nlt.mpr y)
        · rw [pt, y2, Bool.true_and, decide_eq_true_iff]
          exact i_nle.mp y
      · rintro st ⟨p, ih2⟩ back2
        subst p
        refine ⟨72, m.1, in08 m, fun _ w ew => hb _ ⟨by rw [ew, nI_1], fun j hj => ?_⟩, fun z => absurd (by rw [eN]; exact nI_le (Nat.le_refl N) (by omega)) z⟩
        rcases (show j < k ∨ j = k by omega) with x | x
        · exact ih j x
        · rw [x]; exact fun ⟨y1, t, ht, y2⟩ => ih2 t ht ⟨y1, y2⟩
    · rintro st ⟨p, ih⟩ back
      subst p
      exact ⟨74, r16, i74, fun _ => ⟨b01, no (fun ⟨k, hk, y⟩ => ih k hk y)⟩, fun z => absurd (by rw [en]; exact nI_le (Nat.le_refl n) (by omega)) z⟩
  · have := sx 3 (by decide) z
    subst this
    refine layWorld_ok (L := 0) dl (by decide) (sh.R 70 21 78 (by decide)) (sh.R 70 22 79 (by decide)) (sh.L 78 (by decide) rfl) (sh.L 79 (by decide) rfl) (fun g2 k2 dm2 dl2 wm => ?_)
    refine play_ok (t0 := 0) (wm.mf dm2.1) (by omega) (fun g3 k k3 rk rm3 rs3 => ?_)
    have k23 : Fg [78, 79] ([(70, 20), (72, 0)] ++ mfF) h g3 := k2.tr k3 rfl rfl
    rw [rs3]
    refine ⟨?_, q g3 _ k23 (dm2.ag (k3.ag rfl)) (dl2.ag (k3.ag rfl)) ?_⟩
    · split
      · exact b11
      · exact b01
    · unfold rgR
      rw [rgt3]
      by_cases y : rr (rgo N (fwd N rb n Ds 0) (bwB N rb n Ds 0) (true, 0, 0, 1000, 0, 0, 1000) k) = 2
      · rw [if_pos y]; exact Or.inl ⟨rfl, k, rk, y⟩
      · rw [if_neg y]
        refine Or.inr ⟨rfl, fun ⟨K, x1, x2⟩ => ?_⟩
        have := rend_uniq rk x1
        rw [this] at y
        exact y x2
  · have := sx 4 (by decide) z
    subst this
    rw [if_neg (by decide), if_neg (by decide), if_neg (by decide), if_neg (by decide), if_pos rfl] at yes no
    have hrb := dm.2.2.2.2.1
    exact ⟨73, dm.2.1.1, in0 dm.2.1.2.1 (by decide) (by decide), pk_le rb 0 (fun y => no (by omega)) (fun y => yes y) (by rw [c0_n]; exact dm.2.1.2.2)⟩
  · have := sx 5 (by decide) z
    subst this
    rw [if_neg (by decide), if_neg (by decide), if_neg (by decide), if_neg (by decide), if_neg (by decide), if_pos rfl] at yes no
    refine loopR n (fun k st => st = (nI k, h) ∧ ∀ j, j < k → ¬ dk (Ds j) = 4) (fun st => st.1.toNatClampNeg) ⟨rfl, fun j hj => absurd hj (Nat.not_lt_zero j)⟩ (fun t st ht p => by rw [p.1]; exact nI_clamp (by omega)) ?_ ?_
    · rintro k st hk ⟨p, ih⟩ back hb
      subst p
      have := k5 k hk
      refine ⟨74, r16, i74, fun z => absurd z (by rw [en]; exact nI_ge hk (by omega)), fun _ => ⟨75, r17, ?_⟩⟩
      show wp_X12_slot 0 (nI k) h _
      unfold wp_X12_slot
      rw [slot0_n]
      refine ⟨i0k k hk, n_eq (dk (Ds k)) 4 (fun z w ew => hb _ ⟨by rw [ew, nI_1], fun j hj => ?_⟩) (fun z => yes ⟨k, hk, z⟩) (e0 k hk)⟩
      rcases (show j < k ∨ j = k by omega) with x | x
      · exact ih j x
      · rw [x]; exact z
    · rintro st ⟨p, ih⟩ back
      subst p
      exact ⟨74, r16, i74, fun _ => no (fun ⟨k, hk, y⟩ => ih k hk y), fun z => absurd (by rw [en]; exact nI_le (Nat.le_refl n) (by omega)) z⟩
  · have : s = 6 := by
      rcases (show s = 0 ∨ s = 1 ∨ s = 2 ∨ s = 3 ∨ s = 4 ∨ s = 5 ∨ s = 6 by omega) with y | y | y | y | y | y | y <;> subst y
      · exact absurd rfl z0
      · exact absurd rfl z1
      · exact absurd rfl z2
      · exact absurd rfl z3
      · exact absurd rfl z4
      · exact absurd rfl z5
      · rfl
    subst this
    rw [if_neg (by decide), if_neg (by decide), if_neg (by decide), if_neg (by decide), if_neg (by decide), if_neg (by decide)] at yes no
    have cg : ∀ l, (cG N rb n Ds l = true ↔ ¬ wholeV N rb n Ds (nI l) ≤ 0) := fun l => by unfold cG; rw [decide_eq_true_iff]
    refine mwhole_ok (laws := 0) dm ⟨fun y => ?_, fun y => no (fun x => ?_)⟩
    · have c0 : cG N rb n Ds 0 = false := by
        cases hc : cG N rb n Ds 0 with
        | false => rfl
        | true => exact absurd y ((cg 0).mp hc)
      refine loopR 31 (fun k st => st = (nI (1 + k), h) ∧ ∀ l, l < 1 + k → cG N rb n Ds l = false) (fun st => st.1.toNatClampNeg - 1) ⟨rfl, fun l hl => by rw [show l = 0 by omega]; exact c0⟩ (fun k st hk p => by rw [p.1, nI_clamp (by omega)]; omega) ?_ ?_
      · rintro k st hk ⟨p, ih⟩ back hb
        subst p
        refine pk_le 32 (1 + k) (fun z => by omega) (fun _ => mwhole_ok dm ⟨fun x w ew => hb _ ⟨by rw [ew, nI_1, Nat.add_assoc], fun l hl => ?_⟩, fun x => yes ⟨c0, 1 + k, by omega, (cg _).mpr x⟩⟩)
        rcases (show l < 1 + k ∨ l = 1 + k by omega) with t | t
        · exact ih l t
        · rw [t]
          cases hc : cG N rb n Ds (1 + k) with
          | false => rfl
          | true => exact absurd x ((cg _).mp hc)
      · rintro st ⟨p, ih⟩ back
        subst p
        exact pk_le 32 32 (fun _ => no (fun ⟨_, l, hl, x⟩ => by rw [ih l hl] at x; cases x)) (fun z => by omega)
    · have := (cg 0).mpr y
      rw [x.1] at this; cases this
theorem rgR_uniq {N rb n s : Nat} {Ds : Nat → PD} {r r2 : Int32} (a : rgR N rb n Ds s r) (b : rgR N rb n Ds s r2) : r = r2 := by
  rcases a with ⟨a1, a2⟩ | ⟨a1, a2⟩ <;> rcases b with ⟨b1, b2⟩ | ⟨b1, b2⟩
  · rw [a1, b1]
  · exact absurd a2 b2
  · exact absurd b2 a2
  · rw [a1, b1]
theorem Inv.cr {h h1 : PH} (i : Inv h) (f : Fg [14, 15, 17] [(13, 2)] h h1) : Inv h1 := i.fg f rfl rfl rfl rfl rfl rfl rfl rfl rfl rfl rfl
theorem Inv.mr {h h2 : PH} {N rb n d e : Nat} {Ds : Nat → PD} (i : Inv h) (id : IDd h N rb n Ds d e) (f2 : Fg [78, 79] ([(70, 20), (72, 0)] ++ mfF) h h2) (dl : DrL h2 N rb n Ds) : Inv h2 := by
  obtain ⟨i0, i1, i2, i3, i4, i5, i6, i7, i8, i9, i10⟩ := i
  exact ⟨i0.fg f2 rfl, i1.ag (f2.ag rfl), ⟨N, rb, n, Ds, d, e, id.re (f2.ag rfl) dl⟩, i3.ag (f2.ag rfl), i4.ag (f2.ag rfl), i5.ag (f2.ag rfl), i6.ag (f2.ag rfl), i7.fg f2 rfl, i8.ag (f2.ag rfl), i9.ag (f2.ag rfl), i10.ag (f2.ag rfl)⟩
theorem Rm.fg2 {S : List Nat} {F : List (Nat × Nat)} {h h1 h2 : PH} (r : Rm h h1) (f : Fg S F h1 h2) : Rm h h2 := by
  obtain ⟨a, b, c⟩ := r
  exact ⟨by rw [f.1.1]; exact a, by rw [f.1.1]; exact b, by rw [f.1.2.1]; exact c⟩
theorem mlay2 {h h1 : PH} {N rb n d e : Nat} {Ds : Nat → PD} {Q : PH → Prop} (i : Inv h) (id : IDd h N rb n Ds d e) (e1 : h1 = qsI h 70 0 0) (q : ∀ h2, Inv h2 → Rm h h2 → DrM h2 N rb n Ds → DrL h2 N rb n Ds → Fg [] [(70, 0), (70, 20), (72, 0)] h h2 → IDd h2 N rb n Ds d e → Q h2) : wp_X12_lay 70 h1 Q := by
  have f1 : Fg [] [(70, 0)] h h1 := by rw [e1]; exact Fg.sI _ _ _ _
  refine lay_ok (id.2.2.1.ag (f1.ag rfl)) (fun h2 f2 dm dl => ?_)
  have f : Fg [] [(70, 0), (70, 20), (72, 0)] h h2 := f1.tr f2 rfl rfl
  exact q h2 (i.lay id f dl) f.rm dm dl f (id.re (f.ag rfl) dl)
theorem op_right {h : PH} (i : Inv h) (x : Int32) : wp_X11_right 0 x h (fun r h1 => wp_X12_right 70 x h1 (Both h r)) := by
  obtain ⟨N, rb, n, Ds, d, e, id⟩ := i.2.2.1
  have sh := i.1
  have bad : (∀ L, L ≤ 6 → x ≠ nI L) → wp_X12_right 70 x h (Both h (-1)) := fun no h1 e1 => mlay i id e1 (fun h2 i2 rm dm f2 => isIn_ok (M := 6) rfl (by decide) (fun L hL eL => absurd eL (no L hL)) (fun _ => ⟨fun _ => ⟨rfl, i2, rm⟩, fun z => absurd rfl z⟩))
  refine ⟨fun c => bad (fun j hj e => nI_pos (n := j) (by omega) (by rw [← e]; exact c)), fun c => ?_⟩
  obtain ⟨s, hs, es⟩ := nI_of c
  subst es
  refine pk_lt s 7 (fun s7 => crt_ok sh id s7 (fun h1 r f1 rg => ?_)) (fun z => bad (fun j hj e => by have := nI_inj hs (by omega) e; omega))
  have mod : ∀ r2, (r = 0 → r2 = 0) → (¬ r = 0 → r2 = 1) → wp_X12_right 70 (nI s) h1 (Both h r2) := by
    intro r2 x1 x2 g0 e0
    have i1 := i.cr f1
    have id1 : IDd h1 N rb n Ds d e := id.ag (f1.ag rfl)
    refine mlay2 i1 id1 e0 (fun g1 i2 rm dm dl1 k1 id3 => isIn_ok (M := 6) rfl (by decide) (fun L hL eL => ⟨fun z => absurd z (by decide), fun _ => ?_⟩) (fun no => absurd rfl (no s (by omega))))
    refine mrt_ok i2.1 dm dl1 s7 (fun g2 r3 k2 dm2 dl2 rg2 => ?_)
    have er := rgR_uniq rg rg2
    subst er
    exact ⟨fun y => ⟨x1 y, i2.mr id3 k2 dl2, (Rm.fg f1 rm).fg2 k2⟩, fun y => ⟨x2 y, i2.mr id3 k2 dl2, (Rm.fg f1 rm).fg2 k2⟩⟩
  exact ⟨fun y => mod 0 (fun _ => rfl) (fun z => absurd y z), fun y => mod 1 (fun z => absurd z y) (fun _ => rfl)⟩

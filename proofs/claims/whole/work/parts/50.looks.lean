/-! ===== PURE: the call looks ===== -/
def bJk (b : Nat → Nat) (i : Nat) : Nat → Int64
  | 0 => 0
  | k + 1 => bJk b i k ||| ((nI (b (6 * i + k))).toInt64 <<< ((8 * nI k).toInt64 &&& 63))
theorem uJ_at (h : PH) (a k j : Nat) (v : Int64) : qJ (qsJ h a k v) a j = if j = k then v else qJ h a j := by
  rw [qJ_sJ]
  by_cases c : j = k
  · rw [if_pos ⟨rfl, c⟩, if_pos c]
  · rw [if_neg (fun z => c z.2), if_neg c]
theorem x6 (i k : Nat) : 6 * nI i + nI k = nI (6 * i + k) := by rw [show (6 : Int32) = nI 6 from rfl, pk_mul, nI_add]
theorem readL_ok {h : PH} {b : Nat → Nat} {m : Nat} {Q : PH → Prop} (t : BT h b) (r7 : qR h 18 7 = some 22) (l22 : qL h 22 = 10) (hm : m ≤ 10)
    (q : ∀ h1, Fg [22] [(18, 8)] h h1 → qI h1 18 8 = nI m → (∀ i, i < m → qJ h1 22 i = bJk b i 6) → Q h1) : wp_X2_readLooks 18 1 (nI m) h Q := by
  refine min_ok ?_
  rw [show qmin (nI m) 10 = nI m from (qmin_n (b := 10) (by omega) (by decide)).trans (by rw [Nat.min_eq_left hm])]
  intro h3 e3
  have f3 : Fg [22] [(18, 8)] h h3 := by rw [e3]; exact (Fg.sI _ _ _ _).mono rfl
  have v3 : qI h3 18 8 = nI m := by rw [e3]; simp only [qI_sI]; simp
  refine loopR m (fun i s => s.1 = nI i ∧ Fg [22] [(18, 8)] h s.2 ∧ qI s.2 18 8 = nI m ∧ ∀ j, j < i → qJ s.2 22 j = bJk b j 6) (fun s => s.1.toNatClampNeg) ⟨rfl, f3, v3, fun j hj => absurd hj (Nat.not_lt_zero j)⟩ (fun k s hk p => by rw [p.1]; exact nI_clamp (by omega)) ?_ ?_
  · rintro i ⟨i', g⟩ hi ⟨s1, s2, s3, s4⟩ back hb
    dsimp only at s1 s2 s3 s4
    subst s1
    have ci : (nI i).toNatClampNeg = i := nI_clamp (by omega)
    refine ⟨fun z => absurd z (by rw [s3]; exact nI_ge hi (by omega)), fun _ => ⟨22, by rw [s2.R rfl]; exact r7, by rw [s2.L, l22]; exact vp_in_nI (by omega) (by decide), fun g0 e0 => ?_⟩⟩
    dsimp only at e0
    rw [ci] at e0
    refine loopR 6 (fun k s => s.1 = nI k ∧ Fg [22] [(18, 8)] h s.2 ∧ qI s.2 18 8 = nI m ∧ (∀ j, j < i → qJ s.2 22 j = bJk b j 6) ∧ qJ s.2 22 i = bJk b i k) (fun s => s.1.toNatClampNeg) ⟨rfl, by rw [e0]; exact s2.tr (Fg.cJ _ _ _ _) rfl rfl, by rw [e0]; exact s3, fun j hj => by rw [e0, uJ_at, if_neg (by omega)]; exact s4 j hj, by rw [e0, uJ_at, if_pos rfl]; rfl⟩ (fun k s hk p => by rw [p.1]; exact nI_clamp (by omega)) ?_ ?_
    · rintro k ⟨k', g1⟩ hk ⟨u1, u2, u3, u4, u5⟩ back2 hb2
      dsimp only at u1 u2 u3 u4 u5
      subst u1
      refine pk_le 6 k (fun z => by omega) (fun _ => ⟨22, by rw [u2.R rfl]; exact r7, by rw [u2.L, l22]; exact vp_in_nI (by omega) (by decide), ?_⟩)
      dsimp only
      rw [x6]
      refine byteAt_ok (t.ag (u2.ag rfl)) (by omega) ⟨by rw [u2.L, l22]; exact vp_in_nI (by omega) (by decide), fun g2 e2 w ew => hb2 _ ?_⟩
      rw [ci, u5] at e2
      refine ⟨by rw [ew]; exact nI_1 k, by rw [e2]; exact u2.tr (Fg.cJ _ _ _ _) rfl rfl, by rw [e2]; exact u3, fun j hj => ?_, ?_⟩
      · show qJ g2 22 j = _
        rw [e2, uJ_at, if_neg (by omega)]; exact u4 j hj
      · show qJ g2 22 i = _
        rw [e2, uJ_at, if_pos rfl]; rfl
    · rintro ⟨k', g1⟩ ⟨u1, u2, u3, u4, u5⟩ back2
      dsimp only at u1 u2 u3 u4 u5
      subst u1
      refine pk_le 6 6 (fun _ w ew => hb _ ⟨by rw [ew]; exact nI_1 i, u2, u3, fun j hj => ?_⟩) (fun z => by omega)
      rcases (show j < i ∨ j = i by omega) with y | y
      · exact u4 j y
      · rw [y]; exact u5
  · rintro ⟨i', g⟩ ⟨s1, s2, s3, s4⟩ back
    dsimp only at s1 s2 s3 s4
    subst s1
    exact ⟨fun _ => q g s2 s3 s4, fun z => absurd (by rw [s3]; exact nI_le (Nat.le_refl m) (by omega)) z⟩
/-- what the looks of the set c bar, of the first n -/
def lJ (L : Nat → Int64) (c : Nat) : Nat → Int64
  | 0 => 0
  | i + 1 => if c / 2 ^ i % 2 = 0 then lJ L c i else lJ L c i ||| L i
def lkOk (L : Nat → Int64) (P : Int64) (m c : Nat) : Prop := lg_cmp (P &&& (lJ L c m ^^^ (-1))) 0 = 0
theorem lookedAt_ok {h : PH} {L : Nat → Int64} {m c : Nat} {Q : Int64 → PH → Prop} (r7 : qR h 18 7 = some 22) (l22 : qL h 22 = 10) (hm : m ≤ 10) (v8 : qI h 18 8 = nI m) (v22 : ∀ i, i < m → qJ h 22 i = L i) (hc : c < 4096) (q : Q (lJ L c m) h) : wp_X2_lookedAt 18 (nI c) h Q := by
  refine loopR m (fun i s => s = (lJ L c i, nI i, h)) (fun s => s.2.1.toNatClampNeg) rfl (fun k s hk p => by rw [p]; exact nI_clamp (by omega)) ?_ ?_
  · intro i s hi p back hb
    subst p
    have bt := (bitS hc (show i < 12 by omega)).1
    refine ⟨fun z => absurd z (by rw [v8]; exact nI_ge hi (by omega)), fun _ => ⟨fun z w ew => hb _ ?_, fun z => ⟨22, r7, by rw [l22]; exact vp_in_nI (by omega) (by decide), fun v ev w ew => hb _ ?_⟩⟩⟩
    · rw [ew, nI_1]
      show _ = (if _ then _ else _, _, _)
      rw [if_pos (bt.mp z)]
    · rw [nI_clamp (by omega), v22 i hi] at ev
      rw [ew, ev, nI_1]
      show _ = (if _ then _ else _, _, _)
      rw [if_neg (fun y => z (bt.mpr y))]
  · intro s p back
    subst p
    exact ⟨fun _ => q, fun z => absurd (by rw [v8]; exact nI_le (Nat.le_refl m) (by omega)) z⟩
/-- the best set of those below c -/
noncomputable def bst (ok : Nat → Prop) : Nat → Option Nat
  | 0 => none
  | c + 1 => match bst ok c with
    | none => @ite _ (ok c) (Classical.propDecidable _) (some c) none
    | some b => @ite _ (pcN 12 c < pcN 12 b ∧ ok c) (Classical.propDecidable _) (some c) (some b)
def oI (o : Option Nat) : Int32 := match o with
  | none => -1
  | some c => nI c
theorem bst_n {ok : Nat → Prop} {c : Nat} (e : bst ok c = none) : (ok c → bst ok (c + 1) = some c) ∧ (¬ ok c → bst ok (c + 1) = none) := by
  have : bst ok (c + 1) = @ite _ (ok c) (Classical.propDecidable _) (some c) none := by
    show (match bst ok c with | none => _ | some b => _) = _
    rw [e]
  rw [this]
  exact ⟨fun h => if_pos h, fun h => if_neg h⟩
theorem bst_s {ok : Nat → Prop} {c b : Nat} (e : bst ok c = some b) : (pcN 12 c < pcN 12 b → ok c → bst ok (c + 1) = some c) ∧ (¬ (pcN 12 c < pcN 12 b ∧ ok c) → bst ok (c + 1) = some b) := by
  have : bst ok (c + 1) = @ite _ (pcN 12 c < pcN 12 b ∧ ok c) (Classical.propDecidable _) (some c) (some b) := by
    show (match bst ok c with | none => _ | some b => _) = _
    rw [e]
  rw [this]
  exact ⟨fun h h2 => if_pos ⟨h, h2⟩, fun h => if_neg h⟩
theorem bst_lt {ok : Nat → Prop} : ∀ {c b : Nat}, bst ok c = some b → b < c
  | 0, b, e => by cases e
  | c + 1, b, e => by
    cases h : bst ok c with
    | none =>
      by_cases o : ok c
      · rw [(bst_n h).1 o] at e; cases e; omega
      · rw [(bst_n h).2 o] at e; cases e
    | some a =>
      have := bst_lt h
      by_cases o : pcN 12 c < pcN 12 a ∧ ok c
      · rw [(bst_s h).1 o.1 o.2] at e; cases e; omega
      · rw [(bst_s h).2 o] at e; cases e; omega
theorem two_n : ∀ m, m ≤ 10 → (1 : Int32) <<< (nI m &&& 31) = nI (2 ^ m) := by decide +kernel
theorem bitcN {c : Nat} {h : PH} {Q : Int32 → PH → Prop} (hc : c < 4096) (q : Q (nI (pcN 12 c)) h) : wp_J6_bitCount_0f7a4 (nI c) h Q := by
  refine bitc_ok ?_
  rw [qU_nI (by omega), pc32_12 hc]
  exact q
theorem fewest_ok {h : PH} {L : Nat → Int64} {m : Nat} {Q : Int32 → PH → Prop} (r7 : qR h 18 7 = some 22) (l22 : qL h 22 = 10) (hm : m ≤ 10) (v8 : qI h 18 8 = nI m) (v22 : ∀ i, i < m → qJ h 22 i = L i)
    (q0 : bst (lkOk L (qJ h 18 6) m) (2 ^ m) = none → Q (-1) h) (q1 : ∀ c, bst (lkOk L (qJ h 18 6) m) (2 ^ m) = some c → ∀ h1, h1 = qsI h 18 9 (nI c) → Q (nI (pcN 12 c)) h1) : wp_X2_fewestLooks 18 h Q := by
  have p2 : 2 ^ m ≤ 1024 := Nat.pow_le_pow_right (n := 2) (by decide) hm
  have e2 : (1 : Int32) <<< (qI h 18 8 &&& 31) = nI (2 ^ m) := by rw [v8]; exact two_n m hm
  generalize hok : lkOk L (qJ h 18 6) m = ok at *
  refine loopR (2 ^ m) (fun c s => s = (oI (bst ok c), nI c, h)) (fun s => s.2.1.toNatClampNeg) rfl (fun k s hk p => by rw [p]; exact nI_clamp (by omega)) ?_ ?_
  · intro c s hc p back hb
    subst p
    have try1 : (∀ b, bst ok c = some b → pcN 12 c < pcN 12 b) → wp_X2_fewestLooks_35 18 (oI (bst ok c)) (nI c) 1 back h Q := by
      intro lt
      refine ⟨fun z => absurd z (by decide), fun _ => lookedAt_ok r7 l22 hm v8 v22 (by omega) ⟨fun z w ew => hb _ ?_, fun z w ew => hb _ ?_⟩⟩
      · have no : ¬ ok c := by rw [← hok]; exact z
        rw [ew, nI_1]
        cases hb2 : bst ok c with
        | none => rw [(bst_n hb2).2 no]
        | some b => rw [(bst_s hb2).2 (fun y => no y.2)]
      · have yes : ok c := by rw [← hok]; exact z
        rw [ew, nI_1]
        cases hb2 : bst ok c with
        | none => rw [(bst_n hb2).1 yes]; rfl
        | some b => rw [(bst_s hb2).1 (lt b hb2) yes]; rfl
    refine ⟨fun z => absurd z (by rw [e2]; exact nI_ge hc (by omega)), fun _ => ?_⟩
    cases hb2 : bst ok c with
    | none =>
      rw [hb2] at try1
      exact ⟨fun _ => try1 (fun b hb => by cases hb), fun z => absurd rfl z⟩
    | some b =>
      rw [hb2] at try1
      have bl := bst_lt hb2
      have q12 := pc12 (s := c) (by omega)
      have b12 := pc12 (s := b) (by omega)
      refine ⟨fun z => absurd z (nI_m1 (by omega)), fun _ => bitcN (by omega) (bitcN (by omega) (pk_le (pcN 12 b) (pcN 12 c) (fun z => ⟨fun _ w ew => hb _ ?_, fun y => absurd rfl y⟩) (fun z => try1 (fun b' hb' => by cases hb'; exact z))))⟩
      rw [ew, nI_1, (bst_s hb2).2 (fun y => by omega)]
  · intro s p back
    subst p
    refine ⟨fun _ => ?_, fun z => absurd (by rw [e2]; exact nI_le (Nat.le_refl _) (by omega)) z⟩
    cases hb2 : bst ok (2 ^ m) with
    | none => exact ⟨fun z => absurd rfl z, fun _ => q0 hb2⟩
    | some c =>
      have := bst_lt hb2
      exact ⟨fun _ h1 e1 => bitcN (by omega) (q1 c hb2 h1 e1), fun z => absurd z (nI_m1 (by omega))⟩
theorem mfewest_ok {h : PH} {L : Nat → Int64} {m : Nat} {Q : Int32 → PH → Prop} (r55 : qR h 70 55 = some 88) (l88 : qL h 88 = 10) (hm : m ≤ 10) (v88 : ∀ i, i < m → qJ h 88 i = L i)
    (q0 : bst (lkOk L (qJ h 70 53) m) (2 ^ m) = none → Q (-1) h) (q1 : ∀ c, bst (lkOk L (qJ h 70 53) m) (2 ^ m) = some c → ∀ h1, h1 = qsI h 70 56 (nI c) → Q (nI (pcN 12 c)) h1) : qLoop (wp_X12_looks_114 70 (nI m) Q) ((-1), 0, h) := by
  have p2 : 2 ^ m ≤ 1024 := Nat.pow_le_pow_right (n := 2) (by decide) hm
  have e2 : (1 : Int32) <<< (nI m &&& 31) = nI (2 ^ m) := two_n m hm
  generalize hok : lkOk L (qJ h 70 53) m = ok at *
  refine loopR (2 ^ m) (fun c s => s = (oI (bst ok c), nI c, h)) (fun s => s.2.1.toNatClampNeg) rfl (fun k s hk p => by rw [p]; exact nI_clamp (by omega)) ?_ ?_
  · intro c s hc p back hb
    subst p
    have try1 : (∀ b, bst ok c = some b → pcN 12 c < pcN 12 b) → qLoop (wp_X12_looks_148 70 (nI m) (oI (bst ok c)) (nI c) back Q) (0, 0, h) := by
      intro lt
      refine loopR m (fun i s => s = (lJ L c i, nI i, h)) (fun s => s.2.1.toNatClampNeg) rfl (fun k s hk p => by rw [p]; exact nI_clamp (by omega)) ?_ ?_
      · intro i s hi p back2 hb2
        subst p
        have bt := (bitS (show c < 4096 by omega) (show i < 12 by omega)).2
        refine pk_le m i (fun z => by omega) (fun _ => ⟨fun z w ew => hb2 _ ?_, fun z => ⟨88, r55, by rw [l88]; exact vp_in_nI (by omega) (by decide), fun v ev w ew => hb2 _ ?_⟩⟩)
        · rw [ew, nI_1]
          show _ = (if _ then _ else _, _, _)
          rw [if_pos (Classical.byContradiction (fun y => z (bt.mpr y)))]
        · rw [nI_clamp (by omega), v88 i hi] at ev
          rw [ew, ev, nI_1]
          show _ = (if _ then _ else _, _, _)
          rw [if_neg (bt.mp z)]
      · intro s p back2
        subst p
        refine pk_le m m (fun _ => ⟨fun z w ew => hb _ ?_, fun z w ew => hb _ ?_⟩) (fun z => by omega)
        · have no : ¬ ok c := by rw [← hok]; exact z
          rw [ew, nI_1]
          cases hb2 : bst ok c with
          | none => rw [(bst_n hb2).2 no]
          | some b => rw [(bst_s hb2).2 (fun y => no y.2)]
        · have yes : ok c := by rw [← hok]; exact z
          rw [ew, nI_1]
          cases hb2 : bst ok c with
          | none => rw [(bst_n hb2).1 yes]; rfl
          | some b => rw [(bst_s hb2).1 (lt b hb2) yes]; rfl
    refine ⟨fun z => absurd z (by rw [e2]; exact nI_ge hc (by omega)), fun _ => ?_⟩
    cases hb2 : bst ok c with
    | none =>
      rw [hb2] at try1
      exact ⟨fun _ => try1 (fun b hb => by cases hb), fun z => absurd rfl z⟩
    | some b =>
      rw [hb2] at try1
      have bl := bst_lt hb2
      have q12 := pc12 (s := c) (by omega)
      have b12 := pc12 (s := b) (by omega)
      refine ⟨fun z => absurd z (nI_m1 (by omega)), fun _ => mbits_ok (by omega) (mbits_ok (by omega) (pk_lt (pcN 12 c) (pcN 12 b) (fun z => try1 (fun b' hb' => by cases hb'; exact z)) (fun z w ew => hb _ ?_)))⟩
      rw [ew, nI_1, (bst_s hb2).2 (fun y => by omega)]
  · intro s p back
    subst p
    refine ⟨fun _ => ?_, fun z => absurd (by rw [e2]; exact nI_le (Nat.le_refl _) (by omega)) z⟩
    cases hb2 : bst ok (2 ^ m) with
    | none => exact ⟨fun z => absurd rfl z, fun _ => q0 hb2⟩
    | some c =>
      have := bst_lt hb2
      exact ⟨fun _ h1 e1 => mbits_ok (by omega) (q1 c hb2 h1 e1), fun z => absurd z (nI_m1 (by omega))⟩
theorem op_looks {h : PH} (i : Inv h) : wp_X11_looks 0 h (fun r h1 => wp_X12_looks 70 h1 (Both h r)) := by
  obtain ⟨N, rb, n, Ds, d, e, id⟩ := i.2.2.1
  have sh := i.1
  obtain ⟨len, t1, t2, t3, t4⟩ := i.2.1
  obtain ⟨fd1, fd2, fd3, fd4⟩ := i.2.2.2.2.2.2.1
  have r0 : qR h 0 0 = some 1 := sh.R 0 0 1 (by decide)
  obtain ⟨b, bt⟩ := BT.ex (h := h) (sh.R 1 0 2 (by decide)) (sh.L 2 (by decide) rfl)
  refine ⟨1, r0, fun v3 e3 => ⟨1, r0, fun h6 e6 v7 e7 => ?_⟩⟩
  rw [t2] at e3
  subst e3
  have f6 : Fg [] [(1, 1)] h h6 := by rw [e6]; exact Fg.sI _ _ _ _
  have z6 : qI h6 1 1 = 0 := by rw [e6]; simp only [qI_sI]; simp
  have ml : nI len - nI len / 6 * 6 = nI (len % 6) := pk_rem (d := 6) (by omega) (by decide) (by decide)
  have dl6 : nI len / 6 = nI (len / 6) := pk_div (d := 6) (by omega) (by decide) (by decide)
  rw [dl6] at e7
  subst e7
  have sh6 := sh.fg f6 rfl
  have q4 : qI h6 18 4 = qI h 18 4 := f6.I rfl
  -- the model, emptied
  have mbeg : ∀ (h9 g1 : PH) {S : List Nat} {F : List (Nat × Nat)}, Fg S F h h9 → fno S F 70 2 = true → qI h9 1 1 = 0 → g1 = qsI (qsI h9 70 0 0) 70 2 0 → Fg [] [(70, 0), (70, 2)] h9 g1 ∧ qI g1 70 2 = 0 ∧ qI g1 1 1 = 0 ∧ qI (qsI h9 70 0 0) 70 2 = nI len := by
    intro h9 g1 S F f9 c9 z9 e1
    refine ⟨by rw [e1]; exact (Fg.sI _ _ _ _).tr (Fg.sI _ _ _ _) rfl rfl, by rw [e1]; simp only [qI_sI]; simp, by rw [e1]; simp only [qI_sI]; simp; exact z9, ?_⟩
    simp only [qI_sI]; simp; rw [f9.I c9]; exact t3
  have done : ∀ (r : Int32) (g1 : PH), Fg [] [(70, 0), (70, 2)] h6 g1 → qI g1 70 2 = 0 → qI g1 1 1 = 0 → Both h r r g1 := fun r g1 k1 a1 a2 => by
    have k : Fg [] [(1, 1), (70, 0), (70, 2)] h g1 := f6.tr k1 rfl rfl
    exact ⟨rfl, i.emp id k a2 a1 (id.2.2.1.ag (k.ag rfl)) rfl rfl rfl rfl rfl rfl (i.2.2.2.2.2.2.1.ag (k.ag rfl)) rfl rfl rfl rfl, k.rm⟩
  have bad : ¬ (¬ qI h 18 4 = 0 ∧ len % 6 = 0 ∧ 1 ≤ len / 6 ∧ len / 6 ≤ 10) → wp_X12_looks 70 h6 (Both h (-2)) := by
    intro no g0 e0 v1 ev1 g1 e1
    rw [e0] at e1 ev1
    obtain ⟨k1, a1, a2, a3⟩ := mbeg h6 g1 f6 rfl z6 e1
    rw [a3] at ev1
    subst ev1
    have q54 : qI g1 70 54 = qI h 70 54 := by rw [k1.I rfl, f6.I rfl]
    rw [ml, dl6]
    refine ⟨fun _ => done _ g1 k1 a1 a2, fun c0 => n_eq (len % 6) 0 (fun z => done _ g1 k1 a1 a2) (fun z => isIn1_ok (M := 10) rfl rfl (by decide) (by omega) (fun z1 z2 => absurd ⟨fun y => c0 (by rw [q54]; exact fd2.mp y), z, z1, z2⟩ no) (fun _ => ⟨fun z => absurd rfl z, fun _ => done _ g1 k1 a1 a2⟩))⟩
  refine ⟨18, sh6.R 0 6 18 (by decide), fun c0 => bad (fun z => z.1 (by rw [← q4]; exact c0)), fun c0 => ?_⟩
  rw [ml]
  refine n_eq (len % 6) 0 (fun z => bad (fun y => z y.2.1)) (fun zm => pk_lt (len / 6) 1 (fun z => bad (by omega)) (fun z1 => pk_le (len / 6) 10 (fun z10 => ⟨18, sh6.R 0 6 18 (by decide), 1, sh6.R 0 0 1 (by decide), ?_⟩) (fun z => bad (by omega))))
  obtain ⟨m, em⟩ : ∃ m, m = len / 6 := ⟨_, rfl⟩
  rw [← em]
  refine readL_ok (bt.ag (f6.ag rfl)) (sh6.R 18 7 22 (by decide)) (sh6.L 22 (by decide) rfl) (by omega) (fun h8 f8 v8 v22 => ?_)
  have f68 : Fg [22] [(1, 1), (18, 8)] h h8 := f6.tr f8 rfl rfl
  have sh8 := sh.fg f68 rfl
  have z8 : qI h8 1 1 = 0 := by rw [f8.I rfl]; exact z6
  have J8 : qJ h8 18 6 = qJ h 70 53 := by rw [f68.J rfl]; exact fd3
  have mod : ∀ (h9 : PH) (r : Int32), Fg [22] [(1, 1), (18, 8), (18, 9)] h h9 → qI h9 1 1 = 0 → (bst (lkOk (fun i => bJk b i 6) (qJ h 70 53) m) (2 ^ m) = none → r = -1 ∧ qI h9 18 9 = qI h 18 9) → (∀ c, bst (lkOk (fun i => bJk b i 6) (qJ h 70 53) m) (2 ^ m) = some c → r = nI (pcN 12 c) ∧ qI h9 18 9 = nI c) → wp_X12_looks 70 h9 (Both h r) := by
    intro h9 r f9 z9 a1 a2 g0 e0 v1 ev1 g1 e1
    rw [e0] at e1 ev1
    obtain ⟨k1, b1, b2, b3⟩ := mbeg h9 g1 f9 rfl z9 e1
    rw [b3] at ev1
    subst ev1
    have sh9 := sh.fg f9 rfl
    have q54 : qI g1 70 54 = qI h 70 54 := by rw [k1.I rfl, f9.I rfl]
    rw [ml, dl6, ← em]
    refine ⟨fun z => absurd (by rw [q4]; exact fd2.mpr (by rw [← q54]; exact z)) c0, fun _ => n_eq (len % 6) 0 (fun z => absurd zm z) (fun _ => isIn1_ok (M := 10) rfl rfl (by decide) (by omega) (fun _ _ => ⟨fun _ v9 e9 => ?_, fun z => absurd z (by decide)⟩) (fun z => by omega))⟩
    subst e9
    refine loopR m (fun i s => s.1 = nI i ∧ Fg [88] [] g1 s.2 ∧ ∀ j, j < i → qJ s.2 88 j = bJk b j 6) (fun s => s.1.toNatClampNeg) ⟨rfl, Fg.rf _ _ _, fun j hj => absurd hj (Nat.not_lt_zero j)⟩ (fun k s hk p => by rw [p.1]; exact nI_clamp (by omega)) ?_ ?_
    · rintro i ⟨i', g⟩ hi ⟨s1, s2, s3⟩ back hb
      dsimp only at s1 s2 s3
      subst s1
      have ci : (nI i).toNatClampNeg = i := nI_clamp (by omega)
      have shg : ∀ g, Fg [88] [] g1 g → Shp g := fun g k => (sh9.fg (k1.tr k (U := [88]) (V := [(70, 0), (70, 2)]) rfl rfl) rfl)
      have tp : ∀ g, Fg [88] [] g1 g → ∀ j, j < 640 → qI g 71 j = nI (b j) := fun g k j hj => by
        rw [(k.ag (C := [71]) (G := []) rfl).I rfl, (k1.ag (C := [71]) (G := []) rfl).I rfl, (f9.ag (C := [71]) (G := []) rfl).I rfl, t4 j hj]; exact (bt.2.2 j hj).1
      have sg := shg g s2
      refine pk_le m i (fun z => by omega) (fun _ => ⟨88, sg.R 70 55 88 (by decide), by rw [sg.L 88 (n := 10) (by decide) rfl]; exact vp_in_nI (by omega) (by decide), fun g0 e0 => ?_⟩)
      dsimp only at e0
      rw [ci] at e0
      refine loopR 6 (fun k s => s.1 = nI k ∧ Fg [88] [] g1 s.2 ∧ (∀ j, j < i → qJ s.2 88 j = bJk b j 6) ∧ qJ s.2 88 i = bJk b i k) (fun s => s.1.toNatClampNeg) ⟨rfl, by rw [e0]; exact s2.tr (Fg.cJ _ _ _ _) rfl rfl, fun j hj => by rw [e0, uJ_at, if_neg (by omega)]; exact s3 j hj, by rw [e0, uJ_at, if_pos rfl]; rfl⟩ (fun k s hk p => by rw [p.1]; exact nI_clamp (by omega)) ?_ ?_
      · rintro k ⟨k', g3⟩ hk ⟨u1, u2, u3, u4⟩ back2 hb2
        dsimp only at u1 u2 u3 u4
        subst u1
        have s3g := shg g3 u2
        have l88 : vp_in (nI i) (qL g3 88) := by rw [s3g.L 88 (n := 10) (by decide) rfl]; exact vp_in_nI (by omega) (by decide)
        refine pk_le 6 k (fun z => by omega) (fun _ => ⟨88, s3g.R 70 55 88 (by decide), l88, 71, s3g.R 70 1 71 (by decide), ?_, l88, fun g4 e4 w ew => hb2 _ ?_⟩)
        · dsimp only
          rw [x6, s3g.L 71 (n := 640) (by decide) rfl]; exact vp_in_nI (by omega) (by decide)
        · dsimp only at e4
          rw [x6, ci, nI_clamp (by omega), tp g3 u2 _ (by omega), u4] at e4
          refine ⟨by rw [ew]; exact nI_1 k, by rw [e4]; exact u2.tr (Fg.cJ _ _ _ _) rfl rfl, fun j hj => ?_, ?_⟩
          · show qJ g4 88 j = _
            rw [e4, uJ_at, if_neg (by omega)]; exact u3 j hj
          · show qJ g4 88 i = _
            rw [e4, uJ_at, if_pos rfl]; rfl
      · rintro ⟨k', g3⟩ ⟨u1, u2, u3, u4⟩ back2
        dsimp only at u1 u2 u3 u4
        subst u1
        refine pk_le 6 6 (fun _ w ew => hb _ ⟨by rw [ew]; exact nI_1 i, u2, fun j hj => ?_⟩) (fun z => by omega)
        rcases (show j < i ∨ j = i by omega) with y | y
        · exact u3 j y
        · rw [y]; exact u4
    · rintro ⟨i', g⟩ ⟨s1, s2, s3⟩ back
      dsimp only at s1 s2 s3
      subst s1
      have k9 : Fg [88] [(70, 0), (70, 2)] h9 g := k1.tr s2 rfl rfl
      have sg := sh9.fg k9 rfl
      have Jg : qJ g 70 53 = qJ h 70 53 := by rw [k9.J rfl, f9.J rfl]
      have c1 : qI g 1 1 = 0 := by rw [s2.I rfl]; exact b2
      have c2 : qI g 70 2 = 0 := by rw [s2.I rfl]; exact b1
      have kB : Fg [22, 88] [(1, 1), (18, 8), (18, 9), (70, 0), (70, 2)] h g := f9.tr k9 rfl rfl
      refine pk_le m m (fun _ => mfewest_ok (L := fun i => bJk b i 6) (sg.R 70 55 88 (by decide)) (sg.L 88 (by decide) rfl) (by omega) s3 (fun y => ?_) (fun c y g5 e5 => ?_)) (fun z => by omega)
      · rw [Jg] at y
        obtain ⟨x1, x2⟩ := a1 y
        refine ⟨x1, i.emp id kB c1 c2 (id.2.2.1.ag (kB.ag rfl)) rfl rfl rfl rfl rfl rfl ?_ rfl rfl rfl rfl, kB.rm⟩
        have cag := kB.ag (C := [20, 21, 86, 87]) (G := [(18, 4), (18, 5), (18, 6), (70, 52), (70, 53), (70, 54), (70, 56)]) rfl
        obtain ⟨T, w1, w2, w3, w4⟩ := fd1
        refine ⟨⟨T, w1, by rw [cag.i rfl]; exact w2, by rw [cag.i rfl]; exact w3, fun k hk hk2 => by rw [cag.I rfl, cag.I rfl, cag.I rfl, cag.I rfl]; exact w4 k hk hk2⟩, by rw [cag.i rfl, cag.i rfl]; exact fd2, by rw [cag.j rfl, cag.j rfl]; exact fd3, ?_⟩
        rw [k9.I rfl, x2, fd4, cag.i rfl]
      · rw [Jg] at y
        obtain ⟨x1, x2⟩ := a2 c y
        have k5 : Fg [] [(70, 56)] g g5 := by rw [e5]; exact Fg.sI _ _ _ _
        have kC : Fg [22, 88] [(1, 1), (18, 8), (18, 9), (70, 0), (70, 2), (70, 56)] h g5 := kB.tr k5 rfl rfl
        have cag := kC.ag (C := [20, 21, 86, 87]) (G := [(18, 4), (18, 5), (18, 6), (70, 52), (70, 53), (70, 54)]) rfl
        refine ⟨x1, i.emp id kC (by rw [k5.I rfl]; exact c1) (by rw [k5.I rfl]; exact c2) (id.2.2.1.ag (kC.ag rfl)) rfl rfl rfl rfl rfl rfl ?_ rfl rfl rfl rfl, kC.rm⟩
        obtain ⟨T, w1, w2, w3, w4⟩ := fd1
        refine ⟨⟨T, w1, by rw [cag.i rfl]; exact w2, by rw [cag.i rfl]; exact w3, fun k hk hk2 => by rw [cag.I rfl, cag.I rfl, cag.I rfl, cag.I rfl]; exact w4 k hk hk2⟩, by rw [cag.i rfl, cag.i rfl]; exact fd2, by rw [cag.j rfl, cag.j rfl]; exact fd3, ?_⟩
        rw [k5.I rfl, k9.I rfl, x2, e5]; simp only [qI_sI]; simp
  refine ⟨18, sh8.R 0 6 18 (by decide), fewest_ok (L := fun i => bJk b i 6) (sh8.R 18 7 22 (by decide)) (sh8.L 22 (by decide) rfl) (by omega) v8 v22 (fun y => ?_) (fun c y h9 e9 => ?_)⟩
  · rw [J8] at y
    exact mod h8 (-1) (f68.mono rfl) z8 (fun _ => ⟨rfl, f68.I rfl⟩) (fun c z => by rw [y] at z; cases z)
  · rw [J8] at y
    have f9 : Fg [] [(18, 9)] h8 h9 := by rw [e9]; exact Fg.sI _ _ _ _
    refine mod h9 _ (f68.tr f9 rfl rfl) (by rw [f9.I rfl]; exact z8) (fun z => by rw [y] at z; cases z) (fun c' z => ?_)
    rw [y] at z
    cases z
    exact ⟨rfl, by rw [e9]; simp only [qI_sI]; simp⟩

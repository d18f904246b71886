/-! ===== PURE: the call hidden ===== -/
/-- the tape's bytes -/
def BT (h : PH) (b : Nat → Nat) : Prop := qR h 1 0 = some 2 ∧ qL h 2 = 640 ∧ ∀ j, j < 640 → qI h 2 j &&& 255 = nI (b j) ∧ b j < 256
theorem BT.ex {h : PH} (hr : qR h 1 0 = some 2) (hl : qL h 2 = 640) : ∃ b, BT h b := by
  refine ⟨fun j => (qI h 2 j).toBitVec.toNat % 2 ^ 8, hr, hl, fun j _ => ⟨pk_and _ 8 (m := 255) (by decide), Nat.mod_lt _ (by decide)⟩⟩
theorem BT.ag {h h1 : PH} {b : Nat → Nat} (t : BT h b) (f : Ag [2] [(1, 0)] h h1) : BT h1 b := ⟨by rw [f.r rfl]; exact t.1, by rw [f.L rfl]; exact t.2.1, fun j hj => by rw [f.I rfl]; exact t.2.2 j hj⟩
theorem byteAt_ok {h : PH} {b : Nat → Nat} {j : Nat} {Q : Int32 → PH → Prop} (t : BT h b) (hj : j < 640) (q : Q (nI (b j)) h) : wp_X6_byteAt 1 (nI j) h Q := by
  refine ⟨fun z => absurd z (nI_pos (by omega)), fun _ => ⟨2, t.1, ?_⟩⟩
  rw [t.2.1]
  refine pk_le 640 j (fun z => by omega) (fun _ => ⟨2, t.1, by rw [t.2.1]; exact vp_in_nI hj (by decide), ?_⟩)
  rw [nI_clamp (by omega), (t.2.2 j hj).1]
  exact q
def shV (b : Nat → Nat) (k : Nat) : Nat := 256 * b (2 * k) + b (2 * k + 1)
theorem show_ok {h : PH} {b : Nat → Nat} {m : Nat} {Q : PH → Prop} (t : BT h b) (r0 : qR h 18 0 = some 19) (l19 : qL h 19 = 60) (hm : m ≤ 60)
    (q : ∀ h1, Fg [19] [(18, 3)] h h1 → qI h1 18 3 = nI m → (∀ k, k < m → qI h1 19 k = nI (shV b k)) → Q h1) : wp_X2_show 18 1 (nI m) h Q := by
  refine min_ok ?_
  rw [show qmin (nI m) 60 = nI m from (qmin_n (b := 60) (by omega) (by decide)).trans (by rw [Nat.min_eq_left hm])]
  intro h3 e3
  have f3 : Fg [19] [(18, 3)] h h3 := by rw [e3]; exact (Fg.sI _ _ _ _).mono rfl
  have v3 : qI h3 18 3 = nI m := by rw [e3]; simp only [qI_sI]; simp
  refine loopR m (fun k s => s.1 = nI k ∧ Fg [19] [(18, 3)] h s.2 ∧ qI s.2 18 3 = nI m ∧ ∀ j, j < k → qI s.2 19 j = nI (shV b j)) (fun s => s.1.toNatClampNeg) ⟨rfl, f3, v3, fun j hj => absurd hj (Nat.not_lt_zero j)⟩ (fun k s hk p => by rw [p.1]; exact nI_clamp (by omega)) ?_ ?_
  · rintro k ⟨k', g⟩ hk ⟨s1, s2, s3, s4⟩ back hb
    dsimp only at s1 s2 s3 s4
    subst s1
    have tg := t.ag (s2.ag rfl)
    refine ⟨fun z => absurd z (by rw [s3]; exact nI_ge hk (by omega)), fun _ => ⟨19, by rw [s2.R rfl]; exact r0, ?_⟩⟩
    dsimp only
    rw [show 2 * nI k = nI (2 * k) by rw [show (2 : Int32) = nI 2 from rfl, pk_mul]]
    refine byteAt_ok tg (by omega) ?_
    rw [nI_1]
    refine byteAt_ok tg (by omega) ⟨by rw [s2.L, l19]; exact vp_in_nI (by omega) (by decide), fun g2 e2 w ew => hb _ ?_⟩
    rw [nI_clamp (by omega), show nI (b (2 * k)) * 256 + nI (b (2 * k + 1)) = nI (shV b k) by rw [show (256 : Int32) = nI 256 from rfl, pk_mul, nI_add, Nat.mul_comm]; rfl] at e2
    refine ⟨by rw [ew]; exact nI_1 k, by rw [e2]; exact s2.tr (Fg.cI _ _ _ _) rfl rfl, by rw [e2, qI_sI, if_neg (by simp)]; exact s3, fun j hj => ?_⟩
    show qI g2 19 j = _
    rw [e2, rI_sI, if_pos rfl, up_at]
    by_cases z : j = k
    · rw [if_pos z, z]
    · rw [if_neg z]; exact s4 j (by omega)
  · rintro ⟨k', g⟩ ⟨s1, s2, s3, s4⟩ back
    dsimp only at s1 s2 s3 s4
    subst s1
    exact ⟨fun _ => q g s2 s3 s4, fun z => absurd (by rw [s3]; exact nI_le (Nat.le_refl m) (by omega)) z⟩
/-! which g come so -/
def hA (F : Nat → Int) (N t0 : Nat) (push : Int) : Nat → Int
  | 0 => push
  | k + 1 => hA F N t0 push k + F ((t0 + k) % N)
theorem hA_bd {F : Nat → Int} {N t0 : Nat} {push : Int} (h0 : 0 < N) (hF : ∀ t, t < N → -580000 ≤ F t ∧ F t ≤ 580000) (hp : 0 ≤ push ∧ push ≤ 100000) : ∀ k : Nat, -(580000 * (k : Int)) ≤ hA F N t0 push k ∧ hA F N t0 push k ≤ 100000 + 580000 * (k : Int)
  | 0 => by unfold hA; omega
  | k + 1 => by
    have ih := hA_bd h0 hF hp k (t0 := t0)
    have f := hF ((t0 + k) % N) (Nat.mod_lt _ h0)
    unfold hA
    omega
def hOk (A : Nat → Int) (C : Nat → Nat) (sv : Nat → Nat) (k g : Nat) : Prop := ∀ j, j < k → 10 * (sv j : Int) ≤ A (j + 1) + ((C (j + 1) * g : Nat) : Int) ∧ A (j + 1) + ((C (j + 1) * g : Nat) : Int) ≤ 10 * (sv j : Int) + 9
theorem hOk_s {A : Nat → Int} {C : Nat → Nat} {sv : Nat → Nat} {k g : Nat} : hOk A C sv (k + 1) g ↔ hOk A C sv k g ∧ (10 * (sv k : Int) ≤ A (k + 1) + ((C (k + 1) * g : Nat) : Int) ∧ A (k + 1) + ((C (k + 1) * g : Nat) : Int) ≤ 10 * (sv k : Int) + 9) := by
  constructor
  · intro h; exact ⟨fun j hj => h j (by omega), h k (by omega)⟩
  · rintro ⟨a, b⟩ j hj
    rcases (show j < k ∨ j = k by omega) with z | z
    · exact a j z
    · rw [z]; exact b
theorem div10 {v : Int32} {s : Nat} (h0 : 0 ≤ v.toInt) (hs : s < 65536) : v / 10 = nI s ↔ (10 * (s : Int) ≤ v.toInt ∧ v.toInt ≤ 10 * (s : Int) + 9) := by
  have r := fb_rng v
  have e10 : (10 : Int32).toInt = 10 := rfl
  have e : (v / 10).toInt = v.toInt / 10 := by
    rw [Int32.toInt_div, e10, Int.tdiv_eq_ediv_of_nonneg h0, fb_bmod (by omega) (by omega)]
  rw [← Int32.toInt_inj, e, nI_toInt (by omega)]
  omega
theorem i_lt0 {x : Int32} : x < 0 ↔ x.toInt < 0 := by rw [Int32.lt_iff_toInt_lt, i0]
theorem comesW_ok {h : PH} {N m t0 push : Nat} {F B : Nat → Int32} {sv : Nat → Nat} {Q : Int32 → PH → Prop} (w : WF h N F B) (ht : t0 < N) (hpu : push ≤ 100000) (hF : ∀ t, t < N → -580000 ≤ (F t).toInt ∧ (F t).toInt ≤ 580000) (r0 : qR h 18 0 = some 19) (l19 : qL h 19 = 60) (hm : m ≤ 60) (v3 : qI h 18 3 = nI m) (v19 : ∀ k, k < m → qI h 19 k = nI (sv k)) (hsv : ∀ k, sv k < 65536)
    (q1 : hOk (hA (fun t => (F t).toInt) N t0 push) (fun _ => 0) sv m 0 → Q 1 h) (q0 : ¬ hOk (hA (fun t => (F t).toInt) N t0 push) (fun _ => 0) sv m 0 → Q 0 h) : wp_X2_comesWithout 18 13 (nI t0) (nI push) h Q := by
  obtain ⟨⟨w1, w2, w3⟩, _, w4, w5, w6⟩ := w
  generalize hh : hA (fun t => (F t).toInt) N t0 push = A at *
  have bA : ∀ k : Nat, -(580000 * (k : Int)) ≤ A k ∧ A k ≤ 100000 + 580000 * (k : Int) := fun k => by rw [← hh]; exact hA_bd (push := push) (by omega) hF (by omega) k
  refine loopR m (fun k s => s.1.toInt = A k ∧ s.2.1 = nI ((t0 + k) % N) ∧ s.2.2.1 = nI k ∧ s.2.2.2 = h ∧ hOk A (fun _ => 0) sv k 0) (fun s => s.2.2.1.toNatClampNeg) ⟨by rw [← hh]; exact nI_toInt (by omega), by rw [Nat.add_zero, Nat.mod_eq_of_lt ht], rfl, rfl, fun j hj => absurd hj (Nat.not_lt_zero j)⟩ (fun k s hk p => by rw [p.2.2.1]; exact nI_clamp (by omega)) ?_ ?_
  · rintro k ⟨e, t, k', h'⟩ hk ⟨p1, p2, p3, p4, p5⟩ back hb
    dsimp only at p1 p2 p3 p4 p5
    subst p2 p3 p4
    have hmm : (t0 + k) % N < N := Nat.mod_lt _ (by omega)
    have ba := bA k
    have fb := hF _ hmm
    have sA : A (k + 1) = A k + (F ((t0 + k) % N)).toInt := by rw [← hh]; rfl
    refine ⟨fun z => absurd z (by rw [v3]; exact nI_ge hk (by omega)), fun _ => ⟨14, w1, by rw [w2]; exact vp_in_nI (by omega) (by decide), fun v ev => ?_⟩⟩
    rw [nI_clamp (by omega), w3 _ hmm] at ev
    have ev2 : v.toInt = A (k + 1) := by rw [ev, fb_addI (by rw [p1]; omega) (by rw [p1]; omega), p1, sA]
    have nx : ¬ (10 * (sv k : Int) ≤ A (k + 1) ∧ A (k + 1) ≤ 10 * (sv k : Int) + 9) → Q 0 h' := fun z => q0 (fun y => z (by
      have := y k hk
      rw [show ((0 * 0 : Nat) : Int) = 0 from rfl] at this
      omega))
    refine ⟨fun z => nx (by rw [i_lt0, ev2] at z; omega), fun z => ⟨19, r0, by rw [l19]; exact vp_in_nI (by omega) (by decide), ?_⟩⟩
    dsimp only
    rw [nI_clamp (show k < 2 ^ 31 by omega), v19 k hk]
    have d := div10 (v := v) (s := sv k) (by rw [i_lt0] at z; omega) (hsv k)
    rw [ev2] at d
    refine ⟨fun y => after_ok w4 w6 hmm (fun w ew => hb _ ⟨ev2, by rw [Nat.mod_add_mod, Nat.add_assoc], by rw [ew]; exact nI_1 k, rfl, hOk_s.mpr ⟨p5, ?_⟩⟩), fun y => nx (fun x => y (d.mpr x))⟩
    rw [show ((0 * 0 : Nat) : Int) = 0 from rfl]
    have := d.mp y
    omega
  · rintro ⟨e, t, k', h'⟩ ⟨p1, p2, p3, p4, p5⟩ back
    dsimp only at p1 p2 p3 p4 p5
    subst p2 p3 p4
    exact ⟨fun _ => q1 p5, fun z => absurd (by rw [v3]; exact nI_le (Nat.le_refl m) (by omega)) z⟩
/-! what is found, one behind the other -/
def tJ (T : List (Nat × Nat)) : Int64 := T.foldl (fun J p => J ||| (1 <<< ((nI p.1).toInt64 &&& 63))) 0
theorem tJ_s (T : List (Nat × Nat)) (x g : Nat) : tJ (T ++ [(x, g)]) = tJ T ||| (1 <<< ((nI x).toInt64 &&& 63)) := by
  unfold tJ
  rw [List.foldl_append]; rfl
def hasP (h : PH) (a b : Nat) (T : List (Nat × Nat)) : Prop := ∀ k (hk : k < T.length), k < 200 → qI h a k = nI (T[k]).1 ∧ qI h b k = nI (T[k]).2
theorem hasP_push {h : PH} {a b x g : Nat} {T : List (Nat × Nat)} (hab : a ≠ b) (p : hasP h a b T) : hasP (qsI (qsI h a T.length (nI x)) b T.length (nI g)) a b (T ++ [(x, g)]) := by
  intro k hk h2
  rw [List.length_append] at hk
  have hk : k < T.length + 1 := hk
  rw [rI_sI, if_neg hab, rI_sI, if_pos rfl, up_at, rI_sI, if_pos rfl, up_at, rI_sI, if_neg (Ne.symm hab)]
  by_cases c : k = T.length
  · subst c
    rw [if_pos rfl, if_pos rfl, List.getElem_append_right (Nat.le_refl _)]
    simp
  · rw [if_neg c, if_neg c]
    have : k < T.length := by omega
    rw [List.getElem_append_left this]
    exact p k this h2
theorem hasP_skip {h : PH} {a b x g : Nat} {T : List (Nat × Nat)} (hl : 200 ≤ T.length) (p : hasP h a b T) : hasP h a b (T ++ [(x, g)]) := by
  intro k hk h2
  have : k < T.length := by omega
  rw [List.getElem_append_left this]
  exact p k this h2
theorem hasP_ag {h h1 : PH} {a b : Nat} {T : List (Nat × Nat)} (p : hasP h a b T) (ea : ∀ j, qI h1 a j = qI h a j) (eb : ∀ j, qI h1 b j = qI h b j) : hasP h1 a b T := fun k hk h2 => by rw [ea, eb]; exact p k hk h2
def FLc (h : PH) (T : List (Nat × Nat)) : Prop := qI h 18 5 = nI T.length ∧ qJ h 18 6 = tJ T ∧ hasP h 20 21 T
theorem FLc.ag {h h1 : PH} {T : List (Nat × Nat)} (p : FLc h T) (f : Ag [20, 21] [(18, 5), (18, 6)] h h1) : FLc h1 T := ⟨by rw [f.i rfl]; exact p.1, by rw [f.j rfl]; exact p.2.1, hasP_ag p.2.2 (fun j => f.I rfl j) (fun j => f.I rfl j)⟩
theorem cadd_ok {h : PH} {T : List (Nat × Nat)} {x g : Nat} {Q : PH → Prop} (p : FLc h T) (hT : T.length ≤ 100000) (r1 : qR h 18 1 = some 20) (r2 : qR h 18 2 = some 21) (l20 : qL h 20 = 200) (l21 : qL h 21 = 200)
    (q : ∀ h1, Fg [20, 21] [(18, 5), (18, 6)] h h1 → FLc h1 (T ++ [(x, g)]) → Q h1) : wp_X2_add 18 (nI x) (nI g) h Q := by
  obtain ⟨p1, p2, p3⟩ := p
  have fin : ∀ g1, Fg [20, 21] [] h g1 → (qI g1 18 5 = nI T.length) → (qJ g1 18 6 = tJ T) → hasP g1 20 21 (T ++ [(x, g)]) → wp_X2_add_37 18 (nI x) g1 Q := by
    intro g1 f1 a1 a2 a3 g2 e2 g3 e3
    refine q g3 ?_ ⟨?_, ?_, ?_⟩
    · rw [e3, e2]
      exact (f1.tr (Fg.sI _ _ _ _) (U := [20, 21]) (V := [(18, 5), (18, 6)]) rfl rfl).tr (Fg.sJ _ _ _ _) rfl rfl
    · rw [e3]
      show qI g2 18 5 = _
      rw [e2, qI_sI, if_pos ⟨rfl, rfl⟩, a1, nI_1, List.length_append]; rfl
    · rw [e3, qJ_sJ, if_pos ⟨rfl, rfl⟩, tJ_s, e2]
      show qJ g1 18 6 ||| _ = _
      rw [a2]
    · refine hasP_ag a3 (fun j => ?_) (fun j => ?_)
      · rw [e3]
        show qI g2 20 j = _
        rw [e2, qI_sI, if_neg (by simp)]
      · rw [e3]
        show qI g2 21 j = _
        rw [e2, qI_sI, if_neg (by simp)]
  refine ⟨fun z => absurd z (by rw [p1]; exact nI_pos (by omega)), fun _ => ?_⟩
  rw [p1]
  refine pk_le 200 T.length (fun z => fin h (Fg.rf _ _ _) p1 p2 (hasP_skip z p3)) (fun z => ⟨20, r1, by rw [l20]; exact vp_in_nI z (by decide), fun h5 e5 => ⟨21, by rw [e5]; exact r2, ?_, fun h9 e9 => ?_⟩⟩)
  · rw [show qI h5 18 5 = nI T.length by rw [e5, qI_sI, if_neg (by simp)]; exact p1, show qL h5 21 = 200 by rw [e5]; exact l21]
    exact vp_in_nI z (by decide)
  · have v5 : qI h5 18 5 = nI T.length := by rw [e5, qI_sI, if_neg (by simp)]; exact p1
    rw [v5, nI_clamp (by omega)] at e9
    rw [nI_clamp (by omega)] at e5
    refine fin h9 ?_ ?_ ?_ ?_
    · rw [e9, e5]; exact (Fg.cI _ _ _ _).tr (Fg.cI _ _ _ _) rfl rfl
    · rw [e9, qI_sI, if_neg (by simp)]; exact v5
    · rw [e9, e5]; exact p2
    · rw [e9, e5]; exact hasP_push (by decide) p3
noncomputable def okB (A : Nat → Int) (C : Nat → Nat) (sv : Nat → Nat) (m g : Nat) : Bool := @decide (hOk A C sv m g) (Classical.propDecidable _)
theorem okB_iff (A : Nat → Int) (C : Nat → Nat) (sv : Nat → Nat) (m g : Nat) : okB A C sv m g = true ↔ hOk A C sv m g := by
  unfold okB
  exact @decide_eq_true_iff _ (Classical.propDecidable _)
/-- g from 1 on, k of them tried -/
def hs (x : Nat) (ok : Nat → Bool) : Nat → List (Nat × Nat)
  | 0 => []
  | k + 1 => if ok (1 + k) = true then hs x ok k ++ [(x, 1 + k)] else hs x ok k
theorem hs_len (x : Nat) (ok : Nat → Bool) : ∀ k, (hs x ok k).length ≤ k
  | 0 => Nat.le_refl 0
  | k + 1 => by
    have := hs_len x ok k
    unfold hs
    split
    · rw [List.length_append]; show _ + 1 ≤ _; omega
    · omega
theorem hs_0 {x : Nat} {ok : Nat → Bool} : ∀ {k : Nat}, (∀ g, 1 ≤ g → g ≤ k → ok g = false) → hs x ok k = []
  | 0, _ => rfl
  | k + 1, h => by
    unfold hs
    rw [if_neg (by rw [h (1 + k) (by omega) (by omega)]; decide)]
    exact hs_0 (fun g h1 h2 => h g h1 (by omega))
theorem hs_end {x : Nat} {ok : Nat → Bool} {a : Nat} : ∀ {k : Nat}, a ≤ k → (∀ g, a < g → g ≤ k → ok g = false) → hs x ok k = hs x ok a
  | 0, h, _ => by rw [show a = 0 by omega]
  | k + 1, h, z => by
    rcases (show a = k + 1 ∨ a ≤ k by omega) with y | y
    · rw [y]
    · have e : hs x ok (k + 1) = hs x ok k := by
        show (if _ then _ else _) = _
        rw [if_neg (by rw [z (1 + k) (by omega) (by omega)]; decide)]
      rw [e]; exact hs_end y (fun g h1 h2 => z g h1 (by omega))
noncomputable def ht (A : Nat → Int) (N t0 : Nat) (sv : Nat → Nat) (m : Nat) : Nat → List (Nat × Nat)
  | 0 => []
  | x + 1 => ht A N t0 sv m x ++ hs x (okB A (fC N t0 x) sv m) 999
theorem ht_len {A : Nat → Int} {N t0 : Nat} {sv : Nat → Nat} {m : Nat} : ∀ x, (ht A N t0 sv m x).length ≤ 999 * x
  | 0 => Nat.le_refl 0
  | x + 1 => by
    have := ht_len (A := A) (N := N) (t0 := t0) (sv := sv) (m := m) x
    have h2 := hs_len x (okB A (fC N t0 x) sv m) 999
    unfold ht
    rw [List.length_append]; omega
/-! the class narrows the g that may be -/
theorem ceil_g {M : Int} {c : Nat} (hc : 0 < c) (g : Nat) : M ≤ ((c * g : Nat) : Int) ↔ -(-M / (c : Int)) ≤ g := by
  have := ceil_p (A := -M) hc g
  rw [← this]; omega
theorem floor_g {M : Int} {c : Nat} (hc : 0 < c) (g : Nat) : ((c * g : Nat) : Int) ≤ M ↔ (g : Int) ≤ M / (c : Int) := by
  rw [Int.le_ediv_iff_mul_le (by omega), Int.natCast_mul, Int.mul_comm]
theorem ediv_bd {x : Int} {c : Nat} (hc : 0 < c) (M : Int) (h1 : -M ≤ x) (h2 : x ≤ M) : -M ≤ x / (c : Int) ∧ x / (c : Int) ≤ M := by
  have cp : (0 : Int) < c := by omega
  constructor
  · rw [Int.le_ediv_iff_mul_le cp]
    have : 0 ≤ M := by omega
    have : M * 1 ≤ M * c := Int.mul_le_mul_of_nonneg_left (by omega) this
    rw [Int.neg_mul]; omega
  · rcases Int.lt_or_le x 0 with z | z
    · have := Int.ediv_neg_of_neg_of_pos z cp
      omega
    · have := Int.ediv_le_self (c : Int) z
      omega
theorem srchAt_ok {h : PH} {N m t0 push x : Nat} {F B : Nat → Int32} {sv : Nat → Nat} {T : List (Nat × Nat)} {Q : PH → Prop} (w : WF h N F B) (ht : t0 < N) (hx : x < N) (hpu : push ≤ 100000) (hF : ∀ t, t < N → -580000 ≤ (F t).toInt ∧ (F t).toInt ≤ 580000) (sh : Shp h) (hm : m ≤ 60) (v3 : qI h 18 3 = nI m) (v19 : ∀ k, k < m → qI h 19 k = nI (sv k)) (hsv : ∀ k, sv k < 65536) (fl : FLc h T) (hT : T.length ≤ 60000)
    (q : ∀ h1, Fg [20, 21] [(18, 5), (18, 6)] h h1 → FLc h1 (T ++ hs x (okB (hA (fun t => (F t).toInt) N t0 push) (fC N t0 x) sv m) 999) → Q h1) : wp_X2_searchAt 18 (nI x) 13 (nI t0) (nI push) h Q := by
  obtain ⟨⟨w1, w2, w3⟩, _, w4, w5, w6⟩ := w
  generalize hh : hA (fun t => (F t).toInt) N t0 push = A at *
  generalize hC : fC N t0 x = C at *
  have bA : ∀ k : Nat, -(580000 * (k : Int)) ≤ A k ∧ A k ≤ 100000 + 580000 * (k : Int) := fun k => by rw [← hh]; exact hA_bd (push := push) (by omega) hF (by omega) k
  have bC : ∀ k, C k ≤ k := fun k => by rw [← hC]; exact fC_le _ _ _ k
  have r0 : qR h 18 0 = some 19 := sh.R 18 0 19 (by decide)
  have l19 : qL h 19 = 60 := sh.L 19 (by decide) rfl
  -- the g that are left are put down
  have put : ∀ l5 l6 : Int32, 1 ≤ l5.toInt → l6.toInt ≤ 999 → (∀ g : Nat, 1 ≤ g → g ≤ 999 → ((l5.toInt ≤ g ∧ (g : Int) ≤ l6.toInt) ↔ okB A C sv m g = true)) → qLoop (wp_X2_searchAt_155 18 (nI x) l6 Q) (l5, h) := by
    intro l5 l6 b1 b2 cr
    have no : ∀ g : Nat, 1 ≤ g → g ≤ 999 → ¬ (l5.toInt ≤ g ∧ (g : Int) ≤ l6.toInt) → okB A C sv m g = false := fun g h1 h2 h3 => by
      cases hz : okB A C sv m g with
      | false => rfl
      | true => exact absurd ((cr g h1 h2).mpr hz) h3
    by_cases e : l6.toInt < l5.toInt
    · refine ⟨fun s => s = (l5, h), fun _ => 0, rfl, fun s es => ?_⟩
      subst es
      refine ⟨fun _ => q h (Fg.rf _ _ _) ?_, fun z => absurd (by rw [Int32.lt_iff_toInt_lt]; exact e) z⟩
      rw [hs_0 (fun g h1 h2 => no g h1 h2 (by omega)), List.append_nil]
      exact fl
    · obtain ⟨lo, elo⟩ : ∃ lo : Nat, l5.toInt = lo := ⟨l5.toInt.toNat, by omega⟩
      obtain ⟨hi, ehi⟩ : ∃ hi : Nat, l6.toInt = hi := ⟨l6.toInt.toNat, by omega⟩
      have e5 : l5 = nI lo := Int32.toInt_inj.mp (by rw [elo, nI_toInt (by omega)])
      have e6 : l6 = nI hi := Int32.toInt_inj.mp (by rw [ehi, nI_toInt (by omega)])
      subst e5 e6
      refine loopR (hi + 1 - lo) (fun i s => s.1 = nI (lo + i) ∧ Fg [20, 21] [(18, 5), (18, 6)] h s.2 ∧ FLc s.2 (T ++ hs x (okB A C sv m) (lo + i - 1))) (fun s => s.1.toNatClampNeg - lo) ⟨rfl, Fg.rf _ _ _, by rw [hs_0 (fun g h1 h2 => no g h1 (by omega) (by omega)), List.append_nil]; exact fl⟩ (fun i s hi2 p => by rw [p.1, nI_clamp (by omega)]; omega) ?_ ?_
      · rintro i ⟨i', g1⟩ hi2 ⟨s1, s2, s3⟩ back hb
        dsimp only at s1 s2 s3
        subst s1
        have hl := hs_len x (okB A C sv m) (lo + i - 1)
        refine pk_lt hi (lo + i) (fun z => by omega) (fun _ => cadd_ok s3 (by rw [List.length_append]; omega) (by rw [s2.R rfl]; exact sh.R 18 1 20 (by decide)) (by rw [s2.R rfl]; exact sh.R 18 2 21 (by decide)) (by rw [s2.L]; exact sh.L 20 (by decide) rfl) (by rw [s2.L]; exact sh.L 21 (by decide) rfl) (fun g2 f2 fl2 w ew => hb _ ⟨by rw [ew, nI_1, Nat.add_assoc], s2.tr f2 rfl rfl, ?_⟩))
        have ok1 : okB A C sv m (lo + i) = true := (cr (lo + i) (by omega) (by omega)).mp (by omega)
        have e : hs x (okB A C sv m) (lo + (i + 1) - 1) = hs x (okB A C sv m) (lo + i - 1) ++ [(x, lo + i)] := by
          rw [show lo + (i + 1) - 1 = (lo + i - 1) + 1 by omega]
          show (if _ then _ else _) = _
          rw [show 1 + (lo + i - 1) = lo + i by omega, if_pos ok1]
        show FLc g2 _
        rw [e, ← List.append_assoc]; exact fl2
      · rintro ⟨i', g1⟩ ⟨s1, s2, s3⟩ back
        dsimp only at s1 s2 s3
        subst s1
        refine pk_lt hi (lo + (hi + 1 - lo)) (fun _ => q g1 s2 ?_) (fun z => by omega)
        rw [hs_end (a := hi) (k := 999) (by omega) (fun g h1 h2 => no g (by omega) h2 (by omega))]
        rw [show lo + (hi + 1 - lo) - 1 = hi by omega] at s3
        exact s3
  refine loopR m (fun k s => 1 ≤ s.1.toInt ∧ s.1.toInt ≤ 100000000 ∧ -100000000 ≤ s.2.1.toInt ∧ s.2.1.toInt ≤ 999 ∧ (∀ g : Nat, 1 ≤ g → g ≤ 999 → ((s.1.toInt ≤ g ∧ (g : Int) ≤ s.2.1.toInt) ↔ hOk A C sv k g)) ∧ s.2.2.1.toInt = A k ∧ s.2.2.2.1 = nI (C k) ∧ s.2.2.2.2.1 = nI ((t0 + k) % N) ∧ s.2.2.2.2.2.1 = nI k ∧ s.2.2.2.2.2.2 = h) (fun s => s.2.2.2.2.2.1.toNatClampNeg) ⟨show 1 ≤ (1 : Int32).toInt by decide, show (1 : Int32).toInt ≤ 100000000 by decide, show -100000000 ≤ (999 : Int32).toInt by decide, show (999 : Int32).toInt ≤ 999 by decide, fun g h1 h2 => ⟨fun _ j hj => absurd hj (Nat.not_lt_zero j), fun _ => ⟨by show (1 : Int) ≤ g; omega, by show (g : Int) ≤ 999; omega⟩⟩, by rw [← hh]; exact nI_toInt (by omega), by rw [← hC]; rfl, by rw [Nat.add_zero, Nat.mod_eq_of_lt ht], rfl, rfl⟩ (fun k s hk p => by rw [p.2.2.2.2.2.2.2.2.1]; exact nI_clamp (by omega)) ?_ ?_
  · rintro k ⟨l5, l6, l7, l8, l9, l10, h'⟩ hk ⟨a1, a2, a3, a4, a5, p1, p2, p3, p4, p5⟩ back hb
    dsimp only at a1 a2 a3 a4 a5 p1 p2 p3 p4 p5
    subst p2 p3 p4 p5
    have hmm : (t0 + k) % N < N := Nat.mod_lt _ (by omega)
    have ba := bA k
    have ba1 := bA (k + 1)
    have bc1 := bC (k + 1)
    have fb := hF _ hmm
    have sA : A (k + 1) = A k + (F ((t0 + k) % N)).toInt := by rw [← hh]; rfl
    refine ⟨fun z => absurd z (by rw [v3]; exact nI_ge hk (by omega)), fun _ => ⟨fun z => put l5 l6 a1 a4 (fun g h1 h2 => ?_), fun z => ⟨14, w1, by rw [w2]; exact vp_in_nI (by omega) (by decide), fun v6 e6 => ?_⟩⟩⟩
    · rw [Int32.lt_iff_toInt_lt] at z
      rw [okB_iff]
      constructor
      · intro y; dsimp only at z; omega
      · intro y
        have := (a5 g h1 h2).mpr (fun j hj => y j (by omega))
        dsimp only at z
        omega
    · dsimp only at e6 ⊢
      rw [nI_clamp (by omega), w3 _ hmm] at e6
      have e6 : v6.toInt = A (k + 1) := by rw [e6, fb_addI (by rw [p1]; omega) (by rw [p1]; omega), p1, sA]
      have sC : ∀ y : Nat, y = (if (t0 + k) % N = x then 1 else 0) → nI (C k) + nI y = nI (C (k + 1)) := fun y ey => by
        rw [nI_add, ey, ← hC]; rfl
      have hsk := hsv k
      -- from here the same, whether x was left or not
      have rest : ∀ s0 : Int32, nI (C k) + s0 = nI (C (k + 1)) → wp_X2_searchAt_62 18 (nI x) 13 l5 l6 v6 (nI ((t0 + k) % N)) (nI k) s0 (nI (C k)) back h' Q := by
        intro s0 es v12 e12
        rw [es] at e12
        subst e12
        refine ⟨19, r0, by rw [l19]; exact vp_in_nI (by omega) (by decide), fun v16 e16 => ?_⟩
        rw [nI_clamp (by omega), v19 k hk] at e16
        have e10 : (10 * nI (sv k)).toInt = 10 * (sv k : Int) := by
          rw [show (10 : Int32) = nI 10 from rfl, pk_mul, nI_toInt (by omega)]; omega
        have e16 : v16.toInt = 10 * (sv k : Int) - A (k + 1) := by rw [e16, fb_subI (by rw [e10, e6]; omega) (by rw [e10, e6]; omega), e10, e6]
        have e9 : (v16 + 9).toInt = v16.toInt + 9 := fb_addI (y := 9) (by rw [e16, show (9 : Int32).toInt = 9 from rfl]; omega) (by rw [e16, show (9 : Int32).toInt = 9 from rfl]; omega)
        have go : ∀ x5 x6 : Int32, 1 ≤ x5.toInt → x5.toInt ≤ 100000000 → -100000000 ≤ x6.toInt → x6.toInt ≤ 999 → (∀ g : Nat, 1 ≤ g → g ≤ 999 → ((x5.toInt ≤ g ∧ (g : Int) ≤ x6.toInt) ↔ hOk A C sv (k + 1) g)) → wp_X10_after 13 (nI ((t0 + k) % N)) h' (fun r20 h19 => ∀ v21 : Int32, v21 = nI k + 1 → back (x5, x6, v6, nI (C (k + 1)), r20, v21, h19)) := fun x5 x6 y1 y2 y3 y4 y5 => after_ok w4 w6 hmm (fun w ew => hb _ ⟨y1, y2, y3, y4, y5, e6, rfl, by rw [Nat.mod_add_mod, Nat.add_assoc], by rw [ew]; exact nI_1 k, rfl⟩)
        refine pk_le (C (k + 1)) 0 (fun c0 => ?_) (fun c0 => ?_)
        · have c0 : C (k + 1) = 0 := by omega
          have bad : ¬ (10 * (sv k : Int) ≤ A (k + 1) ∧ A (k + 1) ≤ 10 * (sv k : Int) + 9) → ∀ g : Nat, 1 ≤ g → g ≤ 999 → ((l5.toInt ≤ g ∧ (g : Int) ≤ (0 : Int32).toInt) ↔ hOk A C sv (k + 1) g) := fun z g h1 h2 => by
            rw [hOk_s, c0, Nat.zero_mul, i0]
            constructor
            · intro y; omega
            · intro y
              have := y.2
              rw [show ((0 : Nat) : Int) = 0 from rfl] at this
              omega
          refine ⟨fun z => go l5 0 a1 a2 (by decide) (by decide) (bad ?_), fun z => ⟨fun y => go l5 l6 a1 a2 a3 a4 (fun g h1 h2 => ?_), fun y => go l5 0 a1 a2 (by decide) (by decide) (bad ?_)⟩⟩
          · rw [Int32.lt_iff_toInt_lt, i0, e16] at z; omega
          · rw [Int32.lt_iff_toInt_lt, i0, e16] at z
            rw [i_ge0, e9, e16] at y
            rw [hOk_s, a5 g h1 h2, c0, Nat.zero_mul, show ((0 : Nat) : Int) = 0 from rfl]
            constructor
            · intro t; exact ⟨t, by omega⟩
            · intro t; exact t.1
          · rw [i_ge0, e9, e16] at y; omega
        · have en : (-v16).toInt = -v16.toInt := fb_negI (by rw [e16]; omega)
          have d1 := ediv_bd (x := -v16.toInt) c0 50000000 (by rw [e16]; omega) (by rw [e16]; omega)
          have d2 := ediv_bd (x := v16.toInt + 9) c0 50000000 (by rw [e16]; omega) (by rw [e16]; omega)
          refine fdiv_ok c0 (by omega) (fun r30 e30 => max_ok (fdiv_ok c0 (by omega) (fun r34 e34 => min_ok ?_)))
          rw [en] at e30
          rw [e9] at e34
          have em : (-r30).toInt = -r30.toInt := fb_negI (by omega)
          have cx : (qmax l5 (-r30)).toInt = max l5.toInt (-r30.toInt) := by
            unfold qmax
            split
            · rename_i t; rw [Int32.lt_iff_toInt_lt, em] at t; rw [em]; omega
            · rename_i t; rw [Int32.lt_iff_toInt_lt, em] at t; omega
          have cn : (qmin l6 r34).toInt = min l6.toInt r34.toInt := by
            unfold qmin
            split
            · rename_i t; rw [Int32.lt_iff_toInt_lt] at t; omega
            · rename_i t; rw [Int32.lt_iff_toInt_lt] at t; omega
          refine go _ _ (by omega) (by omega) (by omega) (by omega) (fun g h1 h2 => ?_)
          have g1 := ceil_g (M := v16.toInt) c0 g
          have g2 := floor_g (M := v16.toInt + 9) c0 g
          rw [← e30] at g1
          rw [← e34] at g2
          rw [hOk_s, ← a5 g h1 h2, cx, cn]
          constructor
          · intro t
            have t1 := g1.mpr (by omega)
            have t2 := g2.mpr (by omega)
            rw [e16] at t1 t2
            omega
          · intro t
            have t1 := g1.mp (by rw [e16]; omega)
            have t2 := g2.mp (by rw [e16]; omega)
            omega
      exact n_eq ((t0 + k) % N) x (fun z => rest 0 (sC 0 (by rw [if_neg z]))) (fun z => rest 1 (sC 1 (by rw [if_pos z])))
  · rintro ⟨l5, l6, l7, l8, l9, l10, h'⟩ ⟨a1, a2, a3, a4, a5, p1, p2, p3, p4, p5⟩ back
    dsimp only at a1 a2 a3 a4 a5 p1 p2 p3 p4 p5
    subst p2 p3 p4 p5
    exact ⟨fun _ => put l5 l6 a1 a4 (fun g h1 h2 => by rw [okB_iff]; exact a5 g h1 h2), fun z => absurd (by rw [v3]; exact nI_le (Nat.le_refl m) (by omega)) z⟩
theorem srch_ok {h : PH} {N m t0 push : Nat} {F B : Nat → Int32} {sv : Nat → Nat} {Q : PH → Prop} (w : WF h N F B) (ht0 : t0 < N) (hpu : push ≤ 100000) (hF : ∀ t, t < N → -580000 ≤ (F t).toInt ∧ (F t).toInt ≤ 580000) (sh : Shp h) (hm : m ≤ 60) (v3 : qI h 18 3 = nI m) (v19 : ∀ k, k < m → qI h 19 k = nI (sv k)) (hsv : ∀ k, sv k < 65536)
    (q : ∀ h1, Fg [20, 21] [(18, 4), (18, 5), (18, 6)] h h1 → qI h1 18 4 = 1 → FLc h1 (ht (hA (fun t => (F t).toInt) N t0 push) N t0 sv m N) → Q h1) : wp_X2_search 18 13 (nI t0) (nI push) h Q := by
  intro h1 e1 h2 e2 h3 e3
  have f3 : Fg [20, 21] [(18, 4), (18, 5), (18, 6)] h h3 := by
    rw [e3, e2, e1]
    exact ((Fg.sI _ _ _ _).tr (Fg.sI _ _ _ _) (U := [20, 21]) (V := [(18, 4), (18, 5), (18, 6)]) rfl rfl).tr (Fg.sJ _ _ _ _) rfl rfl
  have i4 : qI h3 18 4 = 1 := by
    rw [e3]
    show qI h2 18 4 = 1
    rw [e2, e1]; simp only [qI_sI]; simp
  have fl3 : FLc h3 [] := ⟨by
    rw [e3]
    show qI h2 18 5 = 0
    rw [e2]; simp only [qI_sI]; simp, by rw [e3, qJ_sJ, if_pos ⟨rfl, rfl⟩]; rfl, fun k hk => absurd hk (Nat.not_lt_zero k)⟩
  have hN := w.2.2.2.2
  refine loopR N (fun x s => s.1 = nI x ∧ Fg [20, 21] [(18, 4), (18, 5), (18, 6)] h s.2 ∧ qI s.2 18 4 = 1 ∧ FLc s.2 (ht (hA (fun t => (F t).toInt) N t0 push) N t0 sv m x)) (fun s => s.1.toNatClampNeg) ⟨rfl, f3, i4, fl3⟩ (fun k s hk p => by rw [p.1]; exact nI_clamp (by omega)) ?_ ?_
  · rintro x ⟨x', g⟩ hx ⟨s1, s2, s3, s4⟩ back hb
    dsimp only at s1 s2 s3 s4
    subst s1
    have wg : WF g N F B := w.ag (s2.ag rfl)
    have hl := ht_len (A := hA (fun t => (F t).toInt) N t0 push) (N := N) (t0 := t0) (sv := sv) (m := m) x
    refine ⟨fun z => absurd z (by rw [wg.2.2.1]; exact nI_ge hx (by omega)), fun _ => srchAt_ok wg ht0 hx hpu hF (sh.fg s2 rfl) hm (by rw [s2.I rfl]; exact v3) (fun k hk => by rw [(s2.ag (C := [19]) (G := []) rfl).I rfl]; exact v19 k hk) hsv s4 (by omega) (fun g2 f2 fl2 w2 ew => hb _ ⟨by rw [ew]; exact nI_1 x, s2.tr f2 rfl rfl, by rw [f2.I rfl]; exact s3, fl2⟩)⟩
  · rintro ⟨x', g⟩ ⟨s1, s2, s3, s4⟩ back
    dsimp only at s1 s2 s3 s4
    subst s1
    have wg : WF g N F B := w.ag (s2.ag rfl)
    exact ⟨fun _ => q g s2 s3 s4, fun z => absurd (by rw [wg.2.2.1]; exact nI_le (Nat.le_refl N) (by omega)) z⟩
/-! the model tries each g -/
theorem mcomes_ok {h : PH} {N m t0 push g : Nat} {xI : Int32} {C : Nat → Nat} {F B : Nat → Int32} {sv : Nat → Nat} {Q : Int32 → PH → Prop} (w : MF h N F B) (ht0 : t0 < N) (hpu : push ≤ 100000) (hg : g ≤ 999) (hF : ∀ t, t < N → -580000 ≤ (F t).toInt ∧ (F t).toInt ≤ 580000) (r48 : qR h 70 48 = some 85) (l85 : qL h 85 = 60) (hm : m ≤ 60) (v51 : qI h 70 51 = nI m) (v85 : ∀ k, k < m → qI h 85 k = nI (sv k)) (hsv : ∀ k, sv k < 65536) (c0 : C 0 = 0) (bC : ∀ k, C k ≤ k)
    (cs : ∀ k, C (k + 1) * g = C k * g + (if nI ((t0 + k) % N) = xI then g else 0))
    (q1 : hOk (hA (fun t => (F t).toInt) N t0 push) C sv m g → Q 1 h) (q0 : ¬ hOk (hA (fun t => (F t).toInt) N t0 push) C sv m g → Q 0 h) : wp_X12_comesSo 70 (nI t0) (nI push) xI (nI g) h Q := by
  obtain ⟨mo, ⟨w1, w2, w3⟩, _⟩ := w
  have hN8 := mo.2.2.2.1
  have hN := mo.2.2.2.2.1
  generalize hh : hA (fun t => (F t).toInt) N t0 push = A at *
  have bA : ∀ k : Nat, -(580000 * (k : Int)) ≤ A k ∧ A k ≤ 100000 + 580000 * (k : Int) := fun k => by rw [← hh]; exact hA_bd (push := push) (by omega) hF (by omega) k
  have bCg : ∀ k, k ≤ 61 → C k * g ≤ 61 * 999 := fun k hk => Nat.mul_le_mul (by have := bC k; omega) hg
  refine loopR m (fun k s => s.1.toInt = A k + ((C k * g : Nat) : Int) ∧ s.2.1 = nI k ∧ s.2.2 = h ∧ hOk A C sv k g) (fun s => s.2.1.toNatClampNeg) ⟨by
      show (nI push).toInt = _
      rw [← hh, c0, nI_toInt (by omega), Nat.zero_mul]
      show (push : Int) = push + 0
      omega, rfl, rfl, fun j hj => absurd hj (Nat.not_lt_zero j)⟩ (fun k s hk p => by rw [p.2.1]; exact nI_clamp (by omega)) ?_ ?_
  · rintro k ⟨e, k', h'⟩ hk ⟨p1, p2, p3, p4⟩ back hb
    dsimp only at p1 p2 p3 p4
    subst p2 p3
    have hmm : (t0 + k) % N < N := Nat.mod_lt _ (by omega)
    have ba := bA k
    have bg := bCg k (by omega)
    have fb := hF _ hmm
    have sA : A (k + 1) = A k + (F ((t0 + k) % N)).toInt := by rw [← hh]; rfl
    have csk := cs k
    have st : ∀ s0 : Int32, s0.toInt = (((if nI ((t0 + k) % N) = xI then g else 0 : Nat)) : Int) → wp_X12_comesSo_46 70 (nI t0) xI (nI g) (nI k) s0 (F ((t0 + k) % N)) e back h' Q := by
      intro s0 es v ev
      have b0 : 0 ≤ s0.toInt ∧ s0.toInt ≤ 999 := by rw [es]; split <;> omega
      have e1 : (F ((t0 + k) % N) + s0).toInt = (F ((t0 + k) % N)).toInt + s0.toInt := fb_addI (by omega) (by omega)
      have ev2 : v.toInt = A (k + 1) + ((C (k + 1) * g : Nat) : Int) := by
        rw [ev, fb_addI (by rw [p1, e1]; omega) (by rw [p1, e1]; omega), p1, e1, sA, csk, es]; omega
      have nx : ¬ (10 * (sv k : Int) ≤ v.toInt ∧ v.toInt ≤ 10 * (sv k : Int) + 9) → Q 0 h' := fun z => q0 (fun y => z (by rw [ev2]; exact y k hk))
      refine ⟨fun z => nx (by rw [i_lt0] at z; omega), fun z => ⟨85, r48, by rw [l85]; exact vp_in_nI (by omega) (by decide), ?_⟩⟩
      rw [nI_clamp (show k < 2 ^ 31 by omega), v85 k hk]
      have d := div10 (v := v) (s := sv k) (by rw [i_lt0] at z; omega) (hsv k)
      exact ⟨fun y w ew => hb _ ⟨ev2, by rw [ew]; exact nI_1 k, rfl, hOk_s.mpr ⟨p4, by rw [← ev2]; exact d.mp y⟩⟩, fun y => nx (fun x => y (d.mpr x))⟩
    refine ⟨fun z => absurd z (by rw [v51]; exact nI_ge hk (by omega)), fun _ => round_ok mo ?_⟩
    rw [nI_add, rnd_nat (by omega) (by omega) (by omega)]
    refine ⟨78, w1, by rw [w2]; exact vp_in_nI (by omega) (by decide), ?_⟩
    rw [nI_clamp (by omega), w3 _ hmm]
    exact ⟨fun z => st 0 (by rw [if_neg z]; rfl), fun z => st (nI g) (by rw [if_pos z, nI_toInt (by omega)])⟩
  · rintro ⟨e, k', h'⟩ ⟨p1, p2, p3, p4⟩ back
    dsimp only at p1 p2 p3 p4
    subst p2 p3
    exact ⟨fun _ => q1 p4, fun z => absurd (by rw [v51]; exact nI_le (Nat.le_refl m) (by omega)) z⟩
def FLm (h : PH) (T : List (Nat × Nat)) : Prop := qJ h 70 53 = tJ T ∧ hasP h 86 87 T
theorem msrch_ok {h : PH} {N m t0 push : Nat} {F B : Nat → Int32} {sv : Nat → Nat} {Q : Int32 → PH → Prop} (w : MF h N F B) (ht0 : t0 < N) (hpu : push ≤ 100000) (hF : ∀ t, t < N → -580000 ≤ (F t).toInt ∧ (F t).toInt ≤ 580000) (sh : Shp h) (hm : m ≤ 60) (v51 : qI h 70 51 = nI m) (v85 : ∀ k, k < m → qI h 85 k = nI (sv k)) (hsv : ∀ k, sv k < 65536) (fl : FLm h [])
    (q : ∀ h1 n, n = (ht (hA (fun t => (F t).toInt) N t0 push) N t0 sv m N).length → Fg [86, 87] [(70, 52), (70, 53)] h h1 → FLm h1 (ht (hA (fun t => (F t).toInt) N t0 push) N t0 sv m N) → qI h1 70 52 = nI (min n 200) → Q (nI n) h1) : qLoop (wp_X12_hidden_146 70 (nI t0) (nI push) Q) (0, 0, h) := by
  have hN8 := w.1.2.2.2.1
  have hN := w.1.2.2.2.2.1
  generalize hh : hA (fun t => (F t).toInt) N t0 push = A at *
  have eN : ∀ g, MF g N F B → qI g 72 (0 : Int32).toNatClampNeg = nI N := fun g wg => by rw [c0_n]; exact wg.1.2.2.1
  refine loopR N (fun x s => s.1 = nI (ht A N t0 sv m x).length ∧ s.2.1 = nI x ∧ Fg [86, 87] [(70, 53)] h s.2.2 ∧ FLm s.2.2 (ht A N t0 sv m x)) (fun s => s.2.1.toNatClampNeg) ⟨rfl, rfl, Fg.rf _ _ _, fl⟩ (fun k s hk p => by rw [p.2.1]; exact nI_clamp (by omega)) ?_ ?_
  · rintro x ⟨n', x', g⟩ hx ⟨s1, s2, s3, s4⟩ back hb
    dsimp only at s1 s2 s3 s4
    subst s1 s2
    have wg : MF g N F B := w.ag (s3.ag rfl)
    have hl := ht_len (A := A) (N := N) (t0 := t0) (sv := sv) (m := m) x
    refine ⟨72, wg.1.1, in08 wg.1, fun z => absurd z (by rw [eN g wg]; exact nI_ge hx (by omega)), fun _ => ?_⟩
    refine loopR 999 (fun i s => s.1 = nI (ht A N t0 sv m x ++ hs x (okB A (fC N t0 x) sv m) i).length ∧ s.2.1 = nI (1 + i) ∧ Fg [86, 87] [(70, 53)] h s.2.2 ∧ FLm s.2.2 (ht A N t0 sv m x ++ hs x (okB A (fC N t0 x) sv m) i)) (fun s => s.2.1.toNatClampNeg - 1) ⟨by show nI _ = nI (_ ++ []).length; rw [List.append_nil], rfl, s3, by show FLm g (_ ++ []); rw [List.append_nil]; exact s4⟩ (fun i s hi p => by rw [p.2.1, nI_clamp (by omega)]; omega) ?_ ?_
    · rintro i ⟨n', i', g1⟩ hi ⟨u1, u2, u3, u4⟩ back2 hb2
      dsimp only at u1 u2 u3 u4
      subst u1 u2
      have w1 : MF g1 N F B := w.ag (u3.ag rfl)
      have sg := sh.fg u3 rfl
      have hl2 := hs_len x (okB A (fC N t0 x) sv m) i
      have hlen : (ht A N t0 sv m x ++ hs x (okB A (fC N t0 x) sv m) i).length ≤ 60000 := by rw [List.length_append]; omega
      have hss : ∀ b, okB A (fC N t0 x) sv m (1 + i) = b → hs x (okB A (fC N t0 x) sv m) (i + 1) = if b = true then hs x (okB A (fC N t0 x) sv m) i ++ [(x, 1 + i)] else hs x (okB A (fC N t0 x) sv m) i := fun b eb => by
        show (if _ then _ else _) = _
        rw [eb]
      refine pk_le 1000 (1 + i) (fun z => by omega) (fun _ => mcomes_ok (C := fC N t0 x) w1 ht0 hpu (by omega) hF (sg.R 70 48 85 (by decide)) (sg.L 85 (by decide) rfl) hm (by rw [u3.I rfl]; exact v51) (fun k hk => by rw [(u3.ag (C := [85]) (G := []) rfl).I rfl]; exact v85 k hk) hsv rfl (fC_le _ _ _) (fun k => ?_) (fun y => ?_) (fun y => ?_))
      · show (fC N t0 x k + (if (t0 + k) % N = x then 1 else 0)) * (1 + i) = _
        have hmm : (t0 + k) % N < N := Nat.mod_lt _ (by omega)
        by_cases c : (t0 + k) % N = x
        · rw [if_pos c, if_pos (by rw [c]), Nat.add_mul, Nat.one_mul]
        · rw [if_neg c, if_neg (fun z => c (nI_inj (by omega) (by omega) z)), Nat.add_zero, Nat.add_zero]
      · rw [hh] at y
        have e := hss true ((okB_iff _ _ _ _ _).mpr y)
        rw [if_pos rfl, ] at e
        refine ⟨fun _ g2 e2 => ?_, fun z => absurd z (by decide)⟩
        generalize hT : ht A N t0 sv m x ++ hs x (okB A (fC N t0 x) sv m) i = T at *
        have eT : ht A N t0 sv m x ++ hs x (okB A (fC N t0 x) sv m) (i + 1) = T ++ [(x, 1 + i)] := by rw [e, ← hT, List.append_assoc]
        have J2 : qJ g2 70 53 = tJ (T ++ [(x, 1 + i)]) := by rw [e2, qJ_sJ, if_pos ⟨rfl, rfl⟩, tJ_s, u4.1]
        have f2 : Fg [86, 87] [(70, 53)] h g2 := by rw [e2]; exact u3.tr (Fg.sJ _ _ _ _) rfl rfl
        have P2 : hasP g2 86 87 T := hasP_ag u4.2 (fun j => by rw [e2]; rfl) (fun j => by rw [e2]; rfl)
        have eL : nI T.length + 1 = nI (T ++ [(x, 1 + i)]).length := by rw [nI_1, List.length_append]; rfl
        refine pk_le 200 T.length (fun z w ew w2 ew2 => hb2 _ ⟨by rw [eT, ew, eL], by rw [ew2, nI_1, Nat.add_assoc], f2, by rw [eT]; exact ⟨J2, hasP_skip z P2⟩⟩) (fun z => ⟨86, by rw [f2.R rfl]; exact sh.R 70 49 86 (by decide), by rw [f2.L, sh.L 86 (n := 200) (by decide) rfl]; exact vp_in_nI z (by decide), fun g3 e3 => ⟨87, by rw [e3]; show qR g2 70 50 = _; rw [f2.R rfl]; exact sh.R 70 50 87 (by decide), by rw [show qL g3 87 = 200 by rw [e3]; show qL g2 87 = 200; rw [f2.L]; exact sh.L 87 (by decide) rfl]; exact vp_in_nI z (by decide), fun g4 e4 w ew w2 ew2 => hb2 _ ⟨by rw [eT, ew, eL], by rw [ew2, nI_1, Nat.add_assoc], ?_, ?_⟩⟩⟩)
        · show Fg _ _ h g4
          rw [e4, e3]; exact (f2.tr (Fg.cI _ _ _ _) (U := [86, 87]) (V := [(70, 53)]) rfl rfl).tr (Fg.cI _ _ _ _) rfl rfl
        · rw [eT]
          dsimp only at e3 e4
          rw [nI_clamp (by omega)] at e3 e4
          refine ⟨?_, ?_⟩
          · show qJ g4 70 53 = _
            rw [e4, e3]; exact J2
          · show hasP g4 86 87 _
            rw [e4, e3]; exact hasP_push (by decide) P2
      · rw [hh] at y
        have e := hss false (by
          cases hz : okB A (fC N t0 x) sv m (1 + i) with
          | false => rfl
          | true => exact absurd ((okB_iff _ _ _ _ _).mp hz) y)
        rw [if_neg (by decide)] at e
        exact ⟨fun z => absurd rfl z, fun _ w ew => hb2 _ ⟨by rw [e], by rw [ew, nI_1, Nat.add_assoc], u3, by rw [e]; exact u4⟩⟩
    · rintro ⟨n', i', g1⟩ ⟨u1, u2, u3, u4⟩ back2
      dsimp only at u1 u2 u3 u4
      subst u1 u2
      exact pk_le 1000 1000 (fun _ w ew => hb _ ⟨rfl, by rw [ew]; exact nI_1 x, u3, u4⟩) (fun z => by omega)
  · rintro ⟨n', x', g⟩ ⟨s1, s2, s3, s4⟩ back
    dsimp only at s1 s2 s3 s4
    subst s1 s2
    have wg : MF g N F B := w.ag (s3.ag rfl)
    have hl := ht_len (A := A) (N := N) (t0 := t0) (sv := sv) (m := m) N
    generalize hT : ht A N t0 sv m N = T at *
    refine ⟨72, wg.1.1, in08 wg.1, fun _ => pk_le 200 T.length (fun z g2 e2 => ?_) (fun z g2 e2 => ?_), fun z => absurd (by rw [eN g wg]; exact nI_le (Nat.le_refl N) (by omega)) z⟩
    · refine q g2 T.length rfl (by rw [e2]; exact s3.tr (Fg.sI _ _ _ _) rfl rfl) ⟨by rw [e2]; exact s4.1, hasP_ag s4.2 (fun j => by rw [e2, qI_sI, if_neg (by simp)]) (fun j => by rw [e2, qI_sI, if_neg (by simp)])⟩ ?_
      rw [e2, qI_sI, if_pos ⟨rfl, rfl⟩, Nat.min_eq_right (by omega)]; rfl
    · refine q g2 T.length rfl (by rw [e2]; exact s3.tr (Fg.sI _ _ _ _) rfl rfl) ⟨by rw [e2]; exact s4.1, hasP_ag s4.2 (fun j => by rw [e2, qI_sI, if_neg (by simp)]) (fun j => by rw [e2, qI_sI, if_neg (by simp)])⟩ ?_
      rw [e2, qI_sI, if_pos ⟨rfl, rfl⟩, Nat.min_eq_left (by omega)]
/-- both tapes are empty now, and the model may have laid its drawing -/
theorem Inv.emp {S : List Nat} {F : List (Nat × Nat)} {h h2 : PH} {N rb n d e : Nat} {Ds : Nat → PD} (i : Inv h) (id : IDd h N rb n Ds d e) (f2 : Fg S F h h2) (a1 : qI h2 1 1 = 0) (a2 : qI h2 70 2 = 0) (dl : DrL h2 N rb n Ds) (c0 : shpC S F = true) (c1 : fag S F [2, 71] [] = true) (c2 : fag S F (drcL ++ [8, 9, 10, 11, 12]) [(0, 10), (0, 11), (7, 0), (7, 1), (7, 2), (7, 3), (7, 4), (7, 5), (7, 6)] = true) (c3 : fag S F [16] [(70, 29), (70, 30), (70, 31), (70, 32), (70, 33), (70, 34)] = true) (c4 : fag S F [24, 80] [(0, 16), (70, 36)] = true) (c5 : fag S F [54, 55, 56, 57, 59, 60, 61, 62, 81, 82, 83, 84] [(0, 12), (0, 13), (70, 44), (70, 45)] = true) (i6 : IFind h2) (c7 : (low S F && fag S F [23, 75, 77] ikG) = true) (c8 : fag S F [65, 68, 89] [(0, 14), (0, 15), (70, 58)] = true) (c9 : fag S F [25, 91] [(0, 17), (70, 61)] = true) (c10 : fag S F [] [(3, 6), (70, 10)] = true) : Inv h2 := by
  obtain ⟨i0, ⟨len, t1, t2, t3, t4⟩, i2, i3, i4, i5, _, i7, i8, i9, i10⟩ := i
  have f12 := f2.ag c1
  exact ⟨i0.fg f2 c0, ⟨0, by omega, a1, a2, fun j hj => by rw [f12.I rfl, f12.I rfl]; exact t4 j hj⟩, ⟨N, rb, n, Ds, d, e, id.re (f2.ag c2) dl⟩, i3.ag (f2.ag c3), i4.ag (f2.ag c4), i5.ag (f2.ag c5), i6, i7.fg f2 c7, i8.ag (f2.ag c8), i9.ag (f2.ag c9), i10.ag (f2.ag c10)⟩
theorem isIn1_ok {h : PH} {x M : Nat} {a b : Int32} {Q : Int32 → PH → Prop} (ea : a = 1) (eb : b = nI M) (hM : M < 2 ^ 31) (hx : x < 2 ^ 31) (q1 : 1 ≤ x → x ≤ M → Q 1 h) (q0 : ¬ (1 ≤ x ∧ x ≤ M) → Q 0 h) : wp_X12_isIn (nI x) a b h Q := by
  subst ea eb
  refine pk_lt x 1 (fun c => q0 (by omega)) (fun c => ?_)
  exact pk_lt M x (fun c2 => q0 (by omega)) (fun c2 => q1 c c2)
theorem op_hidden {h : PH} (i : Inv h) (x y : Int32) : wp_X11_hidden 0 x y h (fun r h1 => wp_X12_hidden 70 x y h1 (Both h r)) := by
  obtain ⟨N, rb, n, Ds, d, e, id⟩ := i.2.2.1
  have sh := i.1
  have hN8 := id.2.2.1.1.2.2.1
  have hN := id.2.2.1.1.2.2.2.1
  have hn := id.2.2.1.2.2.2.1.1
  have hrb := id.2.2.1.2.2.2.1.2.1
  have ok : ∀ k, k < n → okD N (Ds k) := fun k hk => (id.2.2.1.2.2.2.1.2.2 k hk).1
  have nb : ¬ ((1 : Int32) = 0) := by decide
  obtain ⟨len, t1, t2, t3, t4⟩ := i.2.1
  have r0 : qR h 0 0 = some 1 := sh.R 0 0 1 (by decide)
  obtain ⟨b, bt⟩ := BT.ex (h := h) (sh.R 1 0 2 (by decide)) (sh.L 2 (by decide) rfl)
  refine ⟨1, r0, fun v3 e3 => ⟨1, r0, fun h6 e6 => ?_⟩⟩
  rw [t2] at e3
  subst e3
  have f6 : Fg [] [(1, 1)] h h6 := by rw [e6]; exact Fg.sI _ _ _ _
  have z6 : qI h6 1 1 = 0 := by rw [e6]; simp only [qI_sI]; simp
  have ml : nI len - nI len / 2 * 2 = nI (len % 2) := pk_rem (d := 2) (by omega) (by decide) (by decide)
  have dl2 : nI len / 2 = nI (len / 2) := pk_div (d := 2) (by omega) (by decide) (by decide)
  have id6 : IDd h6 N rb n Ds d e := id.ag (f6.ag rfl)
  -- where the model says NONE
  have bad : ¬ ((2 ≤ len ∧ len ≤ 120 ∧ len % 2 = 0) ∧ (∃ a, a < N ∧ x = nI a) ∧ ∃ c, c ≤ 100000 ∧ y = nI c) → wp_X12_hidden 70 x y h6 (Both h (-1)) := by
    intro no g0 e0 v1 ev1 g1 e1
    have k1 : Fg [] [(1, 1), (70, 0), (70, 2)] h g1 := by rw [e1, e0]; exact (f6.tr (Fg.sI _ _ _ _) (U := []) (V := [(1, 1), (70, 0), (70, 2)]) rfl rfl).tr (Fg.sI _ _ _ _) rfl rfl
    have ev1 : v1 = nI len := by rw [ev1, e0]; simp only [qI_sI]; simp; rw [f6.I rfl]; exact t3
    subst ev1
    have done : ∀ g2, Fg [] [(70, 20), (72, 0)] g1 g2 → DrL g2 N rb n Ds → Both h (-1) (-1) g2 := fun g2 k2 dl => by
      have k12 : Fg [] [(1, 1), (70, 0), (70, 2), (70, 20), (72, 0)] h g2 := k1.tr k2 rfl rfl
      refine ⟨rfl, i.emp id k12 ?_ ?_ dl rfl rfl rfl rfl rfl rfl (i.2.2.2.2.2.2.1.ag (k12.ag rfl)) rfl rfl rfl rfl, k12.rm⟩
      · rw [k2.I rfl, e1, e0]; simp only [qI_sI]; simp; exact z6
      · rw [k2.I rfl, e1]; simp only [qI_sI]; simp
    refine isTime_ok (id.2.2.1.ag (k1.ag rfl)) (fun g2 k2 dm dl => ⟨fun a ha ea => ⟨fun z => absurd z nb, fun _ => misPush_ok (fun c hc ec => ⟨fun z => absurd z nb, fun _ => ?_⟩) (fun _ => ⟨fun _ => done g2 k2 dl, fun z => absurd rfl z⟩)⟩, fun _ => ⟨fun _ => done g2 k2 dl, fun z => absurd rfl z⟩⟩)
    rw [ml, dl2]
    refine n_eq (len % 2) 0 (fun z => done g2 k2 dl) (fun z => isIn1_ok (M := 60) rfl rfl (by decide) (by omega) (fun z1 z2 => absurd ⟨⟨by omega, by omega, z⟩, ⟨a, ha, ea⟩, c, hc, ec⟩ no) (fun _ => ⟨fun z => absurd rfl z, fun _ => done g2 k2 dl⟩))
  have bad0 : ¬ (2 ≤ len ∧ len ≤ 120 ∧ len % 2 = 0) → wp_X11_hidden_38 0 x y (nI len) 0 h6 (fun r h1 => wp_X12_hidden 70 x y h1 (Both h r)) := fun no => ⟨fun _ => bad (fun z => no z.1), fun z => absurd rfl z⟩
  rw [ml]
  refine pk_lt len 2 (fun z => bad0 (by omega)) (fun z2 => pk_lt 120 len (fun z => bad0 (by omega)) (fun z120 => n_eq (len % 2) 0 (fun z => bad0 (by omega)) (fun z0 => ⟨fun z => absurd z nb, fun _ => ?_⟩)))
  refine isPlace_ok id6 (fun a ha ea => ⟨fun z => absurd z nb, fun _ => isPush_ok (fun c hc ec => ⟨fun _ => ?_, fun z => absurd z nb⟩) (fun no => ⟨fun z => absurd rfl z, fun _ => bad (fun q => ?_)⟩)⟩) (fun no => ⟨fun _ => bad (fun q => ?_), fun z => absurd rfl z⟩)
  · subst ea ec
    have hF : ∀ t, t < N → -580000 ≤ (fwd N rb n Ds 0 t).toInt ∧ (fwd N rb n Ds 0 t).toInt ≤ 580000 := fun t ht => fwd_bd hN8 hN hn hrb ok ht
    have hsv : ∀ k, shV b k < 65536 ∨ 60 ≤ k := fun k => by
      rcases Nat.lt_or_ge k 60 with z | z
      · have b1 := (bt.2.2 (2 * k) (by omega)).2
        have b2 := (bt.2.2 (2 * k + 1) (by omega)).2
        left; unfold shV; omega
      · exact Or.inr z
    obtain ⟨sv, svb, sve⟩ : ∃ sv : Nat → Nat, (∀ k, sv k < 65536) ∧ ∀ k, k < 60 → sv k = shV b k := ⟨fun k => if k < 60 then shV b k else 0, fun k => by
      dsimp only
      split
      · rcases hsv k with z | z
        · exact z
        · omega
      · omega, fun k hk => if_pos hk⟩
    obtain ⟨m, em⟩ : ∃ m, m = len / 2 := ⟨_, rfl⟩
    have hm60 : m ≤ 60 := by omega
    have sh6 := sh.fg f6 rfl
    refine ⟨13, sh6.R 0 3 13 (by decide), 7, sh6.R 0 2 7 (by decide), prepare_g (L := 0) id6.2.2.2.1 (by decide) (sh6.R 13 0 14 (by decide)) (sh6.R 13 1 15 (by decide)) (sh6.L 14 (by decide) rfl) (sh6.L 15 (by decide) rfl) (fun h7 f7 wc => ?_)⟩
    have f67 : Fg [14, 15] [(1, 1), (13, 2)] h h7 := f6.tr f7 rfl rfl
    have sh7 := sh.fg f67 rfl
    refine ⟨18, sh7.R 0 6 18 (by decide), 1, sh7.R 0 0 1 (by decide), ?_⟩
    rw [dl2, ← em]
    refine show_ok (bt.ag (f67.ag rfl)) (sh7.R 18 0 19 (by decide)) (sh7.L 19 (by decide) rfl) hm60 (fun h8 f8 v3 v19 => ?_)
    have f68 : Fg [14, 15, 19] [(1, 1), (13, 2), (18, 3)] h h8 := f67.tr f8 rfl rfl
    have sh8 := sh.fg f68 rfl
    have wf8 := (wc.wf hN8 hN).ag (f8.ag rfl)
    have v19' : ∀ k, k < m → qI h8 19 k = nI (sv k) := fun k hk => by rw [sve k (by omega)]; exact v19 k hk
    -- the model, up to its search
    have mod : ∀ (h9 : PH) (r : Int32), Fg [14, 15, 19, 20, 21] [(1, 1), (13, 2), (18, 3), (18, 4), (18, 5), (18, 6)] h h9 → qI h9 1 1 = 0 →
        (hOk (hA (fun t => (fwd N rb n Ds 0 t).toInt) N a c) (fun _ => 0) sv m 0 → r = -2 ∧ IFind h9) →
        (¬ hOk (hA (fun t => (fwd N rb n Ds 0 t).toInt) N a c) (fun _ => 0) sv m 0 → r = nI (ht (hA (fun t => (fwd N rb n Ds 0 t).toInt) N a c) N a sv m N).length ∧ qI h9 18 4 = 1 ∧ FLc h9 (ht (hA (fun t => (fwd N rb n Ds 0 t).toInt) N a c) N a sv m N)) → wp_X12_hidden 70 (nI a) (nI c) h9 (Both h r) := by
      intro h9 r f9 z9 a1 a2 g0 e0 v1 ev1 g1 e1
      have k1 : Fg [14, 15, 19, 20, 21] [(1, 1), (13, 2), (18, 3), (18, 4), (18, 5), (18, 6), (70, 0), (70, 2)] h g1 := by rw [e1, e0]; exact (f9.tr (Fg.sI _ _ _ _) (U := [14, 15, 19, 20, 21]) (V := [(1, 1), (13, 2), (18, 3), (18, 4), (18, 5), (18, 6), (70, 0), (70, 2)]) rfl rfl).tr (Fg.sI _ _ _ _) rfl rfl
      have k1' : Fg [] [(70, 0), (70, 2)] h9 g1 := by rw [e1, e0]; exact (Fg.sI _ _ _ _).tr (Fg.sI _ _ _ _) rfl rfl
      have ev1 : v1 = nI len := by rw [ev1, e0]; simp only [qI_sI]; simp; rw [f9.I rfl]; exact t3
      subst ev1
      refine isTime_ok (id.2.2.1.ag (k1.ag rfl)) (fun g2 k2 dm dl => ⟨fun j hj ej => ⟨fun z => absurd z nb, fun _ => ?_⟩, fun no => absurd rfl (no a ha)⟩)
      refine misPush_ok (fun p2 hp2 ep2 => ⟨fun z => absurd z nb, fun _ => ?_⟩) (fun no => absurd rfl (no c hc))
      rw [ml, dl2, ← em]
      refine n_eq (len % 2) 0 (fun z => by omega) (fun z => isIn1_ok (M := 60) rfl rfl (by decide) (by omega) (fun z1 z2 => ⟨fun _ g3 e3 => ?_, fun z => absurd z nb⟩) (fun z => by omega))
      have k3' : Fg [85] [(70, 0), (70, 2), (70, 20), (72, 0), (70, 51)] h9 g3 := by rw [e3]; exact (k1'.tr k2 (U := [85]) (V := [(70, 0), (70, 2), (70, 20), (72, 0), (70, 51)]) rfl rfl).tr (Fg.sI _ _ _ _) rfl rfl
      have sh9 := sh.fg f9 rfl
      have v51 : qI g3 70 51 = nI m := by rw [e3]; simp only [qI_sI]; simp
      have dl3 : DrL g3 N rb n Ds := by rw [e3]; exact dl.ag ((Fg.sI _ _ _ _).ag rfl)
      have r2 : qI g3 70 2 = 0 := by rw [e3]; simp only [qI_sI]; simp; rw [k2.I rfl, e1]; simp only [qI_sI]; simp
      refine loopR m (fun k s => s.1 = nI k ∧ Fg [85] [] g3 s.2 ∧ ∀ j, j < k → qI s.2 85 j = nI (sv j)) (fun s => s.1.toNatClampNeg) ⟨rfl, Fg.rf _ _ _, fun j hj => absurd hj (Nat.not_lt_zero j)⟩ (fun k s hk p => by rw [p.1]; exact nI_clamp (by omega)) ?_ ?_
      · rintro k ⟨k', g4⟩ hk ⟨s1, s2, s3⟩ back hb
        dsimp only at s1 s2 s3
        subst s1
        have k4 : Fg [85] [(70, 0), (70, 2), (70, 20), (72, 0), (70, 51)] h9 g4 := k3'.tr s2 rfl rfl
        have sh4 := sh9.fg k4 rfl
        have x2 : 2 * nI k = nI (2 * k) := by rw [show (2 : Int32) = nI 2 from rfl, pk_mul]
        have tp : ∀ j, j < 640 → qI g4 71 j = nI (b j) := fun j hj => by
          rw [(k4.ag (C := [71]) (G := []) rfl).I rfl, (f9.ag (C := [71]) (G := []) rfl).I rfl, t4 j hj]; exact (bt.2.2 j hj).1
        refine ⟨fun z => absurd z (by rw [show qI g4 70 51 = nI m by rw [s2.I rfl]; exact v51]; exact nI_ge hk (by omega)), fun _ => ⟨85, sh4.R 70 48 85 (by decide), 71, sh4.R 70 1 71 (by decide), ?_⟩⟩
        dsimp only
        rw [x2, nI_1, nI_clamp (show 2 * k < 2 ^ 31 by omega), nI_clamp (show 2 * k + 1 < 2 ^ 31 by omega), nI_clamp (show k < 2 ^ 31 by omega), sh4.L 71 (n := 640) (by decide) rfl, sh4.L 85 (n := 60) (by decide) rfl]
        refine ⟨vp_in_nI (by omega) (by decide), 71, sh4.R 70 1 71 (by decide), ?_, ?_⟩
        · rw [sh4.L 71 (n := 640) (by decide) rfl]; exact vp_in_nI (by omega) (by decide)
        refine ⟨vp_in_nI (by omega) (by decide), fun g5 e5 w ew => hb _ ⟨by rw [ew]; exact nI_1 k, by rw [e5]; exact s2.push _ _, fun j hj => ?_⟩⟩
        show qI g5 85 j = _
        rw [e5, rI_sI, if_pos rfl, up_at]
        by_cases z : j = k
        · rw [if_pos z, tp _ (by omega), tp _ (by omega), z, sve k (by omega), show (256 : Int32) = nI 256 from rfl, pk_mul, nI_add]; rfl
        · rw [if_neg z]; exact s3 j (by omega)
      · rintro ⟨k', g4⟩ ⟨s1, s2, s3⟩ back
        dsimp only at s1 s2 s3
        subst s1
        have k4 : Fg [85] [(70, 0), (70, 2), (70, 20), (72, 0), (70, 51)] h9 g4 := k3'.tr s2 rfl rfl
        have sh4 := sh9.fg k4 rfl
        have v51' : qI g4 70 51 = nI m := by rw [s2.I rfl]; exact v51
        refine ⟨fun _ => ?_, fun z => absurd (by rw [v51']; exact nI_le (Nat.le_refl m) (by omega)) z⟩
        refine layWorld_ok (L := 0) (dl3.ag (s2.ag rfl)) (by decide) (sh4.R 70 21 78 (by decide)) (sh4.R 70 22 79 (by decide)) (sh4.L 78 (by decide) rfl) (sh4.L 79 (by decide) rfl) (fun g5 k5 dm5 dl5 wm => ?_)
        have k45 : Fg [78, 79, 85] [(70, 0), (70, 2), (70, 20), (72, 0), (70, 51)] h9 g5 := k4.tr k5 rfl rfl
        have sh5 := sh9.fg k45 rfl
        have mf := wm.mf dm5.1
        have v85 : ∀ k, k < m → qI g5 85 k = nI (sv k) := fun k hk => by rw [(k5.ag (C := [85]) (G := []) rfl).I rfl]; exact s3 k hk
        have v51'' : qI g5 70 51 = nI m := by rw [k5.I rfl]; exact v51'
        have r2' : qI g5 70 2 = 0 := by rw [k5.I rfl, s2.I rfl]; exact r2
        refine mcomes_ok (g := 0) (xI := -1) (C := fun _ => 0) mf ha hc (by decide) hF (sh5.R 70 48 85 (by decide)) (sh5.L 85 (by decide) rfl) hm60 v51'' v85 svb rfl (fun k => Nat.zero_le k) (fun k => by rw [if_neg (nI_m1 (by have := Nat.mod_lt (a + k) (show 0 < N by omega); omega))]) (fun y => ⟨fun z => absurd z nb, fun _ => ?_⟩) (fun y => ⟨fun _ g6 e6 g7 e7 g8 e8 => ?_, fun z => absurd rfl z⟩)
        · obtain ⟨a3, a4⟩ := a1 y
          have kB : Fg [14, 15, 19, 20, 21, 78, 79, 85] [(1, 1), (13, 2), (18, 3), (18, 4), (18, 5), (18, 6), (70, 0), (70, 2), (70, 20), (72, 0), (70, 51)] h g5 := f9.tr k45 rfl rfl
          exact ⟨a3, i.emp id kB (by rw [k45.I rfl]; exact z9) r2' dl5 rfl rfl rfl rfl rfl rfl (a4.ag (k45.ag rfl)) rfl rfl rfl rfl, kB.rm⟩
        · obtain ⟨a3, a4, a5⟩ := a2 y
          have k8' : Fg [] [(70, 52), (70, 53), (70, 54)] g5 g8 := by rw [e8, e7, e6]; exact ((Fg.sI _ _ _ _).tr (Fg.sI _ _ _ _) (U := []) (V := [(70, 52), (70, 53), (70, 54)]) rfl rfl).tr (Fg.sJ _ _ _ _) rfl rfl
          have k8 : Fg [78, 79, 85] [(70, 0), (70, 2), (70, 20), (72, 0), (70, 51), (70, 52), (70, 53), (70, 54)] h9 g8 := k45.tr k8' rfl rfl
          have v54 : qI g8 70 54 = 1 := by
            rw [e8]
            show qI g7 70 54 = 1
            rw [e7, e6]; simp only [qI_sI]; simp
          refine msrch_ok (sv := sv) (mf.ag (k8'.ag rfl)) ha hc hF (sh9.fg k8 rfl) hm60 (by rw [k8'.I rfl]; exact v51'') (fun k hk => by rw [(k8'.ag (C := [85]) (G := []) rfl).I rfl]; exact v85 k hk) svb ⟨by rw [e8, qJ_sJ, if_pos ⟨rfl, rfl⟩]; rfl, fun k hk => absurd hk (Nat.not_lt_zero k)⟩ (fun g9 nT enT k9 fm v52 => ?_)
          have k89 : Fg [78, 79, 85, 86, 87] [(70, 0), (70, 2), (70, 20), (72, 0), (70, 51), (70, 52), (70, 53), (70, 54)] h9 g9 := k8.tr k9 rfl rfl
          have k59 : Fg [86, 87] [(70, 52), (70, 53), (70, 54)] g5 g9 := k8'.tr k9 rfl rfl
          have kB : Fg [14, 15, 19, 20, 21, 78, 79, 85, 86, 87] [(1, 1), (13, 2), (18, 3), (18, 4), (18, 5), (18, 6), (70, 0), (70, 2), (70, 20), (72, 0), (70, 51), (70, 52), (70, 53), (70, 54)] h g9 := f9.tr k89 rfl rfl
          have hl := ht_len (A := hA (fun t => (fwd N rb n Ds 0 t).toInt) N a c) (N := N) (t0 := a) (sv := sv) (m := m) N
          generalize ht (hA (fun t => (fwd N rb n Ds 0 t).toInt) N a c) N a sv m N = T at *
          have fc := a5.ag (k89.ag rfl)
          subst enT
          refine ⟨a3, i.emp id kB (by rw [k89.I rfl]; exact z9) (by rw [k59.I rfl]; exact r2') (dl5.ag (k59.ag rfl)) rfl rfl rfl rfl rfl rfl ⟨⟨T.length, by omega, fc.1, v52, fun k hk hk2 => ?_⟩, ?_, ?_, ?_⟩ rfl rfl rfl rfl, kB.rm⟩
          · rw [(fc.2.2 k hk hk2).1, (fc.2.2 k hk hk2).2, (fm.2 k hk hk2).1, (fm.2 k hk hk2).2]
            exact ⟨rfl, rfl⟩
          · rw [k89.I rfl, a4, k9.I rfl, v54]
          · rw [fc.2.1, fm.1]
          · rw [kB.I rfl, kB.I rfl]; exact i.2.2.2.2.2.2.1.2.2.2
    have z8 : qI h8 1 1 = 0 := by rw [f8.I rfl, f7.I rfl]; exact z6
    refine ⟨18, sh8.R 0 6 18 (by decide), 13, sh8.R 0 3 13 (by decide), comesW_ok wf8 ha hc hF (sh8.R 18 0 19 (by decide)) (sh8.L 19 (by decide) rfl) hm60 v3 v19' svb (fun y => ⟨fun z => absurd z nb, fun _ => mod h8 (-2) (f68.mono rfl) z8 (fun _ => ⟨rfl, i.2.2.2.2.2.2.1.ag (f68.ag rfl)⟩) (fun z => absurd y z)⟩) (fun y => ⟨fun _ => ⟨18, sh8.R 0 6 18 (by decide), 13, sh8.R 0 3 13 (by decide), srch_ok wf8 ha hc hF sh8 hm60 v3 v19' svb (fun h9 f9 s4 fc => ⟨18, by rw [f9.R rfl]; exact sh8.R 0 6 18 (by decide), ?_⟩)⟩, fun z => absurd rfl z⟩)⟩
    rw [fc.1]
    exact mod h9 _ (f68.tr f9 rfl rfl) (by rw [f9.I rfl]; exact z8) (fun z => absurd z y) (fun _ => ⟨rfl, s4, fc⟩)
  · obtain ⟨_, _, c, hc, ec⟩ := q
    exact no c hc ec
  · obtain ⟨_, ⟨c, hc, ec⟩, _⟩ := q
    exact no c hc ec

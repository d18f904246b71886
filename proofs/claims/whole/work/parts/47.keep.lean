/-! ===== PURE: the call keep ===== -/
theorem rI_ne (h : PH) {a b : Nat} (k : Nat) (v : Int32) (e : b ≠ a) : qI (qsI h a k v) b = qI h b := by rw [rI_sI, if_neg e]
theorem pcopy_ok {h : PH} {a b : Nat} {Q : PH → Prop} (hab : b ≠ a) (h7 : qI h b 7 = 0 ∨ qI h b 7 = 1) (q : ∀ h1, Fg [a] [] h h1 → (∀ x j, qR h1 x j = qR h x j) → (∀ j, j < 10 → qI h1 a j = qI h b j) → Q h1) : wp_X4_copyFrom a b h Q := by
  intro h1 e1 h2 e2 h3 e3 h4 e4 h5 e5 h6 e6 h7' e7
  have b1 : qI h1 b = qI h b := by rw [e1]; exact rI_ne _ _ _ hab
  have b2 : qI h2 b = qI h b := by rw [e2, rI_ne _ _ _ hab]; exact b1
  have b3 : qI h3 b = qI h b := by rw [e3, rI_ne _ _ _ hab]; exact b2
  have b4 : qI h4 b = qI h b := by rw [e4, rI_ne _ _ _ hab]; exact b3
  have b5 : qI h5 b = qI h b := by rw [e5, rI_ne _ _ _ hab]; exact b4
  have b6 : qI h6 b = qI h b := by rw [e6, rI_ne _ _ _ hab]; exact b5
  have b7 : qI h7' b = qI h b := by rw [e7, rI_ne _ _ _ hab]; exact b6
  refine ⟨by rw [b7]; exact h7, fun h8 e8 h9 e9 h10 e10 => ?_⟩
  have b8 : qI h8 b = qI h b := by rw [e8, rI_ne _ _ _ hab]; exact b7
  have b9 : qI h9 b = qI h b := by rw [e9, rI_ne _ _ _ hab]; exact b8
  rw [b9] at e10
  rw [b8] at e9
  rw [b7] at e8
  rw [b6] at e7
  rw [b5] at e6
  rw [b4] at e5
  rw [b3] at e4
  rw [b2] at e3
  rw [b1] at e2
  refine q h10 ?_ (fun x j => by rw [e10, e9, e8, e7, e6, e5, e4, e3, e2, e1]; rfl) ?_
  · rw [e10, e9, e8, e7, e6, e5, e4, e3, e2, e1]
    exact ((((((((((Fg.rf _ _ _).push _ _).push _ _).push _ _).push _ _).push _ _).push _ _).push _ _).push _ _).push _ _).push _ _
  · intro j hj
    rw [e10, e9, e8, e7, e6, e5, e4, e3, e2, e1]
    rcases (show j = 0 ∨ j = 1 ∨ j = 2 ∨ j = 3 ∨ j = 4 ∨ j = 5 ∨ j = 6 ∨ j = 7 ∨ j = 8 ∨ j = 9 by omega) with z | z | z | z | z | z | z | z | z | z <;> (subst z; simp only [qI_sI]; simp)
def kcL (B : Nat) : List Nat := (List.range 14).map (fun j => B + j)
theorem kcL_in {B x : Nat} : x ∈ kcL B ↔ B ≤ x ∧ x < B + 14 := by
  unfold kcL
  rw [List.mem_map]
  constructor
  · rintro ⟨j, hj, e⟩
    rw [List.mem_range] at hj
    omega
  · intro h
    exact ⟨x - B, List.mem_range.mpr (by omega), by omega⟩
/-- a drawing of the class is copied -/
theorem dcopy_ok {h : PH} {B d N rb n : Nat} {Ds : Nat → PD} {Q : PH → Prop} (c : DrC h d N rb n Ds) (pd : qR h d 0 = some (d + 1) ∧ qL h (d + 1) = 12 ∧ ∀ j, j < 12 → qR h (d + 1) j = some (d + 2 + j)) (pB : qR h B 0 = some (B + 1) ∧ qL h (B + 1) = 12 ∧ ∀ j, j < 12 → qR h (B + 1) j = some (B + 2 + j)) (dj : B + 14 ≤ d ∨ d + 14 ≤ B) (hn : n ≤ 12)
    (q : ∀ h1, Fg (kcL B) [] h h1 → (∀ x j, qR h1 x j = qR h x j) → KpC h1 B N rb n Ds → Q h1) : wp_X1_copyFrom B d h Q := by
  obtain ⟨c1, c2, c3, c4⟩ := c
  intro h1 e1 h2 e2 h3 e3
  have nB : ∀ x, ¬ (B ≤ x ∧ x < B + 14) → x ∉ kcL B := fun x hx z => hx (kcL_in.mp z)
  have f3 : Fg (kcL B) [] h h3 := by
    have iB : B ∈ kcL B := kcL_in.mpr ⟨Nat.le_refl _, by omega⟩
    have sub : ∀ {g g' : PH} {k : Nat} {v : Int32}, Fg (kcL B) [] g g' → Fg (kcL B) [] g (qsI g' B k v) := fun f => ⟨f.1, fun a ha j hj => by
      have hne : a ≠ B := fun z => ha (by rw [z]; exact iB)
      obtain ⟨y1, y2, y3⟩ := f.2 a ha j hj
      exact ⟨by rw [qI_sI, if_neg (fun z => hne z.1)]; exact y1, y2, y3⟩⟩
    rw [e3, e2, e1]
    exact sub (sub (sub (Fg.rf _ _ _)))
  have dB : d ≠ B := by omega
  have v1 : qI h3 B 1 = nI n := by rw [e3, e2, e1]; simp only [qI_sI]; simp; exact c1
  have v2 : qI h3 B 2 = nI N := by rw [e3, e2, e1]; simp only [qI_sI]; simp [dB]; exact c2
  have v3 : qI h3 B 3 = nI rb := by rw [e3, e2, e1]; simp only [qI_sI]; simp [dB]; exact c3
  have R3 : ∀ x j, qR h3 x j = qR h x j := fun x j => by rw [e3, e2, e1]; rfl
  refine loopR n (fun k s => s.1 = nI k ∧ Fg (kcL B) [] h s.2 ∧ (∀ x j, qR s.2 x j = qR h x j) ∧ (∀ j, qI s.2 B j = qI h3 B j) ∧ ∀ l, l < k → rowE (qI s.2 (B + 2 + l)) (Ds l)) (fun s => s.1.toNatClampNeg) ⟨rfl, f3, R3, fun _ => rfl, fun l hl => absurd hl (Nat.not_lt_zero l)⟩ (fun k s hk p => by rw [p.1]; exact nI_clamp (by omega)) ?_ ?_
  · rintro k ⟨k', g⟩ hk ⟨s1, s2, s3, s4, s5⟩ back hb
    dsimp only at s1 s2 s3 s4 s5
    subst s1
    have row : ∀ j, qI g (d + 2 + k) j = qI h (d + 2 + k) j := fun j => (s2.2 _ (nB _ (by omega)) j List.not_mem_nil).1
    refine ⟨fun z => absurd z (by rw [s4, v1]; exact nI_ge hk (by omega)), fun _ => ⟨B + 1, by rw [s3]; exact pB.1, by rw [s2.L, pB.2.1]; exact vp_in_nI (by omega) (by decide), B + 2 + k, by rw [s3, nI_clamp (by omega)]; exact pB.2.2 k (by omega), d + 1, by rw [s3]; exact pd.1, by rw [s2.L, pd.2.1]; exact vp_in_nI (by omega) (by decide), d + 2 + k, by rw [s3, nI_clamp (by omega)]; exact pd.2.2 k (by omega), pcopy_ok (by omega) ?_ (fun g2 f2 R2 cp w ew => hb _ ?_)⟩⟩
    · rw [row, c4 k hk 7 (by decide) (by decide)]
      exact b2i_z _
    · have ne : ∀ x, x ≠ B + 2 + k → ∀ j, qI g2 x j = qI g x j ∧ qR g2 x j = qR g x j := fun x hx j => ⟨(f2.ne (by simp; exact hx) j).1, (f2.ne (by simp; exact hx) j).2.2⟩
      refine ⟨by rw [ew]; exact nI_1 k, ⟨⟨f2.1.1.trans s2.1.1, f2.1.2.1.trans s2.1.2.1, f2.1.2.2.1.trans s2.1.2.2.1, f2.1.2.2.2.trans s2.1.2.2.2⟩, fun a ha j hj => ?_⟩, fun x j => ?_, fun j => ?_, fun l hl => ?_⟩
      · have hx : a ∉ [B + 2 + k] := by
          simp
          intro z
          exact ha (kcL_in.mpr (by omega))
        obtain ⟨y1, y2, y3⟩ := f2.ne hx j
        obtain ⟨z1, z2, z3⟩ := s2.2 a ha j hj
        exact ⟨y1.trans z1, y2.trans z2, y3.trans z3⟩
      · show qR g2 x j = _
        rw [R2]; exact s3 x j
      · show qI g2 B j = _
        rw [(ne B (by omega) j).1]; exact s4 j
      · rcases (show l < k ∨ l = k by omega) with z | z
        · intro i hi h1i
          show qI g2 (B + 2 + l) i = _
          rw [(ne _ (by omega) i).1]; exact s5 l z i hi h1i
        · subst z
          intro i hi h1i
          show qI g2 (B + 2 + l) i = _
          rw [cp i hi, row]; exact c4 l hk i hi h1i
  · rintro ⟨k', g⟩ ⟨s1, s2, s3, s4, s5⟩ back
    dsimp only at s1 s2 s3 s4 s5
    subst s1
    exact ⟨fun _ => q g s2 s3 ⟨by rw [s3]; exact pB.1, by rw [s2.L]; exact pB.2.1, fun j hj => by rw [s3]; exact pB.2.2 j hj, by rw [s4]; exact v1, by rw [s4]; exact v2, by rw [s4]; exact v3, s5⟩, fun z => absurd (by rw [s4, v1]; exact nI_le (Nat.le_refl n) (by omega)) z⟩
/-- the model copies drawing a to drawing b -/
theorem mcopy_ok {h : PH} {a b : Nat} {Q : PH → Prop} (sh : Shp h) (ha : a < 8) (hb8 : b < 8) (hab : a ≠ b)
    (q : ∀ h1, Fg [72, 73, 74, 75] [] h h1 → (∀ j, qI h1 72 j = if j = b then qI h 72 a else qI h 72 j) → (∀ j, qI h1 73 j = if j = b then qI h 73 a else qI h 73 j) → (∀ j, qI h1 74 j = if j = b then qI h 74 a else qI h 74 j) → (∀ j, qI h1 75 j = if 96 * b ≤ j ∧ j < 96 * b + 96 then qI h 75 (96 * a + (j - 96 * b)) else qI h 75 j) → Q h1) : wp_X12_copy 70 (nI a) (nI b) h Q := by
  have ca : (nI a).toNatClampNeg = a := nI_clamp (by omega)
  have cb : (nI b).toNatClampNeg = b := nI_clamp (by omega)
  have r14 : qR h 70 14 = some 72 := sh.R 70 14 72 (by decide)
  have r15 : qR h 70 15 = some 73 := sh.R 70 15 73 (by decide)
  have r16 : qR h 70 16 = some 74 := sh.R 70 16 74 (by decide)
  have r17 : qR h 70 17 = some 75 := sh.R 70 17 75 (by decide)
  have l72 : qL h 72 = 8 := sh.L 72 (by decide) rfl
  have l73 : qL h 73 = 8 := sh.L 73 (by decide) rfl
  have l74 : qL h 74 = 8 := sh.L 74 (by decide) rfl
  have l75 : qL h 75 = 768 := sh.L 75 (by decide) rfl
  refine ⟨72, r14, 72, r14, by rw [l72]; exact vp_in_nI ha (by decide), by rw [l72]; exact vp_in_nI hb8 (by decide), fun h1 e1 => ⟨73, by rw [e1]; exact r15, 73, by rw [e1]; exact r15, by rw [show qL h1 73 = 8 by rw [e1]; exact l73]; exact vp_in_nI ha (by decide), by rw [show qL h1 73 = 8 by rw [e1]; exact l73]; exact vp_in_nI hb8 (by decide), fun h2 e2 => ⟨74, by rw [e2, e1]; exact r16, 74, by rw [e2, e1]; exact r16, by rw [show qL h2 74 = 8 by rw [e2, e1]; exact l74]; exact vp_in_nI ha (by decide), by rw [show qL h2 74 = 8 by rw [e2, e1]; exact l74]; exact vp_in_nI hb8 (by decide), fun h3 e3 => ?_⟩⟩⟩
  rw [ca, cb] at e1 e2 e3
  have f3 : Fg [72, 73, 74, 75] [] h h3 := by
    rw [e3, e2, e1]
    exact ((Fg.cI _ _ _ _).tr (Fg.cI _ _ _ _) (U := [72, 73, 74, 75]) (V := []) rfl rfl).tr (Fg.cI _ _ _ _) rfl rfl
  have v72 : ∀ j, qI h3 72 j = if j = b then qI h 72 a else qI h 72 j := fun j => by rw [e3, e2, e1]; simp only [qI_sI]; simp
  have v73 : ∀ j, qI h3 73 j = if j = b then qI h 73 a else qI h 73 j := fun j => by rw [e3, e2, e1]; simp only [qI_sI]; simp
  have v74 : ∀ j, qI h3 74 j = if j = b then qI h 74 a else qI h 74 j := fun j => by rw [e3, e2, e1]; simp only [qI_sI]; simp
  have v75 : ∀ j, qI h3 75 j = qI h 75 j := fun j => by rw [e3, e2, e1]; simp only [qI_sI]; simp
  refine loopR 96 (fun k s => s.1 = nI k ∧ Fg [72, 73, 74, 75] [] h s.2 ∧ (∀ j, qI s.2 72 j = qI h3 72 j ∧ qI s.2 73 j = qI h3 73 j ∧ qI s.2 74 j = qI h3 74 j) ∧ ∀ j, qI s.2 75 j = if 96 * b ≤ j ∧ j < 96 * b + k then qI h 75 (96 * a + (j - 96 * b)) else qI h 75 j) (fun s => s.1.toNatClampNeg) ⟨rfl, f3, fun _ => ⟨rfl, rfl, rfl⟩, fun j => by rw [if_neg (by omega)]; exact v75 j⟩ (fun k s hk p => by rw [p.1]; exact nI_clamp (by omega)) ?_ ?_
  · rintro k ⟨k', g⟩ hk ⟨s1, s2, s3, s4⟩ back hb
    dsimp only at s1 s2 s3 s4
    subst s1
    have xa : 96 * nI a + nI k = nI (96 * a + k) := by rw [show (96 : Int32) = nI 96 from rfl, pk_mul, nI_add]
    have xb : 96 * nI b + nI k = nI (96 * b + k) := by rw [show (96 : Int32) = nI 96 from rfl, pk_mul, nI_add]
    have lg : qL g 75 = 768 := by rw [s2.L]; exact l75
    have rg : qR g 70 17 = some 75 := by rw [s2.R rfl]; exact r17
    refine pk_le 96 k (fun z => by omega) (fun _ => ⟨75, rg, 75, rg, by rw [lg, xa]; exact vp_in_nI (by omega) (by decide), by rw [lg, xb]; exact vp_in_nI (by omega) (by decide), fun g2 e4 w ew => hb _ ?_⟩)
    rw [xa, xb, nI_clamp (by omega), nI_clamp (by omega)] at e4
    refine ⟨by rw [ew]; exact nI_1 k, by rw [e4]; exact s2.tr (Fg.cI _ _ _ _) rfl rfl, fun j => ?_, fun j => ?_⟩
    · show qI g2 72 j = _ ∧ qI g2 73 j = _ ∧ qI g2 74 j = _
      rw [e4, rI_ne _ _ _ (by decide), rI_ne _ _ _ (by decide), rI_ne _ _ _ (by decide)]
      exact s3 j
    · show qI g2 75 j = _
      rw [e4, rI_sI, if_pos rfl, up_at]
      by_cases z : j = 96 * b + k
      · rw [if_pos z, if_pos (by omega), s4, if_neg (by omega), z, show 96 * b + k - 96 * b = k by omega]
      · rw [if_neg z, s4]
        by_cases y : 96 * b ≤ j ∧ j < 96 * b + k
        · rw [if_pos y, if_pos (by omega)]
        · rw [if_neg y, if_neg (by omega)]
  · rintro ⟨k', g⟩ ⟨s1, s2, s3, s4⟩ back
    dsimp only at s1 s2 s3 s4
    subst s1
    exact pk_le 96 96 (fun _ => q g s2 (fun j => by rw [(s3 j).1]; exact v72 j) (fun j => by rw [(s3 j).2.1]; exact v73 j) (fun j => by rw [(s3 j).2.2]; exact v74 j) s4) (fun z => by omega)
/-! what the class's keep leaves behind, the old cells at Bk or new ones -/
def KS (h h1 : PH) (k Bk N rb n : Nat) (Ds : Nat → PD) (B : Nat → Nat) : Prop := (qn h ≤ qn h1 ∧ 93 ≤ Bk ∧ Bk + 14 ≤ qn h1) ∧ (∀ a, a < qn h → ¬ (Bk ≤ a ∧ a < Bk + 14) → qK h1 a = qK h a ∧ qL h1 a = qL h a ∧ qI h1 a = qI h a ∧ qJ h1 a = qJ h a ∧ (a ≠ 23 → qR h1 a = qR h a)) ∧ (∀ j, qR h1 23 j = if j = k then some Bk else qR h 23 j) ∧ KpC h1 Bk N rb n Ds ∧ ∀ j, j < 6 → j ≠ k → qR h 23 j ≠ none → B j + 14 ≤ Bk ∨ Bk + 14 ≤ B j
theorem KS.ag {h h1 : PH} {k Bk N rb n : Nat} {Ds : Nat → PD} {B : Nat → Nat} (s : KS h h1 k Bk N rb n Ds B) (hn : 93 ≤ qn h) {C : List Nat} {G : List (Nat × Nat)} (c1 : C.all (fun a => decide (a < 93) && a != 23) = true) (c2 : G.all (fun g => decide (g.1 < 93) && g.1 != 23) = true) : Ag C G h h1 := by
  rw [List.all_eq_true] at c1 c2
  obtain ⟨⟨x1, x2, x3⟩, s2, _⟩ := s
  have key : ∀ a, (decide (a < 93) && a != 23) = true → qL h1 a = qL h a ∧ qI h1 a = qI h a ∧ qJ h1 a = qJ h a ∧ qR h1 a = qR h a := fun a z => by
    rw [Bool.and_eq_true, decide_eq_true_iff] at z
    obtain ⟨y1, y2, y3, y4, y5⟩ := s2 a (by omega) (by omega)
    exact ⟨y2, y3, y4, y5 (by simpa using z.2)⟩
  refine ⟨fun a ha => key a (c1 a ha), fun g hg => ?_⟩
  obtain ⟨y1, y2, y3, y4⟩ := key g.1 (c2 g hg)
  exact ⟨y1, by rw [y2], by rw [y3], by rw [y4]⟩
theorem KS.shp {h h1 : PH} {k Bk N rb n : Nat} {Ds : Nat → PD} {B : Nat → Nat} (s : KS h h1 k Bk N rb n Ds B) (sh : Shp h) : Shp h1 := by
  have hn := sh.1
  have a1 : Ag [27, 41] (rfL.map (fun q => (q.1, q.2.1))) h h1 := s.ag hn rfl rfl
  obtain ⟨⟨x1, x2, x3⟩, s2, _⟩ := s
  obtain ⟨t1, t2, t3, t4⟩ := sh
  refine ⟨by omega, fun a ha => ?_, fun q hq => ?_, fun j hj => ⟨by rw [a1.R rfl]; exact (t4 j hj).1, by rw [a1.R rfl]; exact (t4 j hj).2⟩⟩
  · obtain ⟨y1, y2, _⟩ := s2 a (by omega) (by omega)
    exact ⟨y1.trans (t2 a ha).1, y2.trans (t2 a ha).2⟩
  · have := (a1.2 (q.1, q.2.1) (List.mem_map.mpr ⟨q, hq, rfl⟩)).2.2.2
    exact this.trans (t3 q hq)
theorem kmodel {h h1 : PH} {k Bk N rb n d e : Nat} {Ds : Nat → PD} {B : Nat → Nat} (i : Inv h) (id : IDd h N rb n Ds d e) (k6 : k < 6) (kp : ∀ k, k < 6 → (qR h 23 k = none ∧ qI h 77 k = 0) ∨ (qR h 23 k = some (B k) ∧ qI h 77 k = 1 ∧ 93 ≤ B k ∧ B k + 14 ≤ qn h ∧ ∃ N rb n Ds, KpC h (B k) N rb n Ds ∧ KpM h k N rb n Ds)) (kd : ∀ k k2, k < 6 → k2 < 6 → k ≠ k2 → qR h 23 k ≠ none → qR h 23 k2 ≠ none → B k + 14 ≤ B k2 ∨ B k2 + 14 ≤ B k) (s : KS h h1 k Bk N rb n Ds B) (rm : Rm h h1) : wp_X12_keep 70 (nI k) h1 (Both h 1) := by
  have hn := i.1.1
  have sh1 := s.shp i.1
  have dl1 : DrL h1 N rb n Ds := id.2.2.1.ag (s.ag hn rfl rfl)
  intro g0 e0
  have f0 : Fg [] [(70, 0)] h1 g0 := by rw [e0]; exact Fg.sI _ _ _ _
  refine lay_ok (dl1.ag (f0.ag rfl)) (fun g1 f1 dm dl => isK_ok (fun L hL eL => ⟨fun _ => ?_, fun z => absurd z (by decide)⟩) (fun no => absurd rfl (no k k6)))
  have f01 : Fg [] [(70, 0), (70, 20), (72, 0)] h1 g1 := f0.tr f1 rfl rfl
  have shg : Shp g1 := sh1.fg f01 rfl
  rw [show (2 : Int32) + nI k = nI (2 + k) by rw [show (2 : Int32) = nI 2 from rfl, nI_add], show (0 : Int32) = nI 0 from rfl]
  refine mcopy_ok shg (by decide) (by omega) (by omega) (fun g2 f2 v72 v73 v74 v75 => ⟨77, by rw [f2.R rfl]; exact shg.R 70 19 77 (by decide), by rw [f2.L, shg.L 77 (n := 6) (by decide) rfl]; exact vp_in_nI k6 (by decide), fun g3 e3 => ?_⟩)
  rw [nI_clamp (by omega), show vp_nar .boolean 1 = 1 by decide] at e3
  have f3 : Fg [77] [] g2 g3 := by rw [e3]; exact Fg.cI _ _ _ _
  have f13 : Fg [72, 73, 74, 75, 77] [] g1 g3 := f2.tr f3 rfl rfl
  have fA : Fg [72, 73, 74, 75, 77] [(70, 0), (70, 20)] h1 g3 := f01.tr f13 rfl rfl
  have w77 : ∀ j, qI g3 77 j = if j = k then 1 else qI h1 77 j := fun j => by
    rw [e3, rI_sI, if_pos rfl, up_at, (f2.ne (by decide) j).1, f01.I rfl]
  have w72 : ∀ j, qI g3 72 j = qI g2 72 j := fun j => (f3.ne (by decide) j).1
  have w73 : ∀ j, qI g3 73 j = qI g2 73 j := fun j => (f3.ne (by decide) j).1
  have w74 : ∀ j, qI g3 74 j = qI g2 74 j := fun j => (f3.ne (by decide) j).1
  have w75 : ∀ j, qI g3 75 j = qI g2 75 j := fun j => (f3.ne (by decide) j).1
  have b0 : ∀ j, j ≠ 2 + k → qI g3 73 j = qI h1 73 j ∧ qI g3 74 j = qI h1 74 j ∧ qI g3 72 j = qI g1 72 j := fun j hj => ⟨by rw [w73, v73, if_neg hj, f01.I rfl], by rw [w74, v74, if_neg hj, f01.I rfl], by rw [w72, v72, if_neg hj]⟩
  have hn12 := dm.2.2.2.1
  have p75 : ∀ dd i x, dd < 8 → dd ≠ 2 + k → i < 12 → x < 8 → mrow g3 dd i x = mrow h1 dd i x := fun dd i x h1d h2d hi hx => by
    show qI g3 75 _ = qI h1 75 _
    rw [w75, v75, if_neg (by omega), f01.I rfl]
  -- the drawing itself
  have dl3 : DrL g3 N rb n Ds := by
    obtain ⟨⟨a1, a2, a3, a4, a5, a6⟩, ⟨b1, b2, b3⟩, ⟨c1, c2, c3⟩, ⟨x1, x2, x3⟩, y⟩ := dl
    refine ⟨⟨by rw [f13.R rfl]; exact a1, by rw [f13.L]; exact a2, a3, a4, by rw [f13.R rfl]; exact a5, by rw [f13.L]; exact a6⟩, ⟨by rw [f13.R rfl]; exact b1, by rw [f13.L]; exact b2, by rw [w73, v73, if_neg (by omega)]; exact b3⟩, ⟨by rw [f13.R rfl]; exact c1, by rw [f13.L]; exact c2, by rw [w74, v74, if_neg (by omega)]; exact c3⟩, ⟨x1, x2, fun j hj => ⟨(x3 j hj).1, fun x hx => ?_⟩⟩, ?_⟩
    · show qI g3 75 _ = _
      rw [w75, v75, if_neg (by omega)]
      exact (x3 j hj).2 x hx
    · rw [f13.I rfl, w72, v72, if_neg (by omega)]; exact y
  obtain ⟨i0, i1, i2, i3, i4, i5, i6, i7, i8, i9, i10⟩ := i
  have A : ∀ {C : List Nat} {G : List (Nat × Nat)}, C.all (fun a => decide (a < 93) && a != 23) = true → G.all (fun g => decide (g.1 < 93) && g.1 != 23) = true → Ag C G h h1 := fun c1 c2 => s.ag hn c1 c2
  have id3 : IDd g3 N rb n Ds d e := (id.ag (A rfl rfl)).re (fA.ag rfl) dl3
  refine ⟨rfl, ⟨sh1.fg fA rfl, (i1.ag (A rfl rfl)).ag (fA.ag rfl), ⟨N, rb, n, Ds, d, e, id3⟩, (i3.ag (A rfl rfl)).ag (fA.ag rfl), (i4.ag (A rfl rfl)).ag (fA.ag rfl), (i5.ag (A rfl rfl)).ag (fA.ag rfl), (i6.ag (A rfl rfl)).ag (fA.ag rfl), ?_, (i8.ag (A rfl rfl)).ag (fA.ag rfl), (i9.ag (A rfl rfl)).ag (fA.ag rfl), (i10.ag (A rfl rfl)).ag (fA.ag rfl)⟩, ?_⟩
  · obtain ⟨⟨s1, s2, s3⟩, s4, s5, s6, s7⟩ := s
    have hi : ∀ a, 93 ≤ a → ∀ j, qI g3 a j = qI h1 a j ∧ qR g3 a j = qR h1 a j := fun a ha j => by
      obtain ⟨y1, y2, y3⟩ := fA.2 a (by simp; omega) j (by simp; omega)
      exact ⟨y1, y3⟩
    have r23 : ∀ j, qR g3 23 j = qR h1 23 j := fun j => fA.R rfl
    have o77 : ∀ j, qI h1 77 j = qI h 77 j := fun j => by rw [(s4 77 (by omega) (by omega)).2.2.1]
    refine ⟨fun j => if j = k then Bk else B j, fun j hj => ?_, fun j j2 hj hj2 hne a b => ?_⟩
    · dsimp only
      by_cases z : j = k
      · subst z
        refine Or.inr ⟨by rw [r23, s5, if_pos rfl, if_pos rfl], by rw [w77, if_pos rfl], by rw [if_pos rfl]; exact s2, by rw [if_pos rfl, fA.1.1]; exact s3, N, rb, n, Ds, ?_, ?_⟩
        · rw [if_pos rfl]
          obtain ⟨p1, p2, p3, p4, p5, p6, p7⟩ := s6
          exact ⟨by rw [(hi _ s2 _).2]; exact p1, by rw [fA.L]; exact p2, fun x hx => by rw [(hi _ (by omega) _).2]; exact p3 x hx, by rw [(hi _ s2 _).1]; exact p4, by rw [(hi _ s2 _).1]; exact p5, by rw [(hi _ s2 _).1]; exact p6, fun q hq x hx hx1 => by rw [(hi _ (by omega) _).1]; exact p7 q hq x hx hx1⟩
        · refine ⟨by rw [w72, v72, if_pos rfl]; exact dm.1.2.2.1, by rw [w73, v73, if_pos rfl]; exact dm.2.1.2.2, by rw [w74, v74, if_pos rfl]; exact dm.2.2.1.2.2, ⟨dm.1.2.2.2.1, dm.1.2.2.2.2.1, dm.2.2.2.1, dm.2.2.2.2.1⟩, fun q hq => ⟨(dm.2.2.2.2.2 q hq).1, fun x hx => ?_⟩⟩
          show qI g3 75 _ = _
          rw [w75, v75, if_pos (by omega)]
          have := (dm.2.2.2.2.2 q hq).2 x hx
          rw [← this]
          show _ = qI g1 75 _
          congr 1
          omega
      · rw [r23, s5, if_neg z, w77, if_neg z, o77, if_neg z]
        rcases kp j hj with y | ⟨y1, y2, y3, y4, N2, rb2, n2, Es, ⟨p1, p2, p3, p4, p5, p6, p7⟩, m1, m2, m3, m4, m5⟩
        · exact Or.inl y
        · have dj := s7 j hj z (by rw [y1]; simp)
          have old : ∀ a, B j ≤ a → a < B j + 14 → qL g3 a = qL h a ∧ (∀ x, qI g3 a x = qI h a x) ∧ ∀ x, qR g3 a x = qR h a x := fun a ha ha2 => by
            obtain ⟨t1, t2, t3, t4, t5⟩ := s4 a (by omega) (by omega)
            exact ⟨by rw [fA.L]; exact t2, fun x => by rw [(hi a (by omega) x).1, t3], fun x => by rw [(hi a (by omega) x).2, t5 (by omega)]⟩
          have n12 := m4.2.2.1
          refine Or.inr ⟨y1, y2, y3, by rw [fA.1.1]; omega, N2, rb2, n2, Es, ⟨by rw [(old _ (by omega) (by omega)).2.2]; exact p1, by rw [(old _ (by omega) (by omega)).1]; exact p2, fun x hx => by rw [(old _ (by omega) (by omega)).2.2]; exact p3 x hx, by rw [(old _ (by omega) (by omega)).2.1]; exact p4, by rw [(old _ (by omega) (by omega)).2.1]; exact p5, by rw [(old _ (by omega) (by omega)).2.1]; exact p6, fun q hq x hx hx1 => by rw [(old _ (by omega) (by omega)).2.1]; exact p7 q hq x hx hx1⟩, ?_⟩
          have c72 : qI h1 72 = qI h 72 := (s4 72 (by omega) (by omega)).2.2.1
          have c73 : qI h1 73 = qI h 73 := (s4 73 (by omega) (by omega)).2.2.1
          have c74 : qI h1 74 = qI h 74 := (s4 74 (by omega) (by omega)).2.2.1
          have c75 : qI h1 75 = qI h 75 := (s4 75 (by omega) (by omega)).2.2.1
          obtain ⟨t1, t2, t3⟩ := b0 (2 + j) (by omega)
          refine ⟨by rw [t3, (f01.2 72 (by simp) (2 + j) (by simp)).1, c72]; exact m1, by rw [t1, c73]; exact m2, by rw [t2, c74]; exact m3, m4, fun q hq => ⟨(m5 q hq).1, fun x hx => ?_⟩⟩
          rw [p75 (2 + j) q x (by omega) (by omega) (by omega) hx]
          show qI h1 75 _ = _
          rw [c75]
          exact (m5 q hq).2 x hx
    · dsimp only
      rw [r23, s5] at a b
      have nn : ∀ j, j ≠ k → (if j = k then some Bk else qR h 23 j) ≠ none → qR h 23 j ≠ none := fun j hj z => by rw [if_neg hj] at z; exact z
      by_cases z : j = k
      · rw [if_pos z, if_neg (by omega)]
        have := s7 j2 hj2 (by omega) (nn j2 (by omega) b)
        omega
      · rw [if_neg z]
        by_cases y : j2 = k
        · rw [if_pos y]
          exact s7 j hj z (nn j z a)
        · rw [if_neg y]
          exact kd j j2 hj hj2 hne (nn j z a) (nn j2 y b)
  · obtain ⟨x1, x2, x3⟩ := rm
    exact ⟨by rw [fA.1.1]; exact x1, by rw [fA.1.1]; exact x2, by rw [fA.1.2.1]; exact x3⟩
/-- keep, where no cell comes -/
theorem op_keep {h : PH} (i : Inv h) (x : Int32) (hx : ∀ k, k < 6 → x = nI k → qR h 23 k ≠ none) : wp_X11_keep 0 x h (fun r h1 => wp_X12_keep 70 x h1 (Both h r)) := by
  obtain ⟨N, rb, n, Ds, d, e, id⟩ := i.2.2.1
  have sh := i.1
  obtain ⟨B, kp, kd⟩ := i.2.2.2.2.2.2.2.1
  have r7 : qR h 0 7 = some 23 := sh.R 0 7 23 (by decide)
  have l23 : qL h 23 = 6 := sh.L 23 (by decide) rfl
  have bad : (∀ L, L < 6 → x ≠ nI L) → wp_X12_keep 70 x h (Both h 0) := fun no h1 e1 => mlay i id e1 (fun h2 i2 rm dm f2 => isK_ok (fun L hL eL => absurd eL (no L hL)) (fun _ => ⟨fun z => absurd rfl z, fun _ => ⟨rfl, i2, rm⟩⟩))
  refine ⟨fun c => bad (fun j hj e => nI_pos (n := j) (by omega) (by rw [← e]; exact c)), fun c => ?_⟩
  obtain ⟨k, hk, ek⟩ := nI_of c
  subst ek
  refine pk_lt k 6 (fun k6 => ⟨23, r7, by rw [l23]; exact vp_in_nI k6 (by decide), fun o eo => ⟨fun z => ?_, fun b z => ?_⟩⟩) (fun z => bad (fun j hj e => by have := nI_inj hk (by omega) e; omega))
  · subst z
    rw [nI_clamp hk] at eo
    exact absurd eo.symm (hx k k6 rfl)
  · subst z
    rw [nI_clamp hk] at eo
    rcases kp k k6 with q | ⟨q1, q2, q3, q4, N2, rb2, n2, Es, ⟨p1, p2, p3, p4⟩, mm⟩
    · rw [← eo] at q; exact absurd q.1 (by simp)
    have hn := id.2.2.1.2.2.2.1.1
    have t3 := id.1.2.2
    refine ⟨23, r7, by rw [l23]; exact vp_in_nI k6 (by decide), B k, by rw [nI_clamp hk]; exact q1, d, id.1.1, dcopy_ok id.2.1 (prt sh id) ⟨p1, p2, p3⟩ (by omega) hn (fun h1 f1 R1 kc => kmodel i id k6 kp kd (Bk := B k) ⟨⟨by rw [f1.1.1]; exact Nat.le_refl _, q3, by rw [f1.1.1]; exact q4⟩, fun a ha hna => ?_, fun j => ?_, kc, fun j hj hne a => kd j k hj k6 hne a (by rw [q1]; simp)⟩ f1.rm)⟩
    · have nk : a ∉ kcL (B k) := fun z => hna (kcL_in.mp z)
      refine ⟨f1.K a, f1.L a, ?_, ?_, fun _ => ?_⟩
      · funext j; exact (f1.ne nk j).1
      · funext j; exact (f1.ne nk j).2.1
      · funext j; exact (f1.ne nk j).2.2
    · rw [R1]
      by_cases z : j = k
      · rw [if_pos z, z]; exact q1
      · rw [if_neg z]
/-! a new drawing, its twelve parts -/
theorem nw_n (h : PH) (c l z : Nat) : qn (qnew h c l z) = qn h + 1 := rfl
theorem nw_z (h : PH) (c l z : Nat) : qz (qnew h c l z) = qz h + z := rfl
theorem nw_K (h : PH) (c l z x : Nat) : qK (qnew h c l z) x = if x = qn h then c else qK h x := rfl
theorem nw_L (h : PH) (c l z x : Nat) : qL (qnew h c l z) x = if x = qn h then l else qL h x := rfl
theorem nw_I (h : PH) (c l z x : Nat) : qI (qnew h c l z) x = if x = qn h then (fun _ => 0) else qI h x := by
  funext j
  by_cases e : x = qn h
  · rw [if_pos e]; exact if_pos e
  · rw [if_neg e]; exact if_neg e
theorem nw_J (h : PH) (c l z x : Nat) : qJ (qnew h c l z) x = if x = qn h then (fun _ => 0) else qJ h x := by
  funext j
  by_cases e : x = qn h
  · rw [if_pos e]; exact if_pos e
  · rw [if_neg e]; exact if_neg e
theorem nw_R (h : PH) (c l z x : Nat) : qR (qnew h c l z) x = if x = qn h then (fun _ => none) else qR h x := by
  funext j
  by_cases e : x = qn h
  · rw [if_pos e]; exact if_pos e
  · rw [if_neg e]; exact if_neg e
/-- row of a part that is new -/
def pNew (j : Nat) : Int32 := if j = 0 then 4 else 0
theorem pinit_ok {h : PH} {a : Nat} {Q : PH → Prop} (q : ∀ h1, Fg [a] [] h h1 → (∀ x j, qR h1 x j = qR h x j) → (∀ j, j < 10 → qI h1 a j = pNew j) → Q h1) : wp_X4_init a h Q := by
  intro h1 e1 h2 e2 h3 e3 h4 e4 h5 e5 h6 e6 h7 e7 h8 e8 h9 e9 h10 e10
  refine q h10 ?_ (fun x j => by rw [e10, e9, e8, e7, e6, e5, e4, e3, e2, e1]; rfl) ?_
  · rw [e10, e9, e8, e7, e6, e5, e4, e3, e2, e1]
    exact ((((((((((Fg.rf _ _ _).push _ _).push _ _).push _ _).push _ _).push _ _).push _ _).push _ _).push _ _).push _ _).push _ _
  · intro j hj
    rw [e10, e9, e8, e7, e6, e5, e4, e3, e2, e1]
    rcases (show j = 0 ∨ j = 1 ∨ j = 2 ∨ j = 3 ∨ j = 4 ∨ j = 5 ∨ j = 6 ∨ j = 7 ∨ j = 8 ∨ j = 9 by omega) with z | z | z | z | z | z | z | z | z | z <;> (subst z; simp only [qI_sI]; simp [pNew])
/-- k parts stand of the drawing b, its row of parts A being the first new cell -/
def DI (h0 : PH) (b A k : Nat) (h : PH) : Prop := (qn h = A + 1 + k ∧ qz h = qz h0 + 12 + 10 * k) ∧ (∀ x, x < A → qK h x = qK h0 x ∧ qL h x = qL h0 x ∧ qJ h x = qJ h0 x ∧ (x ≠ b → qI h x = qI h0 x ∧ qR h x = qR h0 x)) ∧ (qR h b 0 = some A ∧ qI h b 1 = 0 ∧ qI h b 2 = 24 ∧ qI h b 3 = 0 ∧ ∀ j, j ≠ 0 → qR h b j = qR h0 b j) ∧ (qK h A = 18 ∧ qL h A = 12) ∧ ∀ j, j < k → qR h A j = some (A + 1 + j) ∧ qK h (A + 1 + j) = 4 ∧ qL h (A + 1 + j) = 0 ∧ ∀ x, x < 10 → qI h (A + 1 + j) x = pNew x
theorem dstep {h0 h : PH} {b A k : Nat} {v : Int32} {T : Int32 → PH → Prop} (s : DI h0 b A k h) (ev : v = nI k) (hk : k < 12) (hb : b < A) (room : A + 14 ≤ 1000000) (q : ∀ h' w, w = nI (k + 1) → DI h0 b A (k + 1) h' → T w h') :
    ∃ b7, qR h b 0 = some b7 ∧ (((nI (qL h b7)) ≤ v → False) ∧ (¬ ((nI (qL h b7)) ≤ v) → (∃ b10, qR h b 0 = some b10 ∧ (qn h + 1 ≤ 1000000 ∧ ∀ h12, h12 = qnew h 4 0 10 → (wp_X4_init (qn h) h12 (fun h14 => (vp_in v (qL h14 b10) ∧ ∀ h16, h16 = qsR h14 b10 v.toNatClampNeg (some (qn h)) → ∀ v18 : Int32, v18 = v + 1 → T v18 h16))))))) := by
  subst ev
  obtain ⟨⟨s1, s2⟩, s3, ⟨s4, s5, s6, s7, s8⟩, ⟨s9, s10⟩, s11⟩ := s
  refine ⟨A, s4, by rw [s10]; exact fun z => nI_ge (b := 12) hk (by decide) z, fun _ => ⟨A, s4, by rw [s1]; omega, fun h1 e1 => pinit_ok (fun h2 f2 R2 p2 => ?_)⟩⟩
  have nw : qn h = A + 1 + k := s1
  have o1 : ∀ x, x < A + 1 + k → qK h1 x = qK h x ∧ qL h1 x = qL h x ∧ qI h1 x = qI h x ∧ qJ h1 x = qJ h x ∧ qR h1 x = qR h x := fun x hx => by
    rw [e1, nw_K, nw_L, nw_I, nw_J, nw_R, if_neg (by omega), if_neg (by omega), if_neg (by omega), if_neg (by omega), if_neg (by omega)]
    exact ⟨rfl, rfl, rfl, rfl, rfl⟩
  have o2 : ∀ x, x < A + 1 + k → qK h2 x = qK h x ∧ qL h2 x = qL h x ∧ qI h2 x = qI h x ∧ qJ h2 x = qJ h x ∧ qR h2 x = qR h x := fun x hx => by
    obtain ⟨a1, a2, a3, a4, a5⟩ := o1 x hx
    have nx : x ∉ [qn h] := by simp; omega
    refine ⟨by rw [f2.K, a1], by rw [f2.L, a2], ?_, ?_, ?_⟩
    · rw [← a3]; funext j; exact (f2.ne nx j).1
    · rw [← a4]; funext j; exact (f2.ne nx j).2.1
    · rw [← a5]; funext j; exact R2 x j
  have cl : (nI k).toNatClampNeg = k := nI_clamp (by omega)
  refine ⟨by rw [(o2 A (by omega)).2.1, s10]; exact vp_in_nI hk (by decide), fun h3 e3 w ew => q h3 w (by rw [ew]; exact nI_1 k) ?_⟩
  rw [cl, nw] at e3
  have R3 : ∀ x, x ≠ A → qR h3 x = qR h2 x := fun x hx => by rw [e3, rR_sR, if_neg hx]
  have I3 : ∀ x, qI h3 x = qI h2 x := fun x => by rw [e3]; rfl
  have J3 : ∀ x, qJ h3 x = qJ h2 x := fun x => by rw [e3]; rfl
  have K3 : ∀ x, qK h3 x = qK h2 x := fun x => by rw [e3]; rfl
  have L3 : ∀ x, qL h3 x = qL h2 x := fun x => by rw [e3]; rfl
  have nz : qn h3 = qn h2 ∧ qz h3 = qz h2 := by rw [e3]; exact ⟨rfl, rfl⟩
  have RA : ∀ j, qR h3 A j = if j = k then some (A + 1 + k) else qR h A j := fun j => by
    rw [e3, rR_sR, if_pos rfl]
    by_cases z : j = k
    · rw [if_pos z, z]; simp [va_up]
    · rw [if_neg z]
      rw [show va_up (qR h2 A) k (some (A + 1 + k)) j = qR h2 A j by simp [va_up, z], (o2 A (by omega)).2.2.2.2]
  refine ⟨⟨by rw [nz.1, f2.1.1, e1, nw_n]; omega, by rw [nz.2, f2.1.2.1, e1, nw_z, s2]; omega⟩, fun x hx => ?_, ⟨?_, ?_, ?_, ?_, ?_⟩, ⟨?_, ?_⟩, fun j hj => ?_⟩
  · obtain ⟨a1, a2, a3, a4, a5⟩ := o2 x (by omega)
    obtain ⟨c1, c2, c3, c4⟩ := s3 x hx
    exact ⟨by rw [K3, a1]; exact c1, by rw [L3, a2]; exact c2, by rw [J3, a4]; exact c3, fun hxb => ⟨by rw [I3, a3]; exact (c4 hxb).1, by rw [R3 x (by omega), a5]; exact (c4 hxb).2⟩⟩
  · rw [R3 b (by omega), (o2 b (by omega)).2.2.2.2]; exact s4
  · rw [I3, (o2 b (by omega)).2.2.1]; exact s5
  · rw [I3, (o2 b (by omega)).2.2.1]; exact s6
  · rw [I3, (o2 b (by omega)).2.2.1]; exact s7
  · intro j hj
    rw [R3 b (by omega), (o2 b (by omega)).2.2.2.2]; exact s8 j hj
  · rw [K3, (o2 A (by omega)).1]; exact s9
  · rw [L3, (o2 A (by omega)).2.1]; exact s10
  · rcases (show j < k ∨ j = k by omega) with z | z
    · obtain ⟨c1, c2, c3, c4⟩ := s11 j z
      obtain ⟨a1, a2, a3, a4, a5⟩ := o2 (A + 1 + j) (by omega)
      exact ⟨by rw [RA, if_neg (by omega)]; exact c1, by rw [K3, a1]; exact c2, by rw [L3, a2]; exact c3, fun x hx => by rw [I3, a3]; exact c4 x hx⟩
    · subst z
      refine ⟨by rw [RA, if_pos rfl], ?_, ?_, fun x hx => ?_⟩
      · rw [K3, f2.K, e1, nw_K, if_pos (by omega)]
      · rw [L3, f2.L, e1, nw_L, if_pos (by omega)]
      · rw [I3, ← nw]; exact p2 x hx
theorem dinit_ok {h : PH} {b : Nat} {Q : PH → Prop} (hb : b < qn h) (room : qn h + 14 ≤ 1000000) (q : ∀ h1, DI h b (qn h) 12 h1 → Q h1) : wp_X1_init b h Q := by
  refine ⟨by omega, fun h1 e1 h3 e3 h4 e4 h5 e5 h6 e6 => ?_⟩
  have hb2 : b ≠ qn h := by omega
  have s0 : DI h b (qn h) 0 h6 := by
    have I6 : ∀ x, x ≠ b → qI h6 x = qI h1 x := fun x hx => by rw [e6, rI_ne _ _ _ hx, e5, rI_ne _ _ _ hx, e4, rI_ne _ _ _ hx, e3]; rfl
    have R6 : ∀ x, qR h6 x = qR h3 x := fun x => by rw [e6, e5, e4]; rfl
    refine ⟨⟨by rw [e6, e5, e4, e3, e1]; rfl, by rw [e6, e5, e4, e3, e1]; rfl⟩, fun x hx => ⟨?_, ?_, ?_, fun hxb => ⟨?_, ?_⟩⟩, ⟨?_, ?_, ?_, ?_, fun j hj => ?_⟩, ⟨?_, ?_⟩, fun j hj => absurd hj (Nat.not_lt_zero j)⟩
    · rw [show qK h6 x = qK h1 x by rw [e6, e5, e4, e3]; rfl, e1, nw_K, if_neg (by omega)]
    · rw [show qL h6 x = qL h1 x by rw [e6, e5, e4, e3]; rfl, e1, nw_L, if_neg (by omega)]
    · rw [show qJ h6 x = qJ h1 x by rw [e6, e5, e4, e3]; rfl, e1, nw_J, if_neg (by omega)]
    · rw [I6 x hxb, e1, nw_I, if_neg (by omega)]
    · rw [R6, e3, rR_sR, if_neg hxb, e1, nw_R, if_neg (by omega)]
    · rw [R6, e3, rR_sR, if_pos rfl]; simp [va_up]
    · rw [e6, e5, e4]; simp only [qI_sI]; simp
    · rw [e6, e5, e4]; simp only [qI_sI]; simp
    · rw [e6, e5, e4]; simp only [qI_sI]; simp
    · rw [R6, e3, rR_sR, if_pos rfl, show va_up (qR h1 b) 0 (some (qn h)) j = qR h1 b j by simp [va_up, hj], e1, nw_R, if_neg hb2]
    · rw [show qK h6 (qn h) = qK h1 (qn h) by rw [e6, e5, e4, e3]; rfl, e1, nw_K, if_pos rfl]
    · rw [show qL h6 (qn h) = qL h1 (qn h) by rw [e6, e5, e4, e3]; rfl, e1, nw_L, if_pos rfl]
  exact dstep s0 rfl (by decide) hb room (fun h1 w1 x1 s1 => dstep s1 x1 (by decide) hb room (fun h2 w2 x2 s2 => dstep s2 x2 (by decide) hb room (fun h3 w3 x3 s3 => dstep s3 x3 (by decide) hb room (fun h4 w4 x4 s4 => dstep s4 x4 (by decide) hb room (fun h5 w5 x5 s5 => dstep s5 x5 (by decide) hb room (fun h6 w6 x6 s6 => dstep s6 x6 (by decide) hb room (fun h7 w7 x7 s7 => dstep s7 x7 (by decide) hb room (fun h8 w8 x8 s8 => dstep s8 x8 (by decide) hb room (fun h9 w9 x9 s9 => dstep s9 x9 (by decide) hb room (fun h10 w10 x10 s10 => dstep s10 x10 (by decide) hb room (fun h11 w11 x11 s11 => dstep s11 x11 (by decide) hb room (fun h12 w12 x12 s12 => ⟨qn h, s12.2.2.1.1, fun _ => q h12 s12, fun z => absurd (by rw [s12.2.2.2.1.2, x12]; exact nI_le (Nat.le_refl 12) (by decide)) z⟩))))))))))))
/-- keep, where fourteen cells come -/
theorem op_keepA {h : PH} (i : Inv h) {k : Nat} (k6 : k < 6) (k0 : qR h 23 k = none) (room : qn h + 15 ≤ 1000000) : wp_X11_keepA 0 (nI k) h (fun r h1 => wp_X12_keep 70 (nI k) h1 (Both h r)) := by
  obtain ⟨N, rb, n, Ds, d, e, id⟩ := i.2.2.1
  have sh := i.1
  obtain ⟨B, kp, kd⟩ := i.2.2.2.2.2.2.2.1
  have r7 : qR h 0 7 = some 23 := sh.R 0 7 23 (by decide)
  have l23 : qL h 23 = 6 := sh.L 23 (by decide) rfl
  have hn93 := sh.1
  have ck : (nI k).toNatClampNeg = k := nI_clamp (by omega)
  refine ⟨fun z => absurd z (nI_pos (by omega)), fun _ => pk_lt k 6 (fun _ => ⟨23, r7, by rw [l23]; exact vp_in_nI k6 (by decide), fun o eo => ⟨fun z => ⟨23, r7, by omega, fun h1 e1 => ?_⟩, fun b z => ?_⟩⟩) (fun z => by omega)⟩
  · have n1 : qn h1 = qn h + 1 := by rw [e1]; rfl
    have o1 : ∀ x, x < qn h → qK h1 x = qK h x ∧ qL h1 x = qL h x ∧ qI h1 x = qI h x ∧ qJ h1 x = qJ h x ∧ qR h1 x = qR h x := fun x hx => by
      rw [e1, nw_K, nw_L, nw_I, nw_J, nw_R, if_neg (by omega), if_neg (by omega), if_neg (by omega), if_neg (by omega), if_neg (by omega)]
      exact ⟨rfl, rfl, rfl, rfl, rfl⟩
    refine dinit_ok (by omega) (by omega) (fun h2 s => ?_)
    rw [n1] at s
    obtain ⟨⟨s1, s2⟩, s3, ⟨s4, s5, s6, s7, s8⟩, ⟨s9, s10⟩, s11⟩ := s
    have o2 : ∀ x, x < qn h → qK h2 x = qK h x ∧ qL h2 x = qL h x ∧ qI h2 x = qI h x ∧ qJ h2 x = qJ h x ∧ qR h2 x = qR h x := fun x hx => by
      obtain ⟨a1, a2, a3, a4, a5⟩ := o1 x hx
      obtain ⟨c1, c2, c3, c4⟩ := s3 x (by omega)
      exact ⟨c1.trans a1, c2.trans a2, ((c4 (by omega)).1).trans a3, c3.trans a4, ((c4 (by omega)).2).trans a5⟩
    refine ⟨by rw [(o2 23 (by omega)).2.1, l23]; exact vp_in_nI k6 (by decide), fun h3 e3 => ?_⟩
    rw [ck] at e3
    have R3 : ∀ x, x ≠ 23 → qR h3 x = qR h2 x := fun x hx => by rw [e3, rR_sR, if_neg hx]
    have I3 : ∀ x, qI h3 x = qI h2 x := fun x => by rw [e3]; rfl
    have J3 : ∀ x, qJ h3 x = qJ h2 x := fun x => by rw [e3]; rfl
    have K3 : ∀ x, qK h3 x = qK h2 x := fun x => by rw [e3]; rfl
    have L3 : ∀ x, qL h3 x = qL h2 x := fun x => by rw [e3]; rfl
    have R23 : ∀ j, qR h3 23 j = if j = k then some (qn h) else qR h 23 j := fun j => by
      rw [e3, rR_sR, if_pos rfl]
      by_cases z : j = k
      · rw [if_pos z, z]; simp [va_up]
      · rw [if_neg z, show va_up (qR h2 23) k (some (qn h)) j = qR h2 23 j by simp [va_up, z], (o2 23 (by omega)).2.2.2.2]
    have n3 : qn h3 = qn h + 14 ∧ qz h3 = qz h + 136 := by
      have : qn h3 = qn h2 ∧ qz h3 = qz h2 := by rw [e3]; exact ⟨rfl, rfl⟩
      rw [this.1, this.2, s1, s2, e1, nw_z]
      omega
    have hd : d = 26 ∨ d = 40 := by have := id.1.2.2; omega
    have dc3 : DrC h3 d N rb n Ds := by
      obtain ⟨c1, c2, c3, c4⟩ := id.2.1
      have hn12 := id.2.2.1.2.2.2.1.1
      have cI : ∀ x, x < qn h → qI h3 x = qI h x := fun x hx => by rw [I3, (o2 x hx).2.2.1]
      exact ⟨by rw [cI d (by omega)]; exact c1, by rw [cI d (by omega)]; exact c2, by rw [cI d (by omega)]; exact c3, fun q hq x hx hx1 => by rw [cI _ (by omega)]; exact c4 q hq x hx hx1⟩
    have pd := prt sh id
    have pd3 : qR h3 d 0 = some (d + 1) ∧ qL h3 (d + 1) = 12 ∧ ∀ j, j < 12 → qR h3 (d + 1) j = some (d + 2 + j) := ⟨by rw [R3 d (by omega), (o2 d (by omega)).2.2.2.2]; exact pd.1, by rw [L3, (o2 (d + 1) (by omega)).2.1]; exact pd.2.1, fun j hj => by rw [R3 (d + 1) (by omega), (o2 (d + 1) (by omega)).2.2.2.2]; exact pd.2.2 j hj⟩
    have pB3 : qR h3 (qn h) 0 = some (qn h + 1) ∧ qL h3 (qn h + 1) = 12 ∧ ∀ j, j < 12 → qR h3 (qn h + 1) j = some (qn h + 2 + j) := ⟨by rw [R3 _ (by omega)]; exact s4, by rw [L3]; exact s10, fun j hj => by rw [R3 _ (by omega), (s11 j hj).1]⟩
    refine ⟨23, by rw [R3 0 (by decide), (o2 0 (by omega)).2.2.2.2]; exact r7, by rw [L3, (o2 23 (by omega)).2.1, l23]; exact vp_in_nI k6 (by decide), qn h, by rw [ck, R23, if_pos rfl], d, by rw [R3 0 (by decide), (o2 0 (by omega)).2.2.2.2]; exact id.1.1, dcopy_ok dc3 pd3 pB3 (by omega) id.2.2.1.2.2.2.1.1 (fun h4 f4 R4 kc => kmodel i id k6 kp kd (Bk := qn h) ⟨⟨by rw [f4.1.1]; omega, hn93, by rw [f4.1.1]; omega⟩, fun a ha hna => ?_, fun j => ?_, kc, fun j hj hne a => ?_⟩ ?_)⟩
    · have nk : a ∉ kcL (qn h) := fun z => hna (kcL_in.mp z)
      obtain ⟨a1, a2, a3, a4, a5⟩ := o2 a ha
      refine ⟨by rw [f4.K, K3, a1], by rw [f4.L, L3, a2], ?_, ?_, fun h23 => ?_⟩
      · funext j; rw [(f4.ne nk j).1, I3, a3]
      · funext j; rw [(f4.ne nk j).2.1, J3, a4]
      · funext j; rw [(f4.ne nk j).2.2, R3 a h23, a5]
    · rw [R4, R23]
    · rcases kp j hj with y | y
      · exact absurd y.1 a
      · have := y.2.2.2.1; omega
    · exact ⟨by rw [f4.1.1]; omega, by rw [f4.1.1]; omega, by rw [f4.1.2.1]; omega⟩
  · exfalso
    rw [ck, k0, z] at eo
    cases eo

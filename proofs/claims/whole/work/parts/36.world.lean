/-! ===== PURE: the class's totals read, the world made ready ===== -/
/-- the totals tell of N places, rub rb, n parts Ds: what is given -/
def TG (h : PH) (N rb n : Nat) (Ds : Nat → PD) : Prop := (qR h 7 0 = some 8 ∧ qL h 8 = 48 ∧ ∀ t, t < N → qI h 8 t = tGiven N n Ds t) ∧ (qR h 7 1 = some 9 ∧ qL h 9 = 48 ∧ ∀ t, t < N → qI h 9 t = tFed N n Ds t) ∧ (qR h 7 2 = some 10 ∧ qL h 10 = 192 ∧ ∀ l, l < 4 → ∀ t, t < N → qI h 10 (48 * l + t) = tMore N n Ds l t) ∧ qI h 7 5 = nI N ∧ qI h 7 6 = nI rb ∧ 8 ≤ N ∧ N ≤ 48 ∧ rb ≤ 999 ∧ n ≤ 12 ∧ ∀ k, k < n → okD N (Ds k)
theorem TG.fr {h h1 : PH} {N rb n : Nat} {Ds : Nat → PD} {S : List Nat} (g : TG h N rb n Ds) (f : Fr S h h1) (hS : 7 ∉ S ∧ 8 ∉ S ∧ 9 ∉ S ∧ 10 ∉ S) : TG h1 N rb n Ds := by
  obtain ⟨⟨a1, a2, a3⟩, ⟨b1, b2, b3⟩, ⟨c1, c2, c3⟩, d1, d2, d3⟩ := g
  obtain ⟨s7, s8, s9, s10⟩ := hS
  refine ⟨⟨by rw [f.R s7]; exact a1, by rw [f.L]; exact a2, fun t ht => by rw [f.I s8]; exact a3 t ht⟩, ⟨by rw [f.R s7]; exact b1, by rw [f.L]; exact b2, fun t ht => by rw [f.I s9]; exact b3 t ht⟩, ⟨by rw [f.R s7]; exact c1, by rw [f.L]; exact c2, fun l hl t ht => by rw [f.I s10]; exact c3 l hl t ht⟩, by rw [f.I s7]; exact d1, by rw [f.I s7]; exact d2, d3⟩
theorem TG.kd {h : PH} {N rb n : Nat} {Ds : Nat → PD} (g : TG h N rb n Ds) : ∀ k, k < n → dk (Ds k) < 5 := fun k hk => (g.2.2.2.2.2.2.2.2.2 k hk).1
theorem given_ok {h : PH} {N rb n t L : Nat} {Ds : Nat → PD} {Q : Int32 → PH → Prop} (g : TG h N rb n Ds) (ht : t < N) (hL : L < 32) (q : Q (qsum (fun k => gv (Ds k) N t (nI L)) n) h) : wp_X8_givenWith 7 (nI t) (nI L) h Q := by
  have hN := g.2.2.2.2.2.2.1
  rw [← tWith_e hL n g.kd] at q
  refine ⟨8, g.1.1, by rw [g.1.2.1]; exact vp_in_nI (by omega) (by omega), fun v ev => ?_⟩
  rw [nI_clamp (by omega), g.1.2.2 t ht] at ev
  subst ev
  refine loopR 4 (fun l s => s = (tWith N n Ds L t l, nI l, h)) (fun s => s.2.1.toNatClampNeg) rfl (fun l s hl p => by rw [p]; exact nI_clamp (by omega)) ?_ ?_
  · intro l s hl p back hb
    subst p
    refine ⟨fun c => absurd c (nI_ge (b := 4) hl (by decide)), fun c => ⟨fun b v ev => hb _ ?_, fun b => ⟨10, g.2.2.1.1, ?_, fun v ev w ew => hb _ ?_⟩⟩⟩
    · rw [ev, nI_1]
      show (_, _, _) = (tWith N n Ds L t l + _, _, _)
      rw [if_neg (fun z => by rw [(lw_shr L hL l hl).mp b] at z; cases z), Int32.add_zero]
    · rw [show (48 : Int32) = nI 48 from rfl, pk_mul, nI_add, g.2.2.1.2.1]
      exact vp_in_nI (by omega) (by omega)
    · rw [show (48 : Int32) = nI 48 from rfl, pk_mul, nI_add, nI_clamp (by omega), Nat.mul_comm l 48, g.2.2.1.2.2 l hl t ht] at ev
      rw [ev, ew, nI_1]
      show (_, _, _) = (tWith N n Ds L t l + _, _, _)
      rw [if_pos (by cases hc : lwBit L l with
        | true => rfl
        | false => exact absurd ((lw_shr L hL l hl).mpr hc) b)]
  · intro s p back
    subst p
    exact ⟨fun c => q, fun c => absurd (show (4 : Int32) ≤ nI 4 by decide) c⟩
theorem rubW_ok {h : PH} {N rb n : Nat} {laws : Int32} {Ds : Nat → PD} {Q : Int32 → PH → Prop} (g : TG h N rb n Ds) (q : Q (rubV rb laws) h) : wp_X8_rubWith 7 laws h Q := by
  unfold rubV at q
  refine ⟨fun c => ?_, fun c => ?_⟩
  · rw [if_pos c] at q; rw [g.2.2.2.2.1]; exact q
  · rw [if_neg c] at q; exact q
theorem whole_ok {h : PH} {N rb n L : Nat} {Ds : Nat → PD} {Q : Int32 → PH → Prop} (g : TG h N rb n Ds) (hL : L < 32) (q : Q (wholeV N rb n Ds (nI L)) h) : wp_X8_wholeWith 7 (nI L) h Q := by
  have hN := g.2.2.2.2.2.2.1
  unfold wholeV at q
  rw [qsum_swap (fun k t => gv (Ds k) N t (nI L))] at q
  refine rubW_ok g (fun v ev => ?_)
  rw [g.2.2.2.1] at ev
  subst ev
  refine loopR N (fun t s => s = ((-(nI N)) * rubV rb (nI L) + qsum (fun t => qsum (fun k => gv (Ds k) N t (nI L)) n) t, nI t, h)) (fun s => s.2.1.toNatClampNeg) (by show _ = ((-(nI N)) * rubV rb (nI L) + 0, _, _); rw [Int32.add_zero]; rfl) (fun t s ht p => by rw [p]; exact nI_clamp (by omega)) ?_ ?_
  · intro t s ht p back hb
    subst p
    refine ⟨fun c => ?_, fun c => given_ok g ht hL (fun v ev w ew => hb _ ?_)⟩
    · rw [g.2.2.2.1] at c
      exact absurd c (nI_ge ht (by omega))
    · rw [ev, ew, nI_1]
      show (_, _, _) = (_ + (qsum _ t + _), _, _)
      rw [Int32.add_assoc]
  · intro s p back
    subst p
    refine ⟨fun c => q, fun c => ?_⟩
    rw [g.2.2.2.1] at c
    exact absurd (nI_le (Nat.le_refl N) (by omega)) c
/-- E more by, forward in step t; backward by step t -/
def fwd (N rb n : Nat) (Ds : Nat → PD) (L t : Nat) : Int32 := qsum (fun k => gv (Ds k) N t (nI L)) n - rubV rb (nI L)
def bwd (N rb n : Nat) (Ds : Nat → PD) (L t : Nat) : Int32 := tFed N n Ds t - qsum (fun k => gv (Ds k) N t (nI L)) n - rubV rb (nI L)
/-- the class's world: 14 forward from t, 15 backward from t -/
def WC (h : PH) (N rb n : Nat) (Ds : Nat → PD) (L : Nat) : Prop := (qR h 13 0 = some 14 ∧ qL h 14 = 48 ∧ ∀ t, t < N → qI h 14 t = fwd N rb n Ds L t) ∧ (qR h 13 1 = some 15 ∧ qL h 15 = 48 ∧ ∀ t, t < N → qI h 15 ((t + 1) % N) = bwd N rb n Ds L t) ∧ qI h 13 2 = nI N
theorem after_ok {h : PH} {N t : Nat} {Q : Int32 → PH → Prop} (hp : qI h 13 2 = nI N) (hN : N ≤ 48) (ht : t < N) (q : Q (nI ((t + 1) % N)) h) : wp_X10_after 13 (nI t) h Q := by
  refine ⟨fun c => ?_, fun c => ?_⟩
  · rw [hp, nI_1] at c
    have : t + 1 = N := by
      rcases Nat.lt_or_ge (t + 1) N with z | z
      · exact absurd c (nI_ge z (by omega))
      · omega
    rw [this, Nat.mod_self] at q; exact q
  · rw [hp, nI_1] at c
    have : t + 1 < N := by
      rcases Nat.lt_or_ge (t + 1) N with z | z
      · exact z
      · exact absurd (nI_le z (by omega)) c
    rw [Nat.mod_eq_of_lt this] at q
    rw [nI_1]; exact q
theorem succ_mod_inj {N t u : Nat} (ht : t < N) (hu : u < N) (e : (t + 1) % N = (u + 1) % N) : t = u := by
  by_cases c : t + 1 = N
  · by_cases d : u + 1 = N
    · omega
    · rw [c, Nat.mod_self, Nat.mod_eq_of_lt (by omega)] at e; omega
  · by_cases d : u + 1 = N
    · rw [d, Nat.mod_self, Nat.mod_eq_of_lt (by omega)] at e; omega
    · rw [Nat.mod_eq_of_lt (by omega), Nat.mod_eq_of_lt (by omega)] at e; omega
theorem prepare_ok {h : PH} {N rb n L : Nat} {Ds : Nat → PD} {Q : PH → Prop} (g : TG h N rb n Ds) (hL : L < 32) (r0 : qR h 13 0 = some 14) (r1 : qR h 13 1 = some 15) (l0 : qL h 14 = 48) (l1 : qL h 15 = 48)
    (q : ∀ h1, Fr [13, 14, 15] h h1 → qR h1 13 = qR h 13 → WC h1 N rb n Ds L → Q h1) : wp_X10_prepare 13 7 (nI L) h Q := by
  have hN8 := g.2.2.2.2.2.1
  have hN := g.2.2.2.2.2.2.1
  intro h1 eh1
  have f1 : Fr [13, 14, 15] h h1 := by rw [eh1]; exact (Fr.sI _ _ _ _).mono (by decide)
  have g1 : TG h1 N rb n Ds := g.fr f1 (by decide)
  refine rubW_ok g1 ?_
  refine loopR N (fun i s => s.1 = nI i ∧ Fr [13, 14, 15] h s.2 ∧ qR s.2 13 = qR h 13 ∧ qI s.2 13 2 = nI N ∧ (∀ t, t < i → qI s.2 14 t = fwd N rb n Ds L t) ∧ (∀ t, t < i → qI s.2 15 ((t + 1) % N) = bwd N rb n Ds L t)) (fun s => s.1.toNatClampNeg) ⟨rfl, f1, by rw [eh1]; rfl, by rw [eh1, rI_sI, if_pos rfl, up_eq]; exact g.2.2.2.1, fun t ht => absurd ht (Nat.not_lt_zero t), fun t ht => absurd ht (Nat.not_lt_zero t)⟩ (fun i s hi p => by rw [p.1]; exact nI_clamp (by omega)) ?_ ?_
  · rintro i ⟨i', h2⟩ hi ⟨e1, f2, r2, e2, e3, e4⟩ back hb
    dsimp only at e1 f2 r2 e2 e3 e4
    subst e1
    have g2 := g.fr f2 (by decide)
    have rr0 : qR h2 13 0 = some 14 := by rw [r2]; exact r0
    have rr1 : qR h2 13 1 = some 15 := by rw [r2]; exact r1
    have ll0 : qL h2 14 = 48 := by rw [f2.L]; exact l0
    have ll1 : qL h2 15 = 48 := by rw [f2.L]; exact l1
    refine ⟨fun c => ?_, fun c => given_ok g2 hi hL ⟨14, rr0, by rw [ll0]; exact vp_in_nI (by omega) (by omega), fun h3 eh3 => ⟨15, by rw [eh3]; exact rr1, ?_⟩⟩⟩
    · rw [e2] at c
      exact absurd c (nI_ge hi (by omega))
    · have f3 : Fr [13, 14, 15] h h3 := by rw [eh3]; exact f2.tr (Fr.sI _ _ _ _) (fun _ z => z) (by decide)
      have g3 := g.fr f3 (by decide)
      refine after_ok (by rw [eh3, rI_sI, if_neg (by decide)]; exact e2) hN hi ⟨9, g3.2.1.1, by rw [g3.2.1.2.1]; exact vp_in_nI (by omega) (by omega), ?_, fun h4 eh4 v ev => hb _ ?_⟩
      · rw [f3.L, l1]; exact vp_in_nI (by have := Nat.mod_lt (i + 1) (show 0 < N by omega); omega) (by have := Nat.mod_lt (i + 1) (show 0 < N by omega); omega)
      · have hm : (i + 1) % N < N := Nat.mod_lt _ (by omega)
        rw [nI_clamp (by omega), nI_clamp (by omega), g3.2.1.2.2 i hi] at eh4
        rw [nI_clamp (by omega)] at eh3
        refine ⟨by rw [ev]; exact nI_1 i, ?_, ?_, ?_, ?_, ?_⟩
        · show Fr [13, 14, 15] h h4
          rw [eh4]; exact f3.tr (Fr.sI _ _ _ _) (fun _ z => z) (by decide)
        · show qR h4 13 = qR h 13
          rw [eh4, eh3]; exact r2
        · show qI h4 13 2 = nI N
          rw [eh4, rI_sI, if_neg (by decide), eh3, rI_sI, if_neg (by decide)]; exact e2
        · intro t ht
          show qI h4 14 t = _
          rw [eh4, rI_sI, if_neg (by decide), eh3, rI_sI, if_pos rfl, up_at]
          by_cases c1 : t = i
          · rw [if_pos c1, c1]; rfl
          · rw [if_neg c1]; exact e3 t (by omega)
        · intro t ht
          show qI h4 15 ((t + 1) % N) = _
          rw [eh4, rI_sI, if_pos rfl, up_at]
          by_cases c1 : t = i
          · rw [if_pos (by rw [c1]), c1]; rfl
          · rw [if_neg (fun z => c1 (succ_mod_inj (by omega) hi z)), eh3, rI_sI, if_neg (by decide)]
            exact e4 t (by omega)
  · rintro ⟨i', h2⟩ ⟨e1, f2, r2, e2, e3, e4⟩ back
    dsimp only at e1 f2 r2 e2 e3 e4
    subst e1
    refine ⟨fun c => q h2 f2 r2 ⟨⟨by rw [r2]; exact r0, by rw [f2.L]; exact l0, e3⟩, ⟨by rw [r2]; exact r1, by rw [f2.L]; exact l1, e4⟩, e2⟩, fun c => ?_⟩
    rw [e2] at c
    exact absurd (nI_le (Nat.le_refl N) (by omega)) c

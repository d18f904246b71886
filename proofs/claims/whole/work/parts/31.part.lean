/-! ===== PURE: a Part's own functions, of its row f = kind, name, pin, w, arm, outArm, at, ranged, from, to ===== -/
def b2i (b : Bool) : Int32 := if b then 1 else 0
theorem b2i_0 (b : Bool) : b2i b = 0 ↔ b = false := by cases b <;> decide
theorem b2i_z (b : Bool) : b2i b = 0 ∨ b2i b = 1 := by cases b <;> decide
theorem i_nlt {x y : Int32} : ¬ x < y ↔ y ≤ x := Int32.not_lt
theorem i_nle {x y : Int32} : ¬ x ≤ y ↔ y < x := Int32.not_le
def qmax (x y : Int32) : Int32 := if x < y then y else x
def qmin (x y : Int32) : Int32 := if y < x then y else x
def qabs (x : Int32) : Int32 := if 0 ≤ x then x else -x
theorem max_ok {x y : Int32} {h : PH} {Q : Int32 → PH → Prop} (k : Q (qmax x y) h) : wp_J9_max_7cf53 x y h Q :=
  ⟨fun c => by rw [qmax, if_pos c] at k; exact k, fun c => by rw [qmax, if_neg c] at k; exact k⟩
theorem min_ok {x y : Int32} {h : PH} {Q : Int32 → PH → Prop} (k : Q (qmin x y) h) : wp_J9_min_7cf53 x y h Q :=
  ⟨fun c => by rw [qmin, if_pos c] at k; exact k, fun c => by rw [qmin, if_neg c] at k; exact k⟩
theorem abs_ok {x : Int32} {h : PH} {Q : Int32 → PH → Prop} (k : Q (qabs x) h) : wp_J9_abs_0f7a4 x h Q :=
  ⟨fun c => by rw [qabs, if_pos c] at k; exact k, fun c => by rw [qabs, if_neg c] at k; exact k⟩
def pHigh (j N : Int32) : Int32 := if N / 2 < j then N - j else j
theorem high_ok {j N : Int32} {h : PH} {Q : Int32 → PH → Prop} (k : Q (pHigh j N) h) : wp_X4_highOf j N h Q :=
  ⟨fun c => by rw [pHigh, if_pos c] at k; exact k, fun c => by rw [pHigh, if_neg c] at k; exact k⟩
/-- a place within low to top, round over 0 -/
def inRng (low top j : Int32) : Bool := if top < low then decide (low ≤ j) || decide (j ≤ top) else decide (low ≤ j) && decide (j ≤ top)
def pWithin (f : Nat → Int32) (j : Int32) : Bool := if f 7 = 0 then false else inRng (f 8) (f 9) j
theorem within_ok {p : Nat} {j : Int32} {h : PH} {Q : Int32 → PH → Prop} (k : Q (b2i (pWithin (qI h p) j)) h) : wp_X4_isWithin p j h Q := by
  unfold pWithin inRng at k
  refine ⟨fun c => ⟨fun c1 => ⟨fun c2 => ?_, fun c2 => ⟨fun c3 => ?_, fun c3 => ?_⟩⟩, fun c1 => ⟨fun c2 => ?_, fun c2 => ⟨fun c3 => ?_, fun c3 => ?_⟩⟩⟩, fun c => ?_⟩
  · rw [if_neg c, if_pos c1, decide_eq_true c2] at k; exact k
  · rw [if_neg c, if_pos c1, decide_eq_false c2, decide_eq_false (i_nle.mpr c3)] at k; exact k
  · rw [if_neg c, if_pos c1, decide_eq_false c2, decide_eq_true (i_nlt.mp c3)] at k; exact k
  · rw [if_neg c, if_neg c1, decide_eq_false (i_nle.mpr c2)] at k; exact k
  · rw [if_neg c, if_neg c1, decide_eq_true (i_nlt.mp c2), decide_eq_false (i_nle.mpr c3)] at k; exact k
  · rw [if_neg c, if_neg c1, decide_eq_true (i_nlt.mp c2), decide_eq_true (i_nlt.mp c3)] at k; exact k
  · rw [if_pos c] at k; exact k
def pPlace (f : Nat → Int32) (t N : Int32) : Int32 := if f 2 + t < N then f 2 + t else f 2 + t - N
theorem place_ok {p : Nat} {t N : Int32} {h : PH} {Q : Int32 → PH → Prop} (k : Q (pPlace (qI h p) t N) h) : wp_X4_placeAt p t N h Q := by
  intro v ev
  subst ev
  exact ⟨fun c => by rw [pPlace, if_pos c] at k; exact k, fun c => by rw [pPlace, if_neg c] at k; exact k⟩
def pArm (f : Nat → Int32) (j : Int32) : Int32 := if pWithin f j then f 5 else f 4
theorem arm_ok {p : Nat} {j : Int32} {h : PH} {Q : Int32 → PH → Prop} (k : Q (pArm (qI h p) j) h) : wp_X4_armAt p j h Q := by
  refine within_ok ⟨fun c => ?_, fun c => ?_⟩
  · rw [pArm, (b2i_0 _).mp c] at k; exact k
  · rw [pArm, if_pos (by cases hb : pWithin (qI h p) j with
      | true => rfl
      | false => rw [hb] at c; exact absurd rfl c)] at k; exact k
def pDist (f : Nat → Int32) (j N : Int32) : Int32 := qmin (qabs (j - f 6)) (N - qabs (j - f 6))
theorem dist_ok {p : Nat} {j N : Int32} {h : PH} {Q : Int32 → PH → Prop} (k : Q (pDist (qI h p) j N) h) : wp_X4_distanceTo p j N h Q := abs_ok (min_ok k)
def pEn (f : Nat → Int32) (j N : Int32) : Int32 :=
  if f 0 = 0 then f 3 * pArm f j * pHigh j N
  else if f 0 = 1 then (if pWithin f j then 10 * f 3 * (N / 2 - pHigh j N) else 0)
  else if f 0 = 2 then (if pWithin f j then 0 else -(f 3) * qmax 0 (6 - pDist f j N))
  else if f 0 = 3 then (if pWithin f j then 40 * f 3 else 0) else 0
theorem b2i_t {b : Bool} (h : ¬ b2i b = 0) : b = true := by cases b with
  | true => rfl
  | false => exact absurd rfl h
theorem energy_ok {p : Nat} {j N : Int32} {h : PH} {Q : Int32 → PH → Prop} (k : Q (pEn (qI h p) j N) h) : wp_X4_energyAt p j N h Q := by
  unfold pEn at k
  refine ⟨fun c => ?_, fun c => ?_, fun c => ?_, fun c => ?_, fun c0 c1 c2 c3 => ?_⟩
  · rw [if_pos c] at k
    exact arm_ok (high_ok k)
  · rw [if_neg (by rw [c]; decide), if_pos c] at k
    refine within_ok ⟨fun e => ?_, fun e => ?_⟩
    · rw [(b2i_0 _).mp e] at k; exact k
    · rw [if_pos (b2i_t e)] at k; exact high_ok k
  · rw [if_neg (by rw [c]; decide), if_neg (by rw [c]; decide), if_pos c] at k
    refine within_ok ⟨fun e => ?_, fun e => ?_⟩
    · rw [(b2i_0 _).mp e] at k; exact dist_ok (max_ok k)
    · rw [if_pos (b2i_t e)] at k; exact k
  · rw [if_neg (by rw [c]; decide), if_neg (by rw [c]; decide), if_neg (by rw [c]; decide), if_pos c] at k
    refine within_ok ⟨fun e => ?_, fun e => ?_⟩
    · rw [(b2i_0 _).mp e] at k; exact k
    · rw [if_pos (b2i_t e)] at k; exact k
  · rw [if_neg c0, if_neg c1, if_neg c2, if_neg c3] at k; exact k
def pLaw (f : Nat → Int32) : Int32 := if f 0 = 0 then 8 else if f 0 = 1 then 1 else if f 0 = 2 then 2 else if f 0 = 3 then 4 else 0
theorem law_ok {p : Nat} {h : PH} {Q : Int32 → PH → Prop} (k : Q (pLaw (qI h p)) h) : wp_X4_law p h Q := by
  unfold pLaw at k
  refine ⟨fun c => ?_, fun c => ?_, fun c => ?_, fun c => ?_, fun c0 c1 c2 c3 => ?_⟩
  · rw [if_pos c] at k; exact k
  · rw [if_neg (by rw [c]; decide), if_pos c] at k; exact k
  · rw [if_neg (by rw [c]; decide), if_neg (by rw [c]; decide), if_pos c] at k; exact k
  · rw [if_neg (by rw [c]; decide), if_neg (by rw [c]; decide), if_neg (by rw [c]; decide), if_pos c] at k; exact k
  · rw [if_neg c0, if_neg c1, if_neg c2, if_neg c3] at k; exact k
/-- whether the step from place i to place j is one of which the law speaks -/
def pLawC (f : Nat → Int32) (i j N : Int32) : Bool := if f 0 = 0 then decide (pHigh i N < pHigh j N) else if f 0 = 2 then pWithin f i != pWithin f j else !pWithin f i && pWithin f j
theorem b2i_eq (a b : Bool) : b2i a = b2i b ↔ a = b := by cases a <;> cases b <;> decide
theorem lawC_ok {p : Nat} {i j N : Int32} {h : PH} {Q : Int32 → PH → Prop} (k : Q (b2i (pLawC (qI h p) i j N)) h) : wp_X4_lawCounts p i j N h Q := by
  unfold pLawC at k
  refine ⟨fun c => ?_, fun c => ?_, fun c0 c2 => ?_⟩
  · rw [if_pos c] at k
    refine high_ok (high_ok ⟨fun e => ?_, fun e => ?_⟩)
    · rw [decide_eq_false (i_nlt.mpr e)] at k; exact k
    · rw [decide_eq_true (i_nle.mp e)] at k; exact k
  · rw [if_neg (by rw [c]; decide), if_pos c] at k
    refine within_ok (within_ok ⟨fun e => ?_, fun e => ?_⟩)
    · rw [(b2i_eq _ _).mp e] at k
      rw [bne_self_eq_false] at k; exact k
    · have e2 : (pWithin (qI h p) i != pWithin (qI h p) j) = true := by
        rw [bne_iff_ne]; exact fun w => e ((b2i_eq _ _).mpr w)
      rw [e2] at k; exact k
  · rw [if_neg c0, if_neg c2] at k
    refine within_ok ⟨fun e => ?_, fun e => within_ok ⟨fun e2 => ?_, fun e2 => ?_⟩⟩
    · rw [b2i_t e] at k; exact k
    · rw [(b2i_0 _).mp e, (b2i_0 _).mp e2] at k; exact k
    · rw [(b2i_0 _).mp e, b2i_t e2] at k; exact k
def pNext (i N : Int32) : Int32 := if N ≤ i + 1 then 0 else i + 1
def pGive (f : Nat → Int32) (t laws N : Int32) : Int32 :=
  if f 0 = 4 then (if t = f 2 then f 3 else 0)
  else
    if laws &&& pLaw f = 0 then pEn f (pPlace f t N) N - pEn f (pNext (pPlace f t N) N) N
    else if pLawC f (pPlace f t N) (pNext (pPlace f t N) N) N then (if f 0 = 0 then (pEn f (pPlace f t N) N - pEn f (pNext (pPlace f t N) N) N) / 2 else 0)
    else pEn f (pPlace f t N) N - pEn f (pNext (pPlace f t N) N) N
theorem behind_ok {i N : Int32} {h : PH} {Q : Int32 → PH → Prop} (k : Q (pNext i N) h) : wp_X4_placeBehind i N h Q := by
  unfold pNext at k
  refine ⟨fun e => ?_, fun e => ?_⟩
  · rw [if_pos e] at k; exact k
  · rw [if_neg e] at k; exact k
theorem gives_ok {p : Nat} {t laws N : Int32} {h : PH} {Q : Int32 → PH → Prop} (k : Q (pGive (qI h p) t laws N) h) : wp_X4_givesIn p t laws N h Q := by
  unfold pGive at k
  refine ⟨fun c => ?_, fun c => ⟨fun e => ?_, fun e => ?_⟩⟩
  · rw [if_neg c] at k
    refine place_ok (behind_ok ?_)
    revert k
    generalize pPlace (qI h p) t N = i
    generalize pNext i N = j
    intro k
    refine energy_ok (energy_ok (fun v ev => law_ok ⟨fun e => ?_, fun e => lawC_ok ⟨fun e2 => ⟨fun e3 => ?_, fun e3 => ?_⟩, fun e2 => ?_⟩⟩))
    · rw [if_pos e, ← ev] at k; exact k
    · rw [if_neg e, if_pos (b2i_t e2), if_neg e3] at k; exact k
    · rw [if_neg e, if_pos (b2i_t e2), if_pos e3, ← ev] at k; exact k
    · rw [if_neg e, (b2i_0 _).mp e2, ← ev] at k; exact k
  · rw [if_pos c, if_neg e] at k; exact k
  · rw [if_pos c, if_pos e] at k; exact k
/-- g 0 + .. + g (n - 1) -/
def qsum (g : Nat → Int32) : Nat → Int32
  | 0 => 0
  | n + 1 => qsum g n + g n
theorem sum_ok {p : Nat} {laws : Int32} {N : Nat} {h : PH} {Q : Int32 → PH → Prop} (hN : N ≤ 1000) (k : Q (qsum (fun t => pGive (qI h p) (nI t) laws (nI N)) N) h) : wp_X4_sumWith p laws (nI N) h Q := by
  unfold wp_X4_sumWith
  refine ⟨fun s => ∃ t, t ≤ N ∧ s.1 = qsum (fun t => pGive (qI h p) (nI t) laws (nI N)) t ∧ s.2.1 = nI t ∧ s.2.2 = h, fun s => N - s.2.1.toNatClampNeg, ⟨0, Nat.zero_le _, rfl, rfl, rfl⟩, ?_⟩
  rintro ⟨a, t', h'⟩ ⟨t, ht, e1, e2, e3⟩
  dsimp only at e1 e2 e3
  subst e1; subst e2; subst e3
  refine ⟨fun c => ?_, fun c => ?_⟩
  · have : t = N := by
      rcases Nat.lt_or_ge t N with q | q
      · exact absurd c (nI_ge q (by omega))
      · omega
    subst this
    exact k
  · have hlt : t < N := by
      rcases Nat.lt_or_ge t N with q | q
      · exact q
      · exact absurd (nI_le q (by omega)) c
    refine gives_ok (fun v ev w ew => ⟨⟨t + 1, hlt, by rw [ev]; rfl, by rw [ew]; exact nI_1 t, rfl⟩, ?_⟩)
    show N - w.toNatClampNeg < N - (nI t).toNatClampNeg
    rw [ew, nI_1, nI_clamp (by omega), nI_clamp (by omega)]
    omega
/-- some step of which the law speaks takes something -/
def pTakes (f : Nat → Int32) (N : Nat) (t : Nat) : Bool := pLawC f (pPlace f (nI t) (nI N)) (pNext (pPlace f (nI t) (nI N)) (nI N)) (nI N) && decide (pGive f (nI t) 0 (nI N) < 0)
theorem takes_ok {p : Nat} {N : Nat} {h : PH} {Q : Int32 → PH → Prop} (hN : N ≤ 1000) (k1 : ∀ t, t < N → pTakes (qI h p) N t = true → Q 1 h) (k0 : (∀ t, t < N → pTakes (qI h p) N t = false) → Q 0 h) : wp_X4_takesWhereLawCounts p (nI N) h Q := by
  unfold wp_X4_takesWhereLawCounts
  refine ⟨fun s => ∃ t, t ≤ N ∧ s.1 = nI t ∧ s.2 = h ∧ ∀ u, u < t → pTakes (qI h p) N u = false, fun s => N - s.1.toNatClampNeg, ⟨0, Nat.zero_le _, rfl, rfl, fun u hu => absurd hu (Nat.not_lt_zero u)⟩, ?_⟩
  rintro ⟨t', h'⟩ ⟨t, ht, e1, e2, e3⟩
  dsimp only at e1 e2
  subst e1; subst e2
  refine ⟨fun c => ?_, fun c => ?_⟩
  · have : t = N := by
      rcases Nat.lt_or_ge t N with q | q
      · exact absurd c (nI_ge q (by omega))
      · omega
    subst this
    exact k0 e3
  · have hlt : t < N := by
      rcases Nat.lt_or_ge t N with q | q
      · exact q
      · exact absurd (nI_le q (by omega)) c
    have back : pTakes (qI h' p) N t = false → ∀ v : Int32, v = nI t + 1 → ((∃ t, t ≤ N ∧ v = nI t ∧ h' = h' ∧ ∀ u, u < t → pTakes (qI h' p) N u = false) ∧ N - v.toNatClampNeg < N - (nI t).toNatClampNeg) := by
      intro hf v ev
      refine ⟨⟨t + 1, hlt, by rw [ev]; exact nI_1 t, rfl, fun u hu => ?_⟩, ?_⟩
      · rcases Nat.lt_or_ge u t with q | q
        · exact e3 u q
        · rw [show u = t by omega]; exact hf
      · rw [ev, nI_1, nI_clamp (by omega), nI_clamp (by omega)]; omega
    exact place_ok (behind_ok (lawC_ok ⟨fun e => back (by unfold pTakes; rw [(b2i_0 _).mp e]; rfl), fun e => gives_ok ⟨fun e4 => back (by unfold pTakes; rw [decide_eq_false (i_nlt.mpr e4), Bool.and_false]), fun e4 => k1 t hlt (by unfold pTakes; rw [b2i_t e, decide_eq_true (i_nle.mp e4)]; rfl)⟩⟩))

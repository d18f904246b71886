/-! ===== PURE: the model's functions of a part ===== -/
theorem c0_n : (0 : Int32).toNatClampNeg = 0 := by decide
def Mo (h : PH) (N : Nat) : Prop := qR h 70 14 = some 72 ∧ qL h 72 = 8 ∧ qI h 72 0 = nI N ∧ 8 ≤ N ∧ N ≤ 48 ∧ qR h 70 17 = some 75 ∧ qL h 75 = 768
theorem in08 {h : PH} {N : Nat} (m : Mo h N) : vp_in 0 (qL h 72) := by rw [m.2.1]; exact vp_in_nI (n := 0) (by decide) (by decide)
theorem nI_nz {N : Nat} (h1 : 8 ≤ N) (h2 : N ≤ 48) : ¬ nI N = 0 := nI_ne0 (by omega) (by omega)
/-- v round n -/
def rnd (v n : Int32) : Int32 := ((v - v / n * n) + n) - ((v - v / n * n) + n) / n * n
theorem round_ok {h : PH} {N : Nat} {v : Int32} {Q : Int32 → PH → Prop} (m : Mo h N) (k : Q (rnd v (nI N)) h) : wp_X12_round 70 v h Q := by
  have e : qI h 72 (0 : Int32).toNatClampNeg = nI N := by rw [c0_n]; exact m.2.2.1
  refine ⟨72, m.1, in08 m, by rw [e]; exact nI_nz m.2.2.2.1 m.2.2.2.2.1, 72, m.1, in08 m, 72, m.1, in08 m, by rw [e]; exact nI_nz m.2.2.2.1 m.2.2.2.2.1, ?_⟩
  rw [e]
  exact k
theorem rnd_nat {a N : Nat} (ha : a < 2 ^ 30) (h0 : 0 < N) (hN : N < 2 ^ 30) : rnd (nI a) (nI N) = nI (a % N) := by
  unfold rnd
  rw [pk_rem (by omega) h0 (by omega), nI_add, pk_rem (by have := Nat.mod_lt a h0; omega) h0 (by omega), Nat.add_mod_right, Nat.mod_mod]
theorem div_small {x y : Int32} (h1 : -y.toInt < x.toInt) (h2 : x.toInt < y.toInt) : x / y = 0 := by
  apply Int32.toInt_inj.mp
  rw [Int32.toInt_div]
  have h0 : x.toInt.tdiv y.toInt = 0 := by
    rcases Int.le_total 0 x.toInt with q | q
    · exact Int.tdiv_eq_zero_of_lt q h2
    · have e : x.toInt = -(-x.toInt) := by omega
      rw [e, Int.neg_tdiv, Int.tdiv_eq_zero_of_lt (by omega) (by omega)]
      rfl
  rw [h0]
  rfl
/-- places j less p, both below N, round -/
theorem rnd_sub {j p N : Nat} (hj : j < N) (hp : p < N) (hN : N < 2 ^ 20) : rnd (nI j - nI p) (nI N) = nI ((j + N - p) % N) := by
  have e1 : (nI j - nI p).toInt = (j : Int) - p := pk_sub_toInt (by omega) (by omega)
  have e2 : (nI N).toInt = (N : Int) := nI_toInt (by omega)
  have e3 : (nI j - nI p) / nI N = 0 := div_small (by rw [e1, e2]; omega) (by rw [e1, e2]; omega)
  have e4 : nI j - nI p + nI N = nI (j + N - p) := by
    apply Int32.toInt_inj.mp
    rw [nI_toInt (by omega), fb_addI (by rw [e1, e2]; omega) (by rw [e1, e2]; omega), e1, e2]
    omega
  unfold rnd
  rw [e3, show (0 : Int32) * nI N = 0 from Int32.zero_mul, Int32.sub_zero, e4, pk_rem (by omega) (by omega) (by omega)]
theorem mhigh_ok {h : PH} {N : Nat} {j : Int32} {Q : Int32 → PH → Prop} (m : Mo h N) (k : Q (pHigh j (nI N)) h) : wp_X12_high 70 j h Q := by
  have e : qI h 72 (0 : Int32).toNatClampNeg = nI N := by rw [c0_n]; exact m.2.2.1
  refine ⟨72, m.1, in08 m, fun c => ⟨72, m.1, in08 m, ?_⟩, fun c => ?_⟩
  · rw [e] at c ⊢
    rw [pHigh, if_pos c] at k; exact k
  · rw [e] at c
    rw [pHigh, if_neg c] at k; exact k
theorem mrng_ok {h : PH} {low top j : Int32} {o : Nat} {Q : Int32 → PH → Prop} (k : Q (b2i (inRng low top j)) h) : wp_X12_isWithin o j low top h Q := by
  unfold inRng at k
  refine ⟨fun c1 => ⟨fun c2 => ?_, fun c2 => ⟨fun c3 => ?_, fun c3 => ?_⟩⟩, fun c1 => ⟨fun c2 => ?_, fun c2 => ⟨fun c3 => ?_, fun c3 => ?_⟩⟩⟩
  · rw [if_pos c1, decide_eq_true c2] at k; exact k
  · rw [if_pos c1, decide_eq_false c2, decide_eq_false (i_nle.mpr c3)] at k; exact k
  · rw [if_pos c1, decide_eq_false c2, decide_eq_true (i_nlt.mp c3)] at k; exact k
  · rw [if_neg c1, decide_eq_false (i_nle.mpr c2)] at k; exact k
  · rw [if_neg c1, decide_eq_true (i_nlt.mp c2), decide_eq_false (i_nle.mpr c3)] at k; exact k
  · rw [if_neg c1, decide_eq_true (i_nlt.mp c2), decide_eq_true (i_nlt.mp c3)] at k; exact k
/-- row k of the model's drawing d: sort, pin, load, arm, out, low, high, spot -/
def mrow (h : PH) (d k : Nat) : Nat → Int32 := fun i => qI h 75 (96 * d + 8 * k + i)
theorem slot_n (d k : Nat) : (96 * nI d) + (8 * nI k) = nI (96 * d + 8 * k) := by
  rw [show (96 : Int32) = nI 96 from rfl, show (8 : Int32) = nI 8 from rfl, pk_mul, pk_mul, nI_add]
theorem slot0_n (k : Nat) : (96 * (0 : Int32)) + (8 * nI k) = nI (8 * k) := by
  have := slot_n 0 k
  rw [show nI 0 = 0 from rfl] at this
  rw [this]; congr 1; omega
theorem slot_in {h : PH} {N : Nat} (m : Mo h N) {k i : Nat} (hk : k < 12) (hi : i < 8) {c : Int32} (hc : c = nI i) : vp_in (nI (8 * k) + c) (qL h 75) := by
  rw [hc, nI_add, m.2.2.2.2.2.2]; exact vp_in_nI (by omega) (by omega)
theorem slot_at {h : PH} {k i : Nat} (hk : k < 12) (hi : i < 8) {c : Int32} (hc : c = nI i) : qI h 75 (nI (8 * k) + c).toNatClampNeg = mrow h 0 k i := by
  rw [hc, nI_add, nI_clamp (by omega)]
  unfold mrow
  congr 1
  omega
def mWithin (g : Nat → Int32) (j : Int32) : Bool := if g 5 = -1 then false else inRng (g 5) (g 6) j
theorem mwithin_ok {h : PH} {N k : Nat} {j : Int32} {Q : Int32 → PH → Prop} (m : Mo h N) (hk : k < 12) (q : Q (b2i (mWithin (mrow h 0 k) j)) h) : wp_X12_isWithin_ 70 (nI k) j h Q := by
  show wp_X12_slot 0 (nI k) h _
  unfold wp_X12_slot
  rw [slot0_n]
  unfold mWithin at q
  refine ⟨75, m.2.2.2.2.2.1, slot_in m hk (i := 5) (by decide) rfl, fun c => ?_, fun c => ⟨75, m.2.2.2.2.2.1, slot_in m hk (i := 5) (by decide) rfl, 75, m.2.2.2.2.2.1, slot_in m hk (i := 6) (by decide) rfl, mrng_ok ⟨fun e => ?_, fun e => ?_⟩⟩⟩
  · rw [slot_at (h := h) hk (i := 5) (c := 5) (by decide) rfl] at c
    rw [if_pos c] at q; exact q
  · rw [slot_at (h := h) hk (i := 5) (c := 5) (by decide) rfl] at c e
    rw [slot_at (h := h) hk (i := 6) (c := 6) (by decide) rfl] at e
    rw [if_neg c, (b2i_0 _).mp e] at q; exact q
  · rw [slot_at (h := h) hk (i := 5) (c := 5) (by decide) rfl] at c e
    rw [slot_at (h := h) hk (i := 6) (c := 6) (by decide) rfl] at e
    rw [if_neg c, b2i_t e] at q; exact q
theorem mplace_ok {h : PH} {N k : Nat} {t : Int32} {Q : Int32 → PH → Prop} (m : Mo h N) (hk : k < 12) (q : Q (rnd (mrow h 0 k 1 + t) (nI N)) h) : wp_X12_placeOf 70 (nI k) t h Q := by
  refine ⟨75, m.2.2.2.2.2.1, ?_⟩
  show wp_X12_slot 0 (nI k) h _
  unfold wp_X12_slot
  rw [slot0_n]
  refine ⟨slot_in m hk (i := 1) (by decide) rfl, round_ok m ?_⟩
  rw [slot_at (h := h) hk (i := 1) (c := 1) (by decide) rfl]
  exact q

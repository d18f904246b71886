/-! ===== PURE: how large things may be; division; the call feeding ===== -/
theorem i0 : (0 : Int32).toInt = 0 := rfl
theorem i_ge0 {x : Int32} : 0 ≤ x ↔ 0 ≤ x.toInt := by rw [Int32.le_iff_toInt_le, i0]
theorem fdiv_ok {x : Int32} {c : Nat} {h : PH} {Q : Int32 → PH → Prop} (c0 : 0 < c) (hc : c < 2 ^ 31) (q : ∀ v : Int32, v.toInt = x.toInt / (c : Int) → Q v h) : wp_J9_floorDiv_7cf53 x (nI c) h Q := by
  have rx := fb_rng x
  have ec : (nI c).toInt = (c : Int) := nI_toInt hc
  have cp : (0 : Int) < c := by omega
  refine ⟨nI_ne0 c0 hc, fun v ev => ?_⟩
  have sg : (0 ≤ x ^^^ nI c) ↔ ¬ x < 0 := by
    rw [xor_sgn]
    constructor
    · intro z y; exact nI_pos hc (z.mp y)
    · intro z; exact ⟨fun y => absurd y z, fun y => absurd y (nI_pos hc)⟩
  have e0 : v.toInt = (x.toInt.tdiv c).bmod (2 ^ 32) := by rw [ev, Int32.toInt_div, ec]
  by_cases n : x < 0
  · have n' : x.toInt < 0 := by rw [Int32.lt_iff_toInt_lt, i0] at n; exact n
    have dm := Int.mul_ediv_add_emod (-x.toInt) c
    have r0 := Int.emod_nonneg (-x.toInt) (show (c : Int) ≠ 0 by omega)
    have r1 := Int.emod_lt_of_pos (-x.toInt) cp
    have q0 : 0 ≤ -x.toInt / (c : Int) := Int.ediv_nonneg (by omega) (by omega)
    have qle : -x.toInt / (c : Int) ≤ -x.toInt := Int.ediv_le_self _ (by omega)
    have td : x.toInt.tdiv c = -(-x.toInt / (c : Int)) := by
      have : x.toInt = -(-x.toInt) := by omega
      rw [this, Int.neg_tdiv, Int.tdiv_eq_ediv_of_nonneg (by omega), Int.neg_neg]
    have ev2 : v.toInt = -(-x.toInt / (c : Int)) := by
      rw [e0, td, fb_bmod (by omega) (by omega)]
    generalize hq : -x.toInt / (c : Int) = k at *
    generalize hr : -x.toInt % (c : Int) = r at *
    have vm : (v * nI c).toInt = -(c * k) := by
      have : v.toInt * (nI c).toInt = -(c * k) := by rw [ev2, ec, Int.neg_mul, Int.mul_comm]
      rw [fb_mulI (by rw [this]; omega) (by rw [this]; omega), this]
    refine ⟨fun z => absurd n (sg.mp z), fun _ => ⟨fun z => q v ?_, fun z => q (v - 1) ?_⟩⟩
    · have : (v * nI c).toInt = x.toInt := by rw [z]
      rw [vm] at this
      have u := ((Int.ediv_emod_unique cp (a := x.toInt) (q := -k) (r := 0)).mpr ⟨by rw [Int.mul_neg]; omega, by omega, cp⟩).1
      rw [ev2, u]
    · have ne : ¬ r = 0 := fun y => z (by
        apply Int32.toInt_inj.mp
        rw [vm]; omega)
      have u := ((Int.ediv_emod_unique cp (a := x.toInt) (q := -k - 1) (r := c - r)).mpr ⟨by rw [Int.mul_sub, Int.mul_neg, Int.mul_one]; omega, by omega, by omega⟩).1
      have e1 : (1 : Int32).toInt = 1 := rfl
      have ck : 1 * k ≤ c * k := Int.mul_le_mul_of_nonneg_right (by omega) q0
      rw [fb_subI (by rw [ev2, e1]; omega) (by rw [ev2, e1]; omega), ev2, u, e1]
  · have n' : 0 ≤ x.toInt := by rw [Int32.lt_iff_toInt_lt, i0] at n; omega
    refine ⟨fun _ => q v ?_, fun z => absurd (sg.mpr n) z⟩
    have q0 : 0 ≤ x.toInt / (c : Int) := Int.ediv_nonneg (by omega) (by omega)
    have qle : x.toInt / (c : Int) ≤ x.toInt := Int.ediv_le_self _ (by omega)
    rw [e0, Int.tdiv_eq_ediv_of_nonneg n', fb_bmod (by omega) (by omega)]
/-! the ENERGY of a part -/
theorem high_n {j N : Nat} (hN : N ≤ 48) (hj : j < N) : ∃ y, y ≤ 24 ∧ y ≤ N / 2 ∧ pHigh (nI j) (nI N) = nI y := by
  unfold pHigh
  rw [show nI N / 2 = nI (N / 2) from pk_div (d := 2) (by omega) (by decide) (by decide)]
  by_cases c : N / 2 < j
  · rw [if_pos (nI_lt c (by omega)), pk_sub (by omega)]; exact ⟨N - j, by omega, by omega, rfl⟩
  · rw [if_neg (nI_nlt (by omega) (by omega))]; exact ⟨j, by omega, by omega, rfl⟩
theorem en_bd {D : PD} {N j : Nat} (o : okD N D) (hN : N ≤ 48) (hj : j < N) : -594 ≤ (pEn (cRow D) (nI j) (nI N)).toInt ∧ (pEn (cRow D) (nI j) (nI N)).toInt ≤ 47520 := by
  have d5 := o.1
  have dw1 := o.2.2.2.1
  have dar := o.2.2.2.2.1
  have dou := o.2.2.2.2.2.1
  obtain ⟨y, y1, y2, ey⟩ := high_n hN hj
  have small : ∀ m, m ≤ 47520 → -594 ≤ (nI m).toInt ∧ (nI m).toInt ≤ 47520 := fun m hm => by rw [nI_toInt (by omega)]; omega
  unfold pEn
  rw [show cRow D 0 = nI (dk D) from rfl, show cRow D 3 = nI (dw D) from rfl]
  by_cases c0 : dk D = 0
  · rw [if_pos (by rw [c0]; rfl), ey]
    obtain ⟨a, ha, ea⟩ : ∃ a, a ≤ 20 ∧ pArm (cRow D) (nI j) = nI a := by
      unfold pArm
      split
      · exact ⟨dout D, dou, rfl⟩
      · exact ⟨darm D, dar, rfl⟩
    rw [ea, pk_mul, pk_mul]
    apply small
    have m1 : dw D * a ≤ 99 * 20 := Nat.mul_le_mul dw1 ha
    have m2 : dw D * a * y ≤ 99 * 20 * 24 := Nat.mul_le_mul m1 y1
    omega
  · rw [if_neg (show ¬ (nI (dk D) = 0) from fun z => c0 (nI_inj (b := 0) (by omega) (by decide) z))]
    by_cases c1 : dk D = 1
    · rw [if_pos (by rw [c1]; rfl), ey]
      split
      · rw [show nI N / 2 = nI (N / 2) from pk_div (d := 2) (by omega) (by decide) (by decide), pk_sub y2, show (10 : Int32) = nI 10 from rfl, pk_mul, pk_mul]
        apply small
        have m1 : 10 * dw D ≤ 10 * 99 := Nat.mul_le_mul (Nat.le_refl _) dw1
        have m2 : 10 * dw D * (N / 2 - y) ≤ 10 * 99 * 24 := Nat.mul_le_mul m1 (by omega)
        omega
      · exact small 0 (by omega)
    · rw [if_neg (show ¬ (nI (dk D) = 1) from fun z => c1 (nI_inj (b := 1) (by omega) (by decide) z))]
      by_cases c2 : dk D = 2
      · rw [if_pos (by rw [c2]; rfl)]
        split
        · exact small 0 (by omega)
        · rw [dist_e o hN hj]
          have hx : ndist j (dat D) N ≤ 48 := by
            unfold ndist
            split <;> split <;> omega
          generalize ndist j (dat D) N = x at *
          obtain ⟨z, hz, ez⟩ : ∃ z, z ≤ 6 ∧ qmax 0 (6 - nI x) = nI z := by
            unfold qmax
            rcases Nat.lt_or_ge x 6 with c | c
            · rw [show (6 : Int32) = nI 6 from rfl, pk_sub (by omega)]
              rw [if_pos (show (0 : Int32) < nI (6 - x) from nI_lt (a := 0) (b := 6 - x) (by omega) (by omega))]
              exact ⟨6 - x, by omega, rfl⟩
            · rw [if_neg]
              · exact ⟨0, by omega, rfl⟩
              · rw [Int32.lt_iff_toInt_lt, i0, show (6 : Int32) = nI 6 from rfl, pk_sub_toInt (by omega) (by omega)]
                omega
          rw [ez]
          have m1 : dw D * z ≤ 99 * 6 := Nat.mul_le_mul dw1 hz
          have en : (-(nI (dw D))).toInt = -(dw D : Int) := by rw [fb_negI (by rw [nI_toInt (by omega)]; omega), nI_toInt (by omega)]
          have e2 : (-(nI (dw D))).toInt * (nI z).toInt = -((dw D * z : Nat) : Int) := by
            rw [en, nI_toInt (by omega), Int.neg_mul, Int.natCast_mul]
          rw [fb_mulI (by rw [e2]; omega) (by rw [e2]; omega), e2]
          omega
      · rw [if_neg (show ¬ (nI (dk D) = 2) from fun z => c2 (nI_inj (b := 2) (by omega) (by decide) z))]
        split
        · split
          · rw [show (40 : Int32) = nI 40 from rfl, pk_mul]
            apply small
            omega
          · exact small 0 (by omega)
        · exact small 0 (by omega)
theorem gv_bd {D : PD} {N t : Nat} (o : okD N D) (h8 : 8 ≤ N) (hN : N ≤ 48) (ht : t < N) : -48114 ≤ (gv D N t 0).toInt ∧ (gv D N t 0).toInt ≤ 48114 := by
  unfold gv pGive
  have hp : (dpin D + t) % N < N := Nat.mod_lt _ (by omega)
  have hq : ((dpin D + t) % N + 1) % N < N := Nat.mod_lt _ (by omega)
  rw [place_e o hN ht, next_e hN hp, show (0 : Int32) &&& pLaw (cRow D) = 0 from Int32.zero_and]
  obtain ⟨a1, a2⟩ := en_bd o hN hp
  obtain ⟨b1, b2⟩ := en_bd o hN hq
  have dw1 := o.2.2.2.1
  split
  · split
    · show -48114 ≤ (nI (dw D)).toInt ∧ (nI (dw D)).toInt ≤ 48114
      rw [nI_toInt (by omega)]; omega
    · rw [i0]; omega
  · rw [if_pos rfl, fb_subI (by omega) (by omega)]
    omega
theorem qsum_bd {g : Nat → Int32} {M : Int} (hM : 0 ≤ M) : ∀ n : Nat, (n : Int) * M < 2147483648 → (∀ k, k < n → -M ≤ (g k).toInt ∧ (g k).toInt ≤ M) → -((n : Int) * M) ≤ (qsum g n).toInt ∧ (qsum g n).toInt ≤ (n : Int) * M
  | 0, _, _ => by
    show -(0 * M) ≤ (0 : Int32).toInt ∧ (0 : Int32).toInt ≤ 0 * M
    rw [i0]; omega
  | n + 1, hn, hg => by
    have e : ((n + 1 : Nat) : Int) * M = n * M + M := by
      rw [Int.natCast_add, Int.add_mul]; simp
    rw [e] at hn ⊢
    obtain ⟨a, b⟩ := qsum_bd hM n (by omega) (fun k hk => hg k (by omega))
    obtain ⟨c, d⟩ := hg n (by omega)
    show _ ≤ (qsum g n + g n).toInt ∧ (qsum g n + g n).toInt ≤ _
    rw [fb_addI (by omega) (by omega)]
    omega
theorem fwd_bd {N rb n t : Nat} {Ds : Nat → PD} (h8 : 8 ≤ N) (hN : N ≤ 48) (hn : n ≤ 12) (hr : rb ≤ 999) (ok : ∀ k, k < n → okD N (Ds k)) (ht : t < N) : -580000 ≤ (fwd N rb n Ds 0 t).toInt ∧ (fwd N rb n Ds 0 t).toInt ≤ 580000 := by
  have s := qsum_bd (g := fun k => gv (Ds k) N t 0) (M := 48114) (by omega) n (by omega) (fun k hk => gv_bd (ok k hk) h8 hN ht)
  have r : (rubV rb (nI 0)).toInt = rb := by
    unfold rubV
    rw [if_pos (by decide), nI_toInt (by omega)]
  unfold fwd
  show -580000 ≤ (qsum (fun k => gv (Ds k) N t 0) n - rubV rb (nI 0)).toInt ∧ (qsum (fun k => gv (Ds k) N t 0) n - rubV rb (nI 0)).toInt ≤ 580000
  rw [fb_subI (by rw [r]; omega) (by rw [r]; omega), r]
  omega
/-! E behind each step without more feeding, and how often the pin was left -/
def fA (F : Nat → Int) (N t0 : Nat) (push load : Int) : Nat → Int
  | 0 => push
  | k + 1 => fA F N t0 push load k + F ((t0 + k) % N) - (if (t0 + k) % N = 0 then load else 0)
def fC (N t0 pin : Nat) : Nat → Nat
  | 0 => 0
  | k + 1 => fC N t0 pin k + (if (t0 + k) % N = pin then 1 else 0)
theorem fC_le (N t0 pin : Nat) : ∀ k, fC N t0 pin k ≤ k
  | 0 => Nat.le_refl 0
  | k + 1 => by
    have := fC_le N t0 pin k
    unfold fC
    split <;> omega
theorem fA_bd {F : Nat → Int} {N t0 : Nat} {push load : Int} (h0 : 0 < N) (hF : ∀ t, t < N → -580000 ≤ F t ∧ F t ≤ 580000) (hp : 0 ≤ push ∧ push ≤ 100000) (hl : 0 ≤ load ∧ load ≤ 9999) : ∀ k : Nat, -(600000 * (k : Int)) ≤ fA F N t0 push load k ∧ fA F N t0 push load k ≤ 100000 + 600000 * (k : Int)
  | 0 => by unfold fA; omega
  | k + 1 => by
    have ih := fA_bd h0 hF hp hl k (t0 := t0)
    have f := hF ((t0 + k) % N) (Nat.mod_lt _ h0)
    unfold fA
    split <;> omega
def fOk (A : Nat → Int) (C : Nat → Nat) (k u : Nat) : Prop := ∀ j, j < k → 0 ≤ A (j + 1) + ((C (j + 1) * u : Nat) : Int)
theorem fOk_s {A : Nat → Int} {C : Nat → Nat} {k u : Nat} (a : fOk A C k u) (b : 0 ≤ A (k + 1) + ((C (k + 1) * u : Nat) : Int)) : fOk A C (k + 1) u := fun j hj => by
  rcases (show j < k ∨ j = k by omega) with z | z
  · exact a j z
  · rw [z]; exact b
/-- the least W that a step tells -/
theorem ceil_p {A : Int} {c : Nat} (hc : 0 < c) (u : Nat) : 0 ≤ A + ((c * u : Nat) : Int) ↔ -(A / (c : Int)) ≤ u := by
  have cp : (0 : Int) < c := by omega
  have dm := Int.mul_ediv_add_emod A c
  have r0 := Int.emod_nonneg A (show (c : Int) ≠ 0 by omega)
  have r1 := Int.emod_lt_of_pos A cp
  generalize A / (c : Int) = f at *
  generalize A % (c : Int) = r at *
  have e : A + ((c * u : Nat) : Int) = c * (f + u) + r := by
    rw [Int.mul_add]; push_cast; omega
  rw [e]
  constructor
  · intro h
    rcases Int.lt_or_le (f + u) 0 with z | z
    · have : (c : Int) * (f + u) ≤ c * (-1) := Int.mul_le_mul_of_nonneg_left (by omega) (by omega)
      omega
    · omega
  · intro h
    have : 0 ≤ (c : Int) * (f + u) := Int.mul_nonneg (by omega) (by omega)
    omega
def lfR (A : Nat → Int) (C : Nat → Nat) (n : Nat) (r : Int32) : Prop := frst (fun u => 1 ≤ u ∧ fOk A C n u) 1000 r
theorem lf_ok {h : PH} {N pin t0 push load : Nat} {F B : Nat → Int32} {Q : Int32 → PH → Prop} (w : WF h N F B) (hp : pin < N) (ht : t0 < N) (hpu : push ≤ 100000) (hlo : load ≤ 9999) (hF : ∀ t, t < N → -580000 ≤ (F t).toInt ∧ (F t).toInt ≤ 580000)
    (q : ∀ r, (r ≤ 999 → lfR (fA (fun t => (F t).toInt) N t0 push load) (fC N t0 pin) (20 * N) r) ∧ (¬ r ≤ 999 → lfR (fA (fun t => (F t).toInt) N t0 push load) (fC N t0 pin) (20 * N) (-1)) → Q r h) : wp_X10_leastFeeding 13 (nI pin) (nI t0) (nI push) (nI load) h Q := by
  obtain ⟨⟨w1, w2, w3⟩, _, w4, w5, w6⟩ := w
  generalize hA : fA (fun t => (F t).toInt) N t0 push load = A at *
  generalize hC : fC N t0 pin = C at *
  have bA : ∀ k : Nat, -(600000 * (k : Int)) ≤ A k ∧ A k ≤ 100000 + 600000 * (k : Int) := fun k => by rw [← hA]; exact fA_bd (push := push) (load := load) (by omega) hF (by omega) (by omega) k
  have bC : ∀ k, C k ≤ k := fun k => by rw [← hC]; exact fC_le _ _ _ k
  have e20 : 20 * qI h 13 2 = nI (20 * N) := by rw [w4, show (20 : Int32) = nI 20 from rfl, pk_mul]
  have none : ∀ k c : Nat, k ≤ 20 * N → (∀ u, 1 ≤ u → u < c → ¬ fOk A C k u) → 1000 ≤ c → lfR A C (20 * N) (-1) := fun k c hk no hc => Or.inr ⟨fun u hu z => no u z.1 (by omega) (fun j hj => z.2 j (by omega)), rfl⟩
  refine loopR (20 * N) (fun k s => s.1.toInt = A k ∧ s.2.1 = nI (C k) ∧ (∃ wv, s.2.2.1 = nI wv ∧ 1 ≤ wv ∧ wv ≤ 999 ∧ fOk A C k wv ∧ ∀ u, 1 ≤ u → u < wv → ¬ fOk A C k u) ∧ s.2.2.2.1 = nI ((t0 + k) % N) ∧ s.2.2.2.2.1 = nI k ∧ s.2.2.2.2.2 = h) (fun s => s.2.2.2.2.1.toNatClampNeg) ⟨by rw [← hA, nI_toInt (by omega)]; rfl, by rw [← hC]; rfl, ⟨1, rfl, by omega, by omega, fun j hj => absurd hj (Nat.not_lt_zero j), fun u h1 h2 => by omega⟩, by rw [Nat.add_zero, Nat.mod_eq_of_lt ht], rfl, rfl⟩ (fun k s hk p => by rw [p.2.2.2.2.1]; exact nI_clamp (by omega)) ?_ ?_
  · rintro k ⟨l5, l6, l7, l8, l9, h'⟩ hk ⟨p1, p2, ⟨wv, p3, p4, p5, p6, p7⟩, p8, p9, p10⟩ back hb
    dsimp only at p1 p2 p3 p8 p9 p10
    subst p2 p3 p8 p9 p10
    have hm : (t0 + k) % N < N := Nat.mod_lt _ (by omega)
    have ba := bA k
    have ba1 := bA (k + 1)
    have bc1 := bC (k + 1)
    have fb := hF _ hm
    -- the rest, with E and the count behind the step
    have rest : ∀ v6 : Int32, v6.toInt = A (k + 1) → ∀ s0 : Int32, nI (C k) + s0 = nI (C (k + 1)) → wp_X10_leastFeeding_64 13 (nI pin) (nI load) v6 (nI wv) (nI ((t0 + k) % N)) (nI k) s0 (nI (C k)) back h' Q := by
      intro v6 ev s0 es v10 e10
      rw [es] at e10
      subst e10
      have go : ∀ x : Nat, 1 ≤ x → x ≤ 999 → fOk A C (k + 1) x → (∀ u, 1 ≤ u → u < x → ¬ fOk A C (k + 1) u) → wp_X10_after 13 (nI ((t0 + k) % N)) h' (fun r14 h13 => ∀ v15 : Int32, v15 = nI k + 1 → back (v6, nI (C (k + 1)), nI x, r14, v15, h13)) := fun x x1 x2 x3 x4 => after_ok w4 w6 hm (fun v15 e15 => hb _ ⟨ev, rfl, ⟨x, rfl, x1, x2, x3, x4⟩, by rw [Nat.mod_add_mod, Nat.add_assoc], by rw [e15]; exact nI_1 k, rfl⟩)
      have up : ∀ u, ¬ fOk A C k u → ¬ fOk A C (k + 1) u := fun u z y => z (fun j hj => y j (by omega))
      refine ⟨fun c => pk_le wv 999 (fun _ => go wv p4 p5 (fOk_s p6 ?_) (fun u h1 h2 => up u (p7 u h1 h2))) (fun z => by omega), fun c => n_eq (C (k + 1)) 0 (fun z => ⟨fun y => ?_, fun _ => ?_⟩) (fun z => ?_)⟩
      · rw [i_ge0, ev] at c; omega
      · exact absurd y (nI_nle (by omega) (by omega))
      · rw [Int32.neg_neg]
        refine fdiv_ok (by omega) (by omega) (fun v3 e3 => max_ok ?_)
        rw [i_ge0, ev] at c
        rw [ev] at e3
        have cp : (0 : Int) < (C (k + 1) : Int) := by omega
        have neg : A (k + 1) / (C (k + 1) : Int) < 0 := Int.ediv_neg_of_neg_of_pos (by omega) cp
        have lo : A (k + 1) ≤ A (k + 1) / (C (k + 1) : Int) := by
          have := ceil_p (A := A (k + 1)) (c := C (k + 1)) (by omega) (-(A (k + 1))).toNat
          have t : (((-(A (k + 1))).toNat : Nat) : Int) = -(A (k + 1)) := Int.toNat_of_nonneg (by omega)
          rw [t] at this
          have g : 0 ≤ A (k + 1) + ((C (k + 1) * (-(A (k + 1))).toNat : Nat) : Int) := by
            have m : 1 * (-(A (k + 1))).toNat ≤ C (k + 1) * (-(A (k + 1))).toNat := Nat.mul_le_mul_right _ (by omega)
            omega
          have := this.mp g
          omega
        obtain ⟨cc, ecc⟩ : ∃ cc : Nat, (cc : Int) = -(A (k + 1) / (C (k + 1) : Int)) := ⟨(-(A (k + 1) / (C (k + 1) : Int))).toNat, Int.toNat_of_nonneg (by omega)⟩
        have e4 : -v3 = nI cc := by
          apply Int32.toInt_inj.mp
          rw [fb_negI (by rw [e3]; omega), e3, nI_toInt (by omega)]; omega
        rw [e4, qmax_n (by omega) (by omega)]
        have cl : ∀ u : Nat, 0 ≤ A (k + 1) + ((C (k + 1) * u : Nat) : Int) ↔ cc ≤ u := fun u => by
          rw [ceil_p (by omega), ← ecc]; omega
        have lower : ∀ u, 1 ≤ u → u < max wv cc → ¬ fOk A C (k + 1) u := fun u h1 h2 y => by
          rcases Nat.lt_or_ge u wv with x | x
          · exact up u (p7 u h1 x) y
          · have := (cl u).mp (y k (by omega))
            omega
        refine pk_le (max wv cc) 999 (fun z2 => go _ (by omega) z2 (fOk_s (fun j hj => ?_) ((cl _).mpr (by omega))) lower) (fun z2 => q _ ⟨fun y => ?_, fun _ => none (k + 1) _ (by omega) lower (by omega)⟩)
        · have := p6 j hj
          have m : C (j + 1) * wv ≤ C (j + 1) * max wv cc := Nat.mul_le_mul_left _ (by omega)
          omega
        · exact absurd ((nI_leI (b := 999) (by omega) (by decide)).mp y) (by omega)
      · rw [i_ge0, ev] at c
        refine ⟨fun y => absurd y (by decide), fun _ => q _ ⟨fun y => absurd y (by decide), fun _ => Or.inr ⟨fun u hu y => ?_, rfl⟩⟩⟩
        have := y.2 k (by omega)
        rw [z, Nat.zero_mul] at this
        omega
    have sC : ∀ x : Nat, x = (if (t0 + k) % N = pin then 1 else 0) → nI (C k) + nI x = nI (C (k + 1)) := fun x ex => by
      rw [nI_add, ex, ← hC]; rfl
    refine ⟨fun z => absurd z (by rw [e20]; exact nI_ge hk (by omega)), fun _ => ⟨14, w1, by rw [w2]; exact vp_in_nI (by omega) (by decide), ?_⟩⟩
    rw [nI_clamp (by omega), w3 _ hm]
    refine n_eq ((t0 + k) % N) 0 (fun z0 v6 e6 => n_eq ((t0 + k) % N) pin (fun z => rest v6 ?_ 0 (sC 0 (by rw [if_neg z]))) (fun z => rest v6 ?_ 1 (sC 1 (by rw [if_pos z])))) (fun z0 v6 e6 => n_eq ((t0 + k) % N) pin (fun z => rest v6 ?_ 0 (sC 0 (by rw [if_neg z]))) (fun z => rest v6 ?_ 1 (sC 1 (by rw [if_pos z]))))
    all_goals
      rw [e6, ← hA]
      unfold fA
      rw [hA]
    · rw [if_neg z0, Int32.sub_zero, fb_addI (by rw [p1]; omega) (by rw [p1]; omega), p1]; omega
    · rw [if_neg z0, Int32.sub_zero, fb_addI (by rw [p1]; omega) (by rw [p1]; omega), p1]; omega
    · have el : (nI load).toInt = (load : Int) := nI_toInt (by omega)
      have es : (F ((t0 + k) % N) - nI load).toInt = (F ((t0 + k) % N)).toInt - load := by rw [fb_subI (by rw [el]; omega) (by rw [el]; omega), el]
      rw [if_pos z0, fb_addI (by rw [p1, es]; omega) (by rw [p1, es]; omega), p1, es]; omega
    · have el : (nI load).toInt = (load : Int) := nI_toInt (by omega)
      have es : (F ((t0 + k) % N) - nI load).toInt = (F ((t0 + k) % N)).toInt - load := by rw [fb_subI (by rw [el]; omega) (by rw [el]; omega), el]
      rw [if_pos z0, fb_addI (by rw [p1, es]; omega) (by rw [p1, es]; omega), p1, es]; omega
  · rintro ⟨l5, l6, l7, l8, l9, h'⟩ ⟨p1, p2, ⟨wv, p3, p4, p5, p6, p7⟩, p8, p9, p10⟩ back
    dsimp only at p1 p2 p3 p8 p9 p10
    subst p2 p3 p8 p9 p10
    refine ⟨fun _ => q _ ⟨fun _ => Or.inl ⟨wv, by omega, ⟨p4, p6⟩, fun u hu z => p7 u z.1 hu z.2, rfl⟩, fun y => absurd (nI_le (b := 999) p5 (by decide)) y⟩, fun z => absurd (by rw [e20]; exact nI_le (Nat.le_refl _) (by omega)) z⟩
/-! the model's way -/
theorem isFed_ok {h : PH} {N pin t0 push load u : Nat} {F B : Nat → Int32} {Q : Int32 → PH → Prop} (w : MF h N F B) (hp : pin < N) (ht : t0 < N) (hpu : push ≤ 100000) (hlo : load ≤ 9999) (hu : u < 1000) (hF : ∀ t, t < N → -580000 ≤ (F t).toInt ∧ (F t).toInt ≤ 580000)
    (q1 : fOk (fA (fun t => (F t).toInt) N t0 push load) (fC N t0 pin) (20 * N) u → Q 1 h) (q0 : ¬ fOk (fA (fun t => (F t).toInt) N t0 push load) (fC N t0 pin) (20 * N) u → Q 0 h) : wp_X12_isFed 70 (nI pin) (nI t0) (nI push) (nI load) (nI u) h Q := by
  obtain ⟨m, ⟨w1, w2, w3⟩, _⟩ := w
  have hN8 := m.2.2.2.1
  have hN := m.2.2.2.2.1
  generalize hA : fA (fun t => (F t).toInt) N t0 push load = A at *
  generalize hC : fC N t0 pin = C at *
  have bA : ∀ k : Nat, -(600000 * (k : Int)) ≤ A k ∧ A k ≤ 100000 + 600000 * (k : Int) := fun k => by rw [← hA]; exact fA_bd (push := push) (load := load) (by omega) hF (by omega) (by omega) k
  have bC : ∀ k, C k ≤ k := fun k => by rw [← hC]; exact fC_le _ _ _ k
  have e20 : 20 * qI h 72 (0 : Int32).toNatClampNeg = nI (20 * N) := by rw [c0_n, m.2.2.1, show (20 : Int32) = nI 20 from rfl, pk_mul]
  have bCu : ∀ k, k ≤ 960 → C k * u ≤ 960 * 999 := fun k hk => Nat.mul_le_mul (by have := bC k; omega) (by omega)
  refine loopR (20 * N) (fun k s => s.1.toInt = A k + ((C k * u : Nat) : Int) ∧ s.2.1 = nI k ∧ s.2.2 = h ∧ fOk A C k u) (fun s => s.2.1.toNatClampNeg) ⟨by
      show (nI push).toInt = _
      rw [← hA, ← hC, nI_toInt (by omega)]
      show (push : Int) = push + ((0 * u : Nat) : Int)
      omega, rfl, rfl, fun j hj => absurd hj (Nat.not_lt_zero j)⟩ (fun k s hk p => by rw [p.2.1]; exact nI_clamp (by omega)) ?_ ?_
  · rintro k ⟨e, k', h'⟩ hk ⟨p1, p2, p3, p4⟩ back hb
    dsimp only at p1 p2 p3 p4
    subst p2 p3
    have hm : (t0 + k) % N < N := Nat.mod_lt _ (by omega)
    have ba := bA k
    have bu := bCu k (by omega)
    have bu1 := bCu (k + 1) (by omega)
    have fb := hF _ hm
    have sC : ((C (k + 1) * u : Nat) : Int) = ((C k * u : Nat) : Int) + (if (t0 + k) % N = pin then (u : Int) else 0) := by
      rw [← hC]
      show (((fC N t0 pin k + (if (t0 + k) % N = pin then 1 else 0)) * u : Nat) : Int) = _
      split
      · rw [Nat.add_mul, Nat.one_mul, Int.natCast_add]
      · rw [Nat.add_zero]; omega
    have sA : A (k + 1) = A k + (F ((t0 + k) % N)).toInt - (if (t0 + k) % N = 0 then (load : Int) else 0) := by
      rw [← hA]; rfl
    have fin : ∀ v : Int32, v.toInt = A (k + 1) + ((C (k + 1) * u : Nat) : Int) → ((0 ≤ v → ∀ v14 : Int32, v14 = nI k + 1 → back (v, v14, h')) ∧ (¬ (0 ≤ v) → Q 0 h')) := fun v ev => ⟨fun c w ew => hb _ ⟨ev, by rw [ew]; exact nI_1 k, rfl, fOk_s p4 (by rw [i_ge0, ev] at c; exact c)⟩, fun c => q0 (fun y => c (by rw [i_ge0, ev]; exact y k hk))⟩
    have st : ∀ s0 : Int32, s0.toInt = (if (t0 + k) % N = pin then (u : Int) else 0) → wp_X12_isFed_51 70 (nI pin) (nI t0) (nI load) (nI u) (nI k) (nI ((t0 + k) % N)) s0 (F ((t0 + k) % N)) e back h' Q := by
      intro s0 es
      have b0 : 0 ≤ s0.toInt ∧ s0.toInt ≤ 999 := by rw [es]; split <;> omega
      have e1 : (F ((t0 + k) % N) + s0).toInt = (F ((t0 + k) % N)).toInt + s0.toInt := fb_addI (by omega) (by omega)
      have el : (nI load).toInt = (load : Int) := nI_toInt (by omega)
      refine n_eq ((t0 + k) % N) 0 (fun z v ev => fin v ?_) (fun z v ev => fin v ?_)
      · rw [ev, Int32.sub_zero, fb_addI (by rw [p1, e1]; omega) (by rw [p1, e1]; omega), p1, e1, sA, sC, if_neg z, es]; omega
      · have e2 : (F ((t0 + k) % N) + s0 - nI load).toInt = (F ((t0 + k) % N)).toInt + s0.toInt - load := by rw [fb_subI (by rw [e1, el]; omega) (by rw [e1, el]; omega), e1, el]
        rw [ev, fb_addI (by rw [p1, e2]; omega) (by rw [p1, e2]; omega), p1, e2, sA, sC, if_pos z, es]; omega
    refine ⟨72, m.1, in08 m, fun z => absurd z (by rw [e20]; exact nI_ge hk (by omega)), fun _ => round_ok m ?_⟩
    rw [nI_add, rnd_nat (by omega) (by omega) (by omega)]
    refine ⟨78, w1, by rw [w2]; exact vp_in_nI (by omega) (by decide), ?_⟩
    rw [nI_clamp (by omega), w3 _ hm]
    exact n_eq ((t0 + k) % N) pin (fun z => st 0 (by rw [if_neg z]; rfl)) (fun z => st (nI u) (by rw [if_pos z, nI_toInt (by omega)]))
  · rintro ⟨e, k', h'⟩ ⟨p1, p2, p3, p4⟩ back
    dsimp only at p1 p2 p3 p4
    subst p2 p3
    exact ⟨72, m.1, in08 m, fun _ => q1 p4, fun z => absurd (by rw [e20]; exact nI_le (Nat.le_refl _) (by omega)) z⟩
theorem isIn_ok {h : PH} {x : Int32} {M : Nat} {b : Int32} {Q : Int32 → PH → Prop} (eb : b = nI M) (hM : M < 2 ^ 31) (q1 : ∀ L, L ≤ M → x = nI L → Q 1 h) (q0 : (∀ L, L ≤ M → x ≠ nI L) → Q 0 h) : wp_X12_isIn x 0 b h Q := by
  subst eb
  refine ⟨fun c => q0 (fun j hj e => nI_pos (n := j) (by omega) (by rw [← e]; exact c)), fun c => ⟨fun c2 => ?_, fun c2 => ?_⟩⟩
  · exact q0 (fun j hj e => by
      rw [e] at c2
      have := (nI_ltI hM (by omega)).mp c2
      omega)
  · obtain ⟨j, hj, e⟩ := nI_of c
    have : j ≤ M := by
      rcases Nat.lt_or_ge M j with z | z
      · exact absurd (by rw [e]; exact nI_lt z hj) c2
      · omega
    exact q1 j this e
theorem op_feeding {h : PH} (i : Inv h) (x y z w : Int32) : wp_X11_feeding 0 x y z w h (fun r h1 => wp_X12_feeding 70 x y z w h1 (Both h r)) := by
  obtain ⟨N, rb, n, Ds, d, e, id⟩ := i.2.2.1
  have sh := i.1
  have hN8 := id.2.2.1.1.2.2.1
  have hN := id.2.2.1.1.2.2.2.1
  have hn := id.2.2.1.2.2.2.1.1
  have hrb := id.2.2.1.2.2.2.1.2.1
  have ok : ∀ k, k < n → okD N (Ds k) := fun k hk => (id.2.2.1.2.2.2.1.2.2 k hk).1
  have nb : ¬ ((1 : Int32) = 0) := by decide
  have bad : ¬ ((∃ a, a < N ∧ x = nI a) ∧ (∃ b, b < N ∧ y = nI b) ∧ (∃ c, c ≤ 100000 ∧ z = nI c) ∧ ∃ l, l ≤ 9999 ∧ w = nI l) → wp_X12_feeding 70 x y z w h (Both h (-2)) := by
    intro no h1 e1
    have f1 : Fg [] [(70, 0)] h h1 := by rw [e1]; exact Fg.sI _ _ _ _
    have done : ∀ h2, Fg [] [(70, 0), (70, 20), (72, 0)] h h2 → DrL h2 N rb n Ds → Both h (-2) (-2) h2 := fun h2 f2 dl => ⟨rfl, i.lay id f2 dl, f2.rm⟩
    refine isTime_ok (id.2.2.1.ag (f1.ag rfl)) (fun h2 f2 dm dl => ⟨fun a ha ea => ⟨fun z => absurd z nb, fun _ => isTime_ok dl (fun h3 f3 dm3 dl3 => ⟨fun b hb eb => ⟨fun z => absurd z nb, fun _ => misPush_ok (fun c hc ec => ⟨fun z => absurd z nb, fun _ => isIn_ok (M := 9999) rfl (by decide) (fun l hl el => absurd ⟨⟨a, ha, ea⟩, ⟨b, hb, eb⟩, ⟨c, hc, ec⟩, l, hl, el⟩ no) (fun _ => ⟨fun z => absurd rfl z, fun _ => done h3 ((f1.tr f2 (U := []) (V := [(70, 0), (70, 20), (72, 0)]) rfl rfl).tr f3 rfl rfl) dl3⟩)⟩) (fun _ => ⟨fun _ => done h3 ((f1.tr f2 (U := []) (V := [(70, 0), (70, 20), (72, 0)]) rfl rfl).tr f3 rfl rfl) dl3, fun z => absurd rfl z⟩)⟩, fun _ => ⟨fun _ => done h3 ((f1.tr f2 (U := []) (V := [(70, 0), (70, 20), (72, 0)]) rfl rfl).tr f3 rfl rfl) dl3, fun z => absurd rfl z⟩⟩)⟩, fun _ => ⟨fun _ => done h2 (f1.tr f2 rfl rfl) dl, fun z => absurd rfl z⟩⟩)
  refine isPlace_ok id (fun a ha ea => ⟨fun z => absurd z nb, fun _ => isPlace_ok id (fun b hb eb => ⟨fun z => absurd z nb, fun _ => isPush_ok (fun c hc ec => ⟨fun z => absurd z nb, fun _ => ⟨fun l0 => bad ?_, fun l0 => ⟨fun l1 => ?_, fun l1 => bad ?_⟩⟩⟩) (fun no => ⟨fun _ => bad (fun q => ?_), fun z => absurd rfl z⟩)⟩) (fun no => ⟨fun _ => bad (fun q => ?_), fun z => absurd rfl z⟩)⟩) (fun no => ⟨fun _ => bad (fun q => ?_), fun z => absurd rfl z⟩)
  · rintro ⟨_, _, _, l, hl, el⟩
    rw [el] at l0
    exact nI_pos (by omega) l0
  · obtain ⟨l, hl, el⟩ := nI_of l0
    rw [el] at l1
    have hl9 : l ≤ 9999 := (nI_leI (b := 9999) hl (by decide)).mp l1
    subst ea eb ec el
    have hF : ∀ t, t < N → -580000 ≤ (fwd N rb n Ds 0 t).toInt ∧ (fwd N rb n Ds 0 t).toInt ≤ 580000 := fun t ht => fwd_bd hN8 hN hn hrb ok ht
    refine ⟨13, sh.R 0 3 13 (by decide), 7, sh.R 0 2 7 (by decide), prepare_g (L := 0) id.2.2.2.1 (by decide) (sh.R 13 0 14 (by decide)) (sh.R 13 1 15 (by decide)) (sh.L 14 (by decide) rfl) (sh.L 15 (by decide) rfl) (fun h1 f1 wc => ⟨13, by rw [f1.R rfl]; exact sh.R 0 3 13 (by decide), lf_ok (wc.wf hN8 hN) ha hb hc hl9 hF (fun r hr => ?_)⟩)⟩
    have mod : ∀ r, lfR (fA (fun t => (fwd N rb n Ds 0 t).toInt) N b c l) (fC N b a) (20 * N) r → wp_X12_feeding 70 (nI a) (nI b) (nI c) (nI l) h1 (Both h r) := by
      intro r fr g0 e0
      have k0 : Fg [14, 15] [(13, 2), (70, 0)] h g0 := by rw [e0]; exact f1.tr (Fg.sI _ _ _ _) rfl rfl
      refine isTime_ok (id.2.2.1.ag (k0.ag rfl)) (fun g1 k1 dm dl => ⟨fun j hj ej => ⟨fun z => absurd z nb, fun _ => ?_⟩, fun no => absurd rfl (no a ha)⟩)
      refine isTime_ok dl (fun g2 k2 dm2 dl2 => ⟨fun j hj ej => ⟨fun z => absurd z nb, fun _ => ?_⟩, fun no => absurd rfl (no b hb)⟩)
      refine misPush_ok (fun p2 hp2 ep2 => ⟨fun z => absurd z nb, fun _ => ?_⟩) (fun no => absurd rfl (no c hc))
      refine isIn_ok (M := 9999) rfl (by decide) (fun p2 hp2 ep2 => ⟨fun _ => ?_, fun z => absurd z nb⟩) (fun no => absurd rfl (no l hl9))
      have k02 : Fg [14, 15] [(13, 2), (70, 0), (70, 20), (72, 0)] h g2 := (k0.tr k1 (U := [14, 15]) (V := [(13, 2), (70, 0), (70, 20), (72, 0)]) rfl rfl).tr k2 rfl rfl
      refine layWorld_ok (L := 0) dl2 (by decide) (by rw [k02.R rfl]; exact sh.R 70 21 78 (by decide)) (by rw [k02.R rfl]; exact sh.R 70 22 79 (by decide)) (by rw [k02.L]; exact sh.L 78 (by decide) rfl) (by rw [k02.L]; exact sh.L 79 (by decide) rfl) (fun g3 k3 dm3 dl3 wm => ?_)
      have k03 : Fg [14, 15, 78, 79] [(13, 2), (70, 0), (70, 20), (72, 0)] h g3 := k02.tr k3 rfl rfl
      have fin : ∀ r2, lfR (fA (fun t => (fwd N rb n Ds 0 t).toInt) N b c l) (fC N b a) (20 * N) r2 → Both h r r2 g3 := fun r2 fr2 => by
        obtain ⟨i0, i1, i2, i3, i4, i5, i6, i7, i8, i9, i10⟩ := i
        exact ⟨frst_uniq fr fr2, ⟨i0.fg k03 rfl, i1.ag (k03.ag rfl), ⟨N, rb, n, Ds, d, e, id.re (k03.ag rfl) dl3⟩, i3.ag (k03.ag rfl), i4.ag (k03.ag rfl), i5.ag (k03.ag rfl), i6.ag (k03.ag rfl), i7.fg k03 rfl, i8.ag (k03.ag rfl), i9.ag (k03.ag rfl), i10.ag (k03.ag rfl)⟩, k03.rm⟩
      generalize hA : fA (fun t => (fwd N rb n Ds 0 t).toInt) N b c l = A at *
      generalize hC : fC N b a = C at *
      refine loopR 999 (fun k s => s = (nI (1 + k), g3) ∧ ∀ u, u < 1 + k → ¬ (1 ≤ u ∧ fOk A C (20 * N) u)) (fun s => s.1.toNatClampNeg - 1) ⟨rfl, fun u hu z => by omega⟩ (fun k s hk p => by rw [p.1, nI_clamp (by omega)]; omega) ?_ ?_
      · rintro k s hk ⟨p, no⟩ back hb2
        subst p
        refine pk_le 1000 (1 + k) (fun z => by omega) (fun _ => isFed_ok (wm.mf dm3.1) ha hb hc hl9 (by omega) hF (fun y => ⟨fun z => absurd z nb, fun _ => fin _ (Or.inl ⟨1 + k, by omega, ⟨by omega, by rw [hA, hC] at y; exact y⟩, no, rfl⟩)⟩) (fun y => ⟨fun _ w ew => hb2 _ ⟨by rw [ew, nI_1, Nat.add_assoc], fun u hu => ?_⟩, fun z => absurd rfl z⟩))
        rcases (show u < 1 + k ∨ u = 1 + k by omega) with t | t
        · exact no u t
        · rw [hA, hC] at y
          rw [t]; exact fun t2 => y t2.2
      · rintro s ⟨p, no⟩ back
        subst p
        exact pk_le 1000 1000 (fun _ => fin _ (Or.inr ⟨no, rfl⟩)) (fun z => by omega)
    exact ⟨fun t => mod r (hr.1 t), fun t => mod (-1) (hr.2 t)⟩
  · rintro ⟨_, _, _, l, hl, el⟩
    exact l1 (by rw [el]; exact nI_le (b := 9999) hl (by decide))
  · obtain ⟨_, _, ⟨c, hc, ec⟩, _⟩ := q
    exact no c hc ec
  · obtain ⟨_, ⟨c, hc, ec⟩, _⟩ := q
    exact no c hc ec
  · obtain ⟨⟨c, hc, ec⟩, _⟩ := q
    exact no c hc ec

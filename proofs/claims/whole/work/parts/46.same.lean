/-! ===== PURE: the call same ===== -/
theorem xor_sgn (x y : Int32) : 0 ≤ x ^^^ y ↔ (x < 0 ↔ y < 0) := by
  rw [Int32.le_iff_toInt_le, Int32.lt_iff_toInt_lt, Int32.lt_iff_toInt_lt]
  have e0 : (0 : Int32).toInt = 0 := rfl
  rw [e0]
  have m : ∀ z : Int32, z.toInt < 0 ↔ z.toBitVec.msb = true := fun z => by
    rw [BitVec.msb_eq_toInt, decide_eq_true_iff]; exact Iff.rfl
  have x1 : (x ^^^ y).toBitVec.msb = (x.toBitVec.msb ^^ y.toBitVec.msb) := by
    rw [Int32.toBitVec_xor, BitVec.msb_xor]
  rw [← Int.not_lt, m, m, m, x1]
  cases x.toBitVec.msb <;> cases y.toBitVec.msb <;> simp
/-- the pin, turned by r -/
def tpin (D : PD) (N r : Nat) : Nat := if dk D = 4 then (dpin D + N - r) % N else (dpin D + r) % N
theorem fmodA {a N : Nat} {h : PH} {Q : Int32 → PH → Prop} (ha : a < 2 ^ 30) (h0 : 0 < N) (hN : N < 2 ^ 30) (q : Q (nI (a % N)) h) : wp_J9_floorMod_7cf53 (nI a) (nI N) h Q := by
  refine ⟨nI_ne0 h0 (by omega), fun v ev => ?_⟩
  rw [pk_rem (by omega) h0 (by omega)] at ev
  subst ev
  have e : 0 ≤ nI a ^^^ nI N := (xor_sgn _ _).mpr ⟨fun z => absurd z (nI_pos (by omega)), fun z => absurd z (nI_pos (by omega))⟩
  exact ⟨fun _ => q, fun z => absurd e z⟩
theorem fmodS {p r N : Nat} {h : PH} {Q : Int32 → PH → Prop} (hp : p < N) (hr : r < N) (hN : N < 2 ^ 20) (q : Q (nI ((p + N - r) % N)) h) : wp_J9_floorMod_7cf53 (nI p - nI r) (nI N) h Q := by
  rcases Nat.lt_or_ge p r with c | c
  · have e1 : (nI p - nI r).toInt = (p : Int) - r := pk_sub_toInt (by omega) (by omega)
    have e2 : (nI N).toInt = (N : Int) := nI_toInt (by omega)
    have e3 : (nI p - nI r) / nI N = 0 := div_small (by rw [e1, e2]; omega) (by rw [e1, e2]; omega)
    have e4 : nI p - nI r + nI N = nI (p + N - r) := by
      apply Int32.toInt_inj.mp
      rw [nI_toInt (by omega), fb_addI (by rw [e1, e2]; omega) (by rw [e1, e2]; omega), e1, e2]
      omega
    have ng : nI p - nI r < 0 := pk_sneg (by omega) c
    refine ⟨nI_ne0 (by omega) (by omega), fun v ev => ?_⟩
    rw [e3, show (0 : Int32) * nI N = 0 from Int32.zero_mul, Int32.sub_zero] at ev
    subst ev
    refine ⟨fun z => absurd (((xor_sgn _ _).mp z).mp ng) (nI_pos (by omega)), fun _ => ⟨fun z => ?_, fun _ => ?_⟩⟩
    · rw [z] at ng; exact absurd ng (by decide)
    · rw [e4]
      rw [Nat.mod_eq_of_lt (by omega)] at q; exact q
  · rw [pk_sub c]
    refine fmodA (by omega) (by omega) (by omega) ?_
    rw [show p + N - r = p - r + N by omega, Nat.add_mod_right] at q
    exact q
def sameN (D E : PD) : Prop := dk D = dk E ∧ dw D = dw E ∧ darm D = darm E ∧ dout D = dout E ∧ dat D = dat E ∧ drg D = drg E ∧ dlo D = dlo E ∧ dhi D = dhi E
theorem sameN_m {N : Nat} {D E : PD} (hN : N ≤ 48) (o : okD N D) (p : okD N E) : sameN D E ↔ ∀ i, i < 8 → i ≠ 1 → mRow D i = mRow E i := by
  obtain ⟨o1, o2, o3, o4, o5, o6, o7, o8, o9, o10, o11, o12, o13, o14⟩ := o
  obtain ⟨p1, p2, p3, p4, p5, p6, p7, p8, p9, p10, p11, p12, p13, p14⟩ := p
  constructor
  · rintro ⟨a, b, c, d, e, f, g, k⟩ i hi h1
    rcases (show i = 0 ∨ i = 2 ∨ i = 3 ∨ i = 4 ∨ i = 5 ∨ i = 6 ∨ i = 7 by omega) with z | z | z | z | z | z | z <;> subst z
    · show nI (dk D) = nI (dk E); rw [a]
    · show nI (dw D) = nI (dw E); rw [b]
    · show (if dk D = 0 then nI (darm D) else -1) = if dk E = 0 then nI (darm E) else -1; rw [a, c]
    · show (if dk D = 0 ∧ drg D = true then nI (dout D) else -1) = if dk E = 0 ∧ drg E = true then nI (dout E) else -1; rw [a, f, d]
    · show (if drg D = true then nI (dlo D) else -1) = if drg E = true then nI (dlo E) else -1; rw [f, g]
    · show (if drg D = true then nI (dhi D) else -1) = if drg E = true then nI (dhi E) else -1; rw [f, k]
    · show (if dk D = 2 then nI (dat D) else -1) = if dk E = 2 then nI (dat E) else -1; rw [a, e]
  · intro m
    have m0 : nI (dk D) = nI (dk E) := m 0 (by decide) (by decide)
    have m2 : nI (dw D) = nI (dw E) := m 2 (by decide) (by decide)
    have m3 : (if dk D = 0 then nI (darm D) else -1) = if dk E = 0 then nI (darm E) else -1 := m 3 (by decide) (by decide)
    have m4 : (if dk D = 0 ∧ drg D = true then nI (dout D) else -1) = if dk E = 0 ∧ drg E = true then nI (dout E) else -1 := m 4 (by decide) (by decide)
    have m5 : (if drg D = true then nI (dlo D) else -1) = if drg E = true then nI (dlo E) else -1 := m 5 (by decide) (by decide)
    have m6 : (if drg D = true then nI (dhi D) else -1) = if drg E = true then nI (dhi E) else -1 := m 6 (by decide) (by decide)
    have m7 : (if dk D = 2 then nI (dat D) else -1) = if dk E = 2 then nI (dat E) else -1 := m 7 (by decide) (by decide)
    have a := nI_inj (by omega) (by omega) m0
    have b := nI_inj (by omega) (by omega) m2
    have f : drg D = drg E := by
      cases hd : drg D with
      | true =>
        cases he : drg E with
        | true => rfl
        | false =>
          rw [hd, he, if_pos rfl, if_neg (by decide)] at m5
          exact absurd m5 (nI_m1 (by omega))
      | false =>
        cases he : drg E with
        | false => rfl
        | true =>
          rw [hd, he, if_pos rfl, if_neg (by decide)] at m5
          exact absurd m5.symm (nI_m1 (by omega))
    rw [← a, ← f] at m4
    rw [← f] at m5 m6
    rw [← a] at m3 m7
    have hout : dout D = dout E := by
      by_cases z : dk D = 0 ∧ drg D = true
      · rw [if_pos z, if_pos z] at m4
        exact nI_inj (by omega) (by omega) m4
      · by_cases y : dk D = 0
        · have y2 : drg D = false := by
            cases hd : drg D with
            | false => rfl
            | true => exact absurd ⟨y, hd⟩ z
          rw [(o12 y2).1, (p12 (by rw [← f]; exact y2)).1]
        · rw [(o10 y).2, (p10 (by rw [← a]; exact y)).2]
    refine ⟨a, b, ?_, hout, ?_, f, ?_, ?_⟩
    · by_cases y : dk D = 0
      · rw [if_pos y, if_pos y] at m3
        exact nI_inj (by omega) (by omega) m3
      · rw [(o10 y).1, (p10 (by rw [← a]; exact y)).1]
    · by_cases y : dk D = 2
      · rw [if_pos y, if_pos y] at m7
        exact nI_inj (by omega) (by omega) m7
      · rw [o11 y, p11 (by rw [← a]; exact y)]
    · cases hd : drg D with
      | true =>
        rw [if_pos hd, if_pos hd] at m5
        exact nI_inj (by omega) (by omega) m5
      | false => rw [(o12 hd).2.1, (p12 (by rw [← f]; exact hd)).2.1]
    · cases hd : drg D with
      | true =>
        rw [if_pos hd, if_pos hd] at m6
        exact nI_inj (by omega) (by omega) m6
      | false => rw [(o12 hd).2.2, (p12 (by rw [← f]; exact hd)).2.2]
noncomputable def likeB (N r : Nat) (D E : PD) : Bool := @decide (sameN D E ∧ tpin D N r = dpin E) (Classical.propDecidable _)
theorem likeB_iff (N r : Nat) (D E : PD) : likeB N r D E = true ↔ (sameN D E ∧ tpin D N r = dpin E) := by
  unfold likeB
  exact @decide_eq_true_iff _ (Classical.propDecidable _)
theorem likeB_no {N r : Nat} {D E : PD} (h : ¬ (sameN D E ∧ tpin D N r = dpin E)) : likeB N r D E = false := by
  cases z : likeB N r D E with
  | false => rfl
  | true => exact absurd ((likeB_iff N r D E).mp z) h
theorem cturn_ok {h : PH} {a b N r : Nat} {D E : PD} {Q : Int32 → PH → Prop} (h8 : 8 ≤ N) (hN : N ≤ 48) (hr : r < N) (o : okD N D) (p : okD N E) (e : rowE (qI h a) D) (g : rowE (qI h b) E) (q : Q (b2i (likeB N r D E)) h) : wp_X4_isTurned a b (nI r) (nI N) h Q := by
  have no : ¬ (sameN D E ∧ tpin D N r = dpin E) → Q 0 h := fun z => by rw [likeB_no z] at q; exact q
  have yes : (sameN D E ∧ tpin D N r = dpin E) → Q 1 h := fun z => by rw [(likeB_iff N r D E).mpr z] at q; exact q
  obtain ⟨o1, o2, o3, o4, o5, o6, o7, o8, o9, _⟩ := o
  obtain ⟨p1, p2, p3, p4, p5, p6, p7, p8, p9, _⟩ := p
  have e2 : qI h a 2 = nI (dpin D) := e 2 (by decide) (by decide)
  have g2 : qI h b 2 = nI (dpin E) := g 2 (by decide) (by decide)
  have key : ∀ s0, (sameN D E → ∀ Q : Int32 → PH → Prop, Q (nI (tpin D N r)) h → wp_J9_floorMod_7cf53 s0 (nI N) h Q) → wp_X4_isTurned_23 a b (nI N) s0 h Q := by
    intro s0 fm
    refine n_eq (dk D) (dk E) (fun z => no (fun s => z s.1.1)) (fun z0 => n_eq (dw D) (dw E) (fun z => no (fun s => z s.1.2.1)) (fun z1 => n_eq (darm D) (darm E) (fun z => no (fun s => z s.1.2.2.1)) (fun z2 => n_eq (dout D) (dout E) (fun z => no (fun s => z s.1.2.2.2.1)) (fun z3 => n_eq (dat D) (dat E) (fun z => no (fun s => z s.1.2.2.2.2.1)) (fun z4 => ⟨fun z => no (fun s => z ?_), fun z5 => n_eq (dlo D) (dlo E) (fun z => no (fun s => z s.1.2.2.2.2.2.2.1)) (fun z6 => n_eq (dhi D) (dhi E) (fun z => no (fun s => z s.1.2.2.2.2.2.2.2)) (fun z7 => max_ok ?_) (e 9 (by decide) (by decide)) (g 9 (by decide) (by decide))) (e 8 (by decide) (by decide)) (g 8 (by decide) (by decide))⟩) (e 6 (by decide) (by decide)) (g 6 (by decide) (by decide))) (e 5 (by decide) (by decide)) (g 5 (by decide) (by decide))) (e 4 (by decide) (by decide)) (g 4 (by decide) (by decide))) (e 3 (by decide) (by decide)) (g 3 (by decide) (by decide))) (e 0 (by decide) (by decide)) (g 0 (by decide) (by decide))
    · rw [e 7 (by decide) (by decide), g 7 (by decide) (by decide)]
      show b2i (drg D) = b2i (drg E)
      rw [s.1.2.2.2.2.2.1]
    · have sm : sameN D E := ⟨z0, z1, z2, z3, z4, by
        rw [e 7 (by decide) (by decide), g 7 (by decide) (by decide)] at z5
        exact (b2i_eq _ _).mp z5, z6, z7⟩
      have e1 : qmax 1 (nI N) = nI N := by
        unfold qmax
        exact if_pos (nI_lt (a := 1) (b := N) (by omega) (by omega))
      rw [e1]
      have ht : tpin D N r < N := by
        unfold tpin
        split <;> exact Nat.mod_lt _ (by omega)
      exact fm sm _ (n_eq (tpin D N r) (dpin E) (fun z => no (fun s => z s.2)) (fun z => yes ⟨sm, z⟩) rfl g2)
  refine n_eq (dk D) 4 (fun z => key _ (fun _ Q q => ?_)) (fun z => key _ (fun _ Q q => ?_)) (e 0 (by decide) (by decide))
  · rw [e2, nI_add]
    unfold tpin at q
    rw [if_neg z] at q
    exact fmodA (by omega) (by omega) (by omega) q
  · rw [e2]
    unfold tpin at q
    rw [if_pos z] at q
    exact fmodS o2 hr (by omega) q
theorem slotg_at {h : PH} {d k i : Nat} (hd : d < 8) (hk : k < 12) (hi : i < 8) {c : Int32} (hc : c = nI i) : qI h 75 (nI (96 * d + 8 * k) + c).toNatClampNeg = mrow h d k i := by
  rw [hc, nI_add, nI_clamp (by omega)]
  rfl
theorem mlike_ok {h : PH} {N i r d j : Nat} {D E : PD} {Q : Int32 → PH → Prop} (m : Mo h N) (hi : i < 12) (hd : d < 8) (hj : j < 12) (hr : r < N) (o : okD N D) (p : okD N E) (e : rowM (mrow h 0 i) D) (g : rowM (mrow h d j) E) (q : Q (b2i (likeB N r D E)) h) : wp_X12_isLike 70 (nI i) (nI r) (nI d) (nI j) h Q := by
  have hN := m.2.2.2.2.1
  have no : ¬ (sameN D E ∧ tpin D N r = dpin E) → Q 0 h := fun z => by rw [likeB_no z] at q; exact q
  have yes : (sameN D E ∧ tpin D N r = dpin E) → Q 1 h := fun z => by rw [(likeB_iff N r D E).mpr z] at q; exact q
  have o1 := o.1
  have o2 := o.2.1
  have p2 := p.2.1
  have r17 := m.2.2.2.2.2.1
  have L75 := m.2.2.2.2.2.2
  show wp_X12_slot 0 (nI i) h _
  unfold wp_X12_slot
  rw [slot0_n]
  rw [slot_n]
  have a1 : qI h 75 (nI (8 * i) + 1).toNatClampNeg = nI (dpin D) := (slot_at hi (i := 1) (by decide) rfl).trans (e 1 (by decide))
  have a0 : qI h 75 (nI (8 * i) + 0).toNatClampNeg = nI (dk D) := (slot_at hi (i := 0) (by decide) rfl).trans (e 0 (by decide))
  have b1 : qI h 75 (nI (96 * d + 8 * j) + 1).toNatClampNeg = nI (dpin E) := (slotg_at hd hj (i := 1) (by decide) rfl).trans (g 1 (by decide))
  have key : ∀ s0, rnd (nI (dpin D) + s0) (nI N) = nI (tpin D N r) → wp_X12_isLike_44 70 (nI (8 * i)) (nI (96 * d + 8 * j)) s0 (nI (dpin D)) 70 h Q := by
    intro s0 es
    refine round_ok m ⟨75, r17, by rw [L75, show (1 : Int32) = nI 1 from rfl, nI_add]; exact vp_in_nI (by omega) (by omega), ?_⟩
    rw [es]
    have ht : tpin D N r < N := by
      unfold tpin
      split <;> exact Nat.mod_lt _ (by omega)
    refine pk_eq (tpin D N r) (dpin E) (fun z => ?_) (fun z => no (fun s => z s.2)) rfl b1
    refine loopR 8 (fun k s => s = (nI k, h) ∧ ∀ l, l < k → l ≠ 1 → mRow D l = mRow E l) (fun s => s.1.toNatClampNeg) ⟨rfl, fun l hl => absurd hl (Nat.not_lt_zero l)⟩ (fun k s hk p => by rw [p.1]; exact nI_clamp (by omega)) ?_ ?_
    · rintro k s hk ⟨ps, ih⟩ back hb
      subst ps
      refine pk_le 8 k (fun z => by omega) (fun _ => pk_eq k 1 (fun c w ew => hb _ ⟨by rw [ew, nI_1], fun l hl h1 => ih l (by omega) h1⟩) (fun c => ⟨75, r17, by rw [L75, nI_add]; exact vp_in_nI (by omega) (by omega), 75, r17, by rw [L75, nI_add]; exact vp_in_nI (by omega) (by omega), ?_⟩))
      rw [slot_at hi hk rfl, slotg_at hd hj hk rfl, e k hk, g k hk]
      refine ⟨fun y w ew => hb _ ⟨by rw [ew, nI_1], fun l hl h1 => ?_⟩, fun y => no (fun s => y ((sameN_m hN o p).mp s.1 k hk c))⟩
      rcases (show l < k ∨ l = k by omega) with x | x
      · exact ih l x h1
      · rw [x]; exact y
    · rintro s ⟨ps, ih⟩ back
      subst ps
      exact pk_le 8 8 (fun _ => yes ⟨(sameN_m hN o p).mpr ih, z⟩) (fun z => by omega)
  refine ⟨75, r17, slot_in m hi (i := 1) (by decide) rfl, 75, r17, slot_in m hi (i := 0) (by decide) rfl, ?_⟩
  rw [a1]
  refine n_eq (dk D) 4 (fun z => key _ ?_) (fun z => key _ ?_) a0
  · unfold tpin
    rw [if_neg z, nI_add, rnd_nat (by omega) (by omega) (by omega)]
  · unfold tpin
    rw [if_pos z, ← Int32.sub_eq_add_neg, rnd_sub o2 hr (by omega)]
/-! partners one behind the other -/
def fj (p : Nat → Bool) : Nat → Nat
  | 0 => 0
  | n + 1 => if fj p n < n then fj p n else if p n = true then n else n + 1
theorem fj_spec (p : Nat → Bool) : ∀ n, fj p n ≤ n ∧ (∀ j, j < fj p n → p j = false) ∧ (fj p n < n → p (fj p n) = true)
  | 0 => ⟨Nat.le_refl 0, fun j hj => absurd hj (Nat.not_lt_zero j), fun h => absurd h (Nat.not_lt_zero _)⟩
  | n + 1 => by
    obtain ⟨a, b, c⟩ := fj_spec p n
    unfold fj
    by_cases z : fj p n < n
    · rw [if_pos z]; exact ⟨by omega, b, fun _ => c z⟩
    · rw [if_neg z]
      have e : fj p n = n := by omega
      rw [e] at b
      by_cases y : p n = true
      · rw [if_pos y]; exact ⟨by omega, b, fun _ => y⟩
      · rw [if_neg y]
        refine ⟨by omega, fun j hj => ?_, fun h => by omega⟩
        rcases (show j < n ∨ j = n by omega) with x | x
        · exact b j x
        · rw [x]; exact Bool.eq_false_iff.mpr y
theorem fj_uniq {p : Nat → Bool} {n j : Nat} (h1 : j ≤ n) (h2 : ∀ i, i < j → p i = false) (h3 : j < n → p j = true) : j = fj p n := by
  obtain ⟨a, b, c⟩ := fj_spec p n
  rcases Nat.lt_trichotomy j (fj p n) with z | z | z
  · have := b j z
    rw [h3 (by omega)] at this; cases this
  · exact z
  · have := h2 _ z
    rw [c (by omega)] at this; cases this
def frB (L : Nat → Nat → Bool) (s i j : Nat) : Bool := decide (s / 2 ^ j % 2 = 0) && L i j
def gU (n : Nat) (L : Nat → Nat → Bool) : Nat → Nat
  | 0 => 0
  | i + 1 => if fj (frB L (gU n L i) i) n < n then gU n L i + 2 ^ fj (frB L (gU n L i) i) n else gU n L i
def gM (n : Nat) (L : Nat → Nat → Bool) (i : Nat) : Bool := decide (fj (frB L (gU n L i) i) n < n)
theorem pc_set : ∀ k x j, j < k → x / 2 ^ j % 2 = 0 → pcN k (x + 2 ^ j) = pcN k x + 1
  | 0, _, _, h, _ => absurd h (Nat.not_lt_zero _)
  | k + 1, x, 0, _, h => by
    show (x + 1) % 2 + pcN k ((x + 1) / 2) = x % 2 + pcN k (x / 2) + 1
    rw [Nat.pow_zero, Nat.div_one] at h
    rw [show (x + 1) / 2 = x / 2 by omega]
    omega
  | k + 1, x, j + 1, hj, h => by
    show (x + 2 ^ (j + 1)) % 2 + pcN k ((x + 2 ^ (j + 1)) / 2) = x % 2 + pcN k (x / 2) + 1
    have e : 2 ^ (j + 1) = 2 * 2 ^ j := Nat.pow_succ'
    rw [e] at h ⊢
    rw [show (x + 2 * 2 ^ j) / 2 = x / 2 + 2 ^ j by omega, pc_set k (x / 2) j (by omega) (by rw [Nat.div_div_eq_div_mul]; exact h)]
    omega
theorem bit_add_lt {n s j : Nat} (hs : s < 2 ^ n) (hj : j < n) (hb : s / 2 ^ j % 2 = 0) : s + 2 ^ j < 2 ^ n := by
  have hp : 0 < 2 ^ j := Nat.pow_pos (by decide)
  obtain ⟨m, em⟩ : ∃ m, n = j + 1 + m := ⟨n - (j + 1), by omega⟩
  have e2 : 2 ^ n = 2 ^ j * (2 * 2 ^ m) := by rw [em, Nat.pow_add, Nat.pow_succ, Nat.mul_assoc]
  have q1 : s / 2 ^ j < 2 * 2 ^ m := by
    rw [Nat.div_lt_iff_lt_mul hp, Nat.mul_comm, ← e2]; exact hs
  have q2 : s / 2 ^ j + 1 < 2 * 2 ^ m := by omega
  have q3 : (s + 2 ^ j) / 2 ^ j = s / 2 ^ j + 1 := Nat.add_div_right _ hp
  rw [e2, Nat.mul_comm, ← Nat.div_lt_iff_lt_mul hp, q3]
  exact q2
theorem frB_t {L : Nat → Nat → Bool} {s i j : Nat} (h : frB L s i j = true) : s / 2 ^ j % 2 = 0 ∧ L i j = true := by
  unfold frB at h
  rw [Bool.and_eq_true, decide_eq_true_iff] at h
  exact h
theorem gU_lt {n : Nat} {L : Nat → Nat → Bool} : ∀ i, gU n L i < 2 ^ n
  | 0 => Nat.pow_pos (by decide)
  | i + 1 => by
    have ih := gU_lt (n := n) (L := L) i
    unfold gU
    split
    · rename_i z
      exact bit_add_lt ih z (frB_t ((fj_spec _ n).2.2 z)).1
    · exact ih
theorem pow12 {n : Nat} (h : n ≤ 12) : 2 ^ n ≤ 4096 := by
  have := Nat.pow_le_pow_right (n := 2) (by decide) h
  exact this
theorem gU_pc {n : Nat} {L : Nat → Nat → Bool} (hn : n ≤ 12) : ∀ i, pcN 12 (gU n L i) = cn (gM n L) i
  | 0 => by unfold gU cn; exact pcN_0 12
  | i + 1 => by
    have ih := gU_pc (L := L) hn i
    show pcN 12 (if fj (frB L (gU n L i) i) n < n then gU n L i + 2 ^ fj (frB L (gU n L i) i) n else gU n L i) = cn (gM n L) i + (if gM n L i = true then 1 else 0)
    unfold gM
    by_cases z : fj (frB L (gU n L i) i) n < n
    · rw [if_pos z, decide_eq_true z, if_pos rfl, pc_set 12 _ _ (by omega) (frB_t ((fj_spec _ n).2.2 z)).1, ih]; rfl
    · rw [if_neg z, decide_eq_false z, if_neg (by decide), ih]; rfl
theorem cn_full {c : Nat → Bool} : ∀ k, cn c k = k ↔ ∀ i, i < k → c i = true
  | 0 => ⟨fun _ i hi => absurd hi (Nat.not_lt_zero i), fun _ => rfl⟩
  | k + 1 => by
    have ih := cn_full (c := c) k
    have le := cn_le c k
    show cn c k + (if c k = true then 1 else 0) = k + 1 ↔ _
    constructor
    · intro h i hi
      by_cases z : c k = true
      · rw [if_pos z] at h
        rcases (show i < k ∨ i = k by omega) with y | y
        · exact ih.mp (by omega) i y
        · rw [y]; exact z
      · rw [if_neg z] at h; omega
    · intro h
      rw [if_pos (h k (by omega)), ih.mpr (fun i hi => h i (by omega))]
theorem bitS {s j : Nat} (hs : s < 4096) (hj : j < 12) : (q_ushr (nI s) (nI j) &&& 1 = 0 ↔ s / 2 ^ j % 2 = 0) ∧ ((nI s >>> (nI j &&& 31)) &&& 1 = 1 ↔ ¬ s / 2 ^ j % 2 = 0) := by
  refine ⟨by rw [bit_of (by omega), qU_nI (by omega)], ?_⟩
  have sm : ∀ j, j < 12 → ((nI j &&& 31).toBitVec.smod 32).toNat = j := by decide +kernel
  rw [pk_shrN (by omega) (nI j &&& 31) j (sm j hj)]
  have lt : s / 2 ^ j < 4096 := Nat.lt_of_le_of_lt (Nat.div_le_self _ _) hs
  rw [show (1 : Int32) = nI (2 ^ 1 - 1) from rfl, nI_and (by omega) (by decide), Nat.and_two_pow_sub_one_eq_mod, nI_eq (by omega) (by decide)]
  omega
theorem orS {s j : Nat} (hs : s < 4096) (hj : j < 12) (hb : s / 2 ^ j % 2 = 0) : nI s ||| (1 <<< (nI j &&& 31)) = nI (s + 2 ^ j) := by
  have lt := bit_add_lt (n := 12) hs hj hb
  apply qU_inj
  rw [qU_or, one_shl j (by omega), qU_nI (by omega), qU_nI (by omega)]
  apply Nat.eq_of_testBit_eq
  intro i
  rw [Nat.testBit_or, Nat.testBit_two_pow]
  have hp : 0 < 2 ^ j := Nat.pow_pos (by decide)
  have tb : s.testBit j = false := by
    rw [Nat.testBit_eq_decide_div_mod_eq, hb]; rfl
  have := Nat.testBit_two_pow_add_eq s j
  by_cases e : j = i
  · subst e
    rw [Nat.add_comm s, this, tb]; simp
  · have d : s + 2 ^ j = s ||| 2 ^ j := by
      rw [show s + 2 ^ j = s % 2 ^ j + 2 ^ j * (s / 2 ^ j + 1) by
        have := Nat.div_add_mod s (2 ^ j)
        rw [Nat.mul_add, Nat.mul_one]; omega]
      apply Nat.eq_of_testBit_eq
      intro k
      rw [Nat.add_comm, Nat.testBit_two_pow_mul_add _ (Nat.mod_lt _ hp), Nat.testBit_or, Nat.testBit_two_pow]
      by_cases c : k < j
      · rw [if_pos c, Nat.testBit_mod_two_pow, decide_eq_true c]
        simp
        omega
      · rw [if_neg c]
        obtain ⟨m, em⟩ : ∃ m, k = j + m := ⟨k - j, by omega⟩
        subst em
        rw [Nat.add_sub_cancel_left, Nat.testBit_eq_decide_div_mod_eq, Nat.testBit_eq_decide_div_mod_eq, Nat.pow_add, ← Nat.div_div_eq_div_mul]
        generalize s / 2 ^ j = u at *
        cases m with
        | zero =>
          rw [Nat.pow_zero, Nat.div_one, Nat.div_one, Nat.add_zero]
          simp
          omega
        | succ m =>
          rw [Nat.pow_succ', ← Nat.div_div_eq_div_mul, ← Nat.div_div_eq_div_mul, show (u + 1) / 2 = u / 2 by omega]
          simp
    rw [d, Nat.testBit_or, Nat.testBit_two_pow]
/-- two drawings of the class beside one another -/
def TwoC (h : PH) (d B N n : Nat) (Ds Es : Nat → PD) : Prop := (qI h d 1 = nI n ∧ qI h d 2 = nI N ∧ 8 ≤ N ∧ N ≤ 48 ∧ n ≤ 12) ∧ (qR h d 0 = some (d + 1) ∧ qL h (d + 1) = 12 ∧ ∀ j, j < 12 → qR h (d + 1) j = some (d + 2 + j)) ∧ (qR h B 0 = some (B + 1) ∧ qL h (B + 1) = 12 ∧ ∀ j, j < 12 → qR h (B + 1) j = some (B + 2 + j)) ∧ ∀ k, k < n → (okD N (Ds k) ∧ rowE (qI h (d + 2 + k)) (Ds k)) ∧ okD N (Es k) ∧ rowE (qI h (B + 2 + k)) (Es k)
theorem freeP_ok {h : PH} {d B N n r s i : Nat} {Ds Es : Nat → PD} {Q : Int32 → PH → Prop} (t : TwoC h d B N n Ds Es) (hr : r < N) (hs : s < 4096) (hi : i < n) (q : Q (if fj (frB (fun i j => likeB N r (Ds i) (Es j)) s i) n < n then nI (fj (frB (fun i j => likeB N r (Ds i) (Es j)) s i) n) else -1) h) : wp_X1_freePartner d (d + 2 + i) B (nI r) (nI s) h Q := by
  obtain ⟨⟨t1, t2, t3, t4, t5⟩, _, ⟨b0, b1, b2⟩, rows⟩ := t
  generalize hp : frB (fun i j => likeB N r (Ds i) (Es j)) s i = p at *
  have pj : ∀ j, p j = (decide (s / 2 ^ j % 2 = 0) && likeB N r (Ds i) (Es j)) := fun j => by rw [← hp]; rfl
  refine loopR n (fun j st => st = (nI j, h) ∧ ∀ k, k < j → p k = false) (fun st => st.1.toNatClampNeg) ⟨rfl, fun k hk => absurd hk (Nat.not_lt_zero k)⟩ (fun j st hj ps => by rw [ps.1]; exact nI_clamp (by omega)) ?_ ?_
  · rintro j st hj ⟨ps, ih⟩ back hb
    subst ps
    have more : p j = false → ∀ w, w = nI j + 1 → back (w, h) := fun z w ew => hb _ ⟨by rw [ew, nI_1], fun k hk => by
      rcases (show k < j ∨ k = j by omega) with y | y
      · exact ih k y
      · rw [y]; exact z⟩
    have bt := (bitS hs (show j < 12 by omega)).1
    refine ⟨fun z => absurd z (by rw [t1]; exact nI_ge hj (by omega)), fun _ => ⟨fun z => more ?_, fun z => ⟨B + 1, b0, by rw [b1]; exact vp_in_nI (by omega) (by decide), B + 2 + j, by rw [nI_clamp (by omega)]; exact b2 j (by omega), ?_⟩⟩⟩
    · rw [pj, decide_eq_false (fun y => z (bt.mpr y))]; rfl
    · rw [t2]
      refine cturn_ok t3 t4 hr (rows i hi).1.1 (rows j hj).2.1 (rows i hi).1.2 (rows j hj).2.2 ⟨fun y => more ?_, fun y => ?_⟩
      · rw [pj, (b2i_0 _).mp y, Bool.and_false]
      · have e : j = fj p n := fj_uniq (by omega) ih (fun _ => by rw [pj, decide_eq_true (bt.mp z), b2i_t y]; rfl)
        rw [← e, if_pos hj] at q; exact q
  · rintro st ⟨ps, ih⟩ back
    subst ps
    refine ⟨fun _ => ?_, fun z => absurd (by rw [t1]; exact nI_le (Nat.le_refl n) (by omega)) z⟩
    have e : n = fj p n := fj_uniq (Nat.le_refl n) ih (fun z => absurd z (Nat.lt_irrefl n))
    rw [← e, if_neg (Nat.lt_irrefl n)] at q; exact q
theorem isTd_ok {h : PH} {d B N n r : Nat} {Ds Es : Nat → PD} {Q : Int32 → PH → Prop} (t : TwoC h d B N n Ds Es) (hr : r < N) (q1 : (∀ i, i < n → gM n (fun i j => likeB N r (Ds i) (Es j)) i = true) → Q 1 h) (q0 : (¬ ∀ i, i < n → gM n (fun i j => likeB N r (Ds i) (Es j)) i = true) → Q 0 h) : wp_X1_isTurned d B (nI r) h Q := by
  have t' := t
  obtain ⟨⟨t1, t2, t3, t4, t5⟩, ⟨d0, d1, d2⟩, ⟨b0, b1, b2⟩, rows⟩ := t
  have lt : ∀ i, gU n (fun i j => likeB N r (Ds i) (Es j)) i < 4096 := fun i => Nat.lt_of_lt_of_le (gU_lt i) (pow12 t5)
  refine loopR n (fun i st => st = (nI (gU n (fun i j => likeB N r (Ds i) (Es j)) i), nI i, h) ∧ ∀ k, k < i → gM n (fun i j => likeB N r (Ds i) (Es j)) k = true) (fun st => st.2.1.toNatClampNeg) ⟨rfl, fun k hk => absurd hk (Nat.not_lt_zero k)⟩ (fun j st hj ps => by rw [ps.1]; exact nI_clamp (by omega)) ?_ ?_
  · rintro i st hi ⟨ps, ih⟩ back hb
    subst ps
    have li := lt i
    refine ⟨fun z => absurd z (by rw [t1]; exact nI_ge hi (by omega)), fun _ => ⟨d + 1, d0, by rw [d1]; exact vp_in_nI (by omega) (by decide), d + 2 + i, by rw [nI_clamp (by omega)]; exact d2 i (by omega), freeP_ok t' hr li hi ?_⟩⟩
    by_cases z : fj (frB (fun i j => likeB N r (Ds i) (Es j)) (gU n (fun i j => likeB N r (Ds i) (Es j)) i) i) n < n
    · rw [if_pos z]
      refine ⟨fun _ u eu w ew => hb _ ⟨?_, fun k hk => ?_⟩, fun y => absurd y (nI_m1 (by omega))⟩
      · rw [eu, ew, nI_1, orS li (by omega) (frB_t ((fj_spec _ n).2.2 z)).1]
        show _ = (nI (if _ then _ else _), _, _)
        rw [if_pos z]
      · rcases (show k < i ∨ k = i by omega) with y | y
        · exact ih k y
        · rw [y]; unfold gM; exact decide_eq_true z
    · rw [if_neg z]
      refine ⟨fun y => absurd rfl y, fun _ => q0 (fun y => ?_)⟩
      have := y i hi
      unfold gM at this
      exact z (of_decide_eq_true this)
  · rintro st ⟨ps, ih⟩ back
    subst ps
    exact ⟨fun _ => q1 ih, fun z => absurd (by rw [t1]; exact nI_le (Nat.le_refl n) (by omega)) z⟩
def sameP (N n : Nat) (Ds Es : Nat → PD) (r : Nat) : Prop := ∀ i, i < n → gM n (fun i j => likeB N r (Ds i) (Es j)) i = true
theorem turnTo_ok {h : PH} {d B N n : Nat} {Ds Es : Nat → PD} {Q : Int32 → PH → Prop} (t : TwoC h d B N n Ds Es) (q : ∀ r, frst (sameP N n Ds Es) N r → Q r h) : qLoop (wp_X1_turnTo_37 d B Q) (0, h) := by
  have t' := t
  obtain ⟨⟨t1, t2, t3, t4, t5⟩, _⟩ := t
  refine loopR N (fun r st => st = (nI r, h) ∧ ∀ k, k < r → ¬ sameP N n Ds Es k) (fun st => st.1.toNatClampNeg) ⟨rfl, fun k hk => absurd hk (Nat.not_lt_zero k)⟩ (fun j st hj ps => by rw [ps.1]; exact nI_clamp (by omega)) ?_ ?_
  · rintro r st hr ⟨ps, ih⟩ back hb
    subst ps
    refine ⟨fun z => absurd z (by rw [t2]; exact nI_ge hr (by omega)), fun _ => isTd_ok t' hr (fun y => ⟨fun z => absurd z (by decide), fun _ => q _ (Or.inl ⟨r, hr, y, ih, rfl⟩)⟩) (fun y => ⟨fun _ w ew => hb _ ⟨by rw [ew, nI_1], fun k hk => ?_⟩, fun z => absurd rfl z⟩)⟩
    rcases (show k < r ∨ k = r by omega) with x | x
    · exact ih k x
    · rw [x]; exact y
  · rintro st ⟨ps, ih⟩ back
    subst ps
    exact ⟨fun _ => q _ (Or.inr ⟨ih, rfl⟩), fun z => absurd (by rw [t2]; exact nI_le (Nat.le_refl N) (by omega)) z⟩
/-- the model's two drawings -/
def TwoM (h : PH) (d N rb n : Nat) (Ds Es : Nat → PD) : Prop := DrM h N rb n Ds ∧ d < 8 ∧ qI h 74 d = nI n ∧ ∀ k, k < n → okD N (Es k) ∧ rowM (mrow h d k) (Es k)
theorem msame_ok {h : PH} {d N rb n : Nat} {Ds Es : Nat → PD} {Q : Int32 → PH → Prop} (t : TwoM h d N rb n Ds Es) (q : ∀ r, frst (sameP N n Ds Es) N r → Q r h) : qLoop (wp_X12_same_83 70 (nI d) Q) (0, h) := by
  obtain ⟨dm, hd, e74, rows⟩ := t
  have m := dm.1
  have hN := m.2.2.2.2.1
  have hn := dm.2.2.2.1
  have r16 := dm.2.2.1.1
  have l74 := dm.2.2.1.2.1
  have eN : qI h 72 (0 : Int32).toNatClampNeg = nI N := by rw [c0_n]; exact m.2.2.1
  have en : qI h 74 (0 : Int32).toNatClampNeg = nI n := by rw [c0_n]; exact dm.2.2.1.2.2
  have ed : qI h 74 (nI d).toNatClampNeg = nI n := by rw [nI_clamp (by omega)]; exact e74
  have id74 : vp_in (nI d) (qL h 74) := by rw [l74]; exact vp_in_nI hd (by decide)
  have i074 : vp_in 0 (qL h 74) := in0 l74 (by decide) (by decide)
  refine loopR N (fun r st => st = (nI r, h) ∧ ∀ k, k < r → ¬ sameP N n Ds Es k) (fun st => st.1.toNatClampNeg) ⟨rfl, fun k hk => absurd hk (Nat.not_lt_zero k)⟩ (fun j st hj ps => by rw [ps.1]; exact nI_clamp (by omega)) ?_ ?_
  · rintro r st hr ⟨ps, ih⟩ back hb
    subst ps
    refine ⟨72, m.1, in08 m, fun z => absurd z (by rw [eN]; exact nI_ge hr (by omega)), fun _ => ?_⟩
    generalize hL : (fun i j => likeB N r (Ds i) (Es j)) = L at *
    have Lij : ∀ i j, L i j = likeB N r (Ds i) (Es j) := fun i j => by rw [← hL]
    have sP : sameP N n Ds Es r ↔ ∀ i, i < n → gM n L i = true := by unfold sameP; rw [hL]
    have lt : ∀ i, gU n L i < 4096 := fun i => Nat.lt_of_lt_of_le (gU_lt i) (pow12 hn)
    refine loopR n (fun i st => st = (nI (gU n L i), nI i, h)) (fun st => st.2.1.toNatClampNeg) rfl (fun j st hj ps => by rw [ps]; exact nI_clamp (by omega)) ?_ ?_
    · rintro i st hi ps back2 hb2
      subst ps
      have li := lt i
      refine ⟨74, r16, i074, fun z => absurd z (by rw [en]; exact nI_ge hi (by omega)), fun _ => ?_⟩
      have fin : ∀ j, j = fj (frB L (gU n L i) i) n → wp_X12_same_154 70 (nI d) (nI r) (nI (gU n L i)) (nI i) (nI j) back back2 h Q := by
        intro j ej
        have jn : j ≤ n := by rw [ej]; exact (fj_spec _ n).1
        refine ⟨74, r16, id74, pk_le n j (fun z w ew => hb2 _ ?_) (fun z u eu w ew => hb2 _ ?_) ed rfl⟩
        · rw [ew, nI_1]
          show _ = (nI (if _ then _ else _), _, _)
          rw [if_neg (by omega)]
        · rw [ew, nI_1, eu, orS li (by omega) (frB_t (by rw [ej]; exact (fj_spec _ n).2.2 (by omega))).1]
          show _ = (nI (if _ then _ else _), _, _)
          rw [if_pos (by omega), ← ej]
      have pj : ∀ j, frB L (gU n L i) i j = (decide (gU n L i / 2 ^ j % 2 = 0) && L i j) := fun j => rfl
      refine loopR n (fun j st => st = (nI j, h) ∧ ∀ k, k < j → frB L (gU n L i) i k = false) (fun st => st.1.toNatClampNeg) ⟨rfl, fun k hk => absurd hk (Nat.not_lt_zero k)⟩ (fun j st hj ps => by rw [ps.1]; exact nI_clamp (by omega)) ?_ ?_
      · rintro j st hj ⟨ps, ih3⟩ back3 hb3
        subst ps
        have more : frB L (gU n L i) i j = false → ∀ w, w = nI j + 1 → back3 (w, h) := fun z w ew => hb3 _ ⟨by rw [ew, nI_1], fun k hk => by
          rcases (show k < j ∨ k = j by omega) with y | y
          · exact ih3 k y
          · rw [y]; exact z⟩
        have bt := (bitS li (show j < 12 by omega)).2
        refine ⟨74, r16, id74, fun z => absurd z (by rw [ed]; exact nI_ge hj (by omega)), fun _ => ⟨fun z => more ?_, fun z => ?_⟩⟩
        · rw [pj, decide_eq_false (bt.mp z)]; rfl
        · have ri := dm.2.2.2.2.2 i hi
          have rj := rows j hj
          refine mlike_ok m (by omega) hd (by omega) hr ri.1 rj.1 ri.2 rj.2 ⟨fun y => fin j (fj_uniq (by omega) ih3 (fun _ => ?_)), fun y => more ?_⟩
          · rw [pj, Lij, b2i_t y, decide_eq_true]
            · rfl
            · exact Classical.byContradiction (fun x => z (bt.mpr x))
          · rw [pj, Lij, (b2i_0 _).mp y, Bool.and_false]
      · rintro st ⟨ps, ih3⟩ back3
        subst ps
        exact ⟨74, r16, id74, fun _ => fin n (fj_uniq (Nat.le_refl n) ih3 (fun z => absurd z (Nat.lt_irrefl n))), fun z => absurd (by rw [ed]; exact nI_le (Nat.le_refl n) (by omega)) z⟩
    · rintro st ps back2
      subst ps
      have ln := lt n
      have hc := cn_le (gM n L) n
      refine ⟨74, r16, i074, fun _ => mbits_ok ln ⟨74, r16, i074, ?_⟩, fun z => absurd (by rw [en]; exact nI_le (Nat.le_refl n) (by omega)) z⟩
      rw [gU_pc hn]
      refine n_eq (cn (gM n L) n) n (fun z w ew => hb _ ⟨by rw [ew, nI_1], fun k hk => ?_⟩) (fun z => q _ (Or.inl ⟨r, hr, sP.mpr ((cn_full n).mp z), ih, rfl⟩)) rfl en
      rcases (show k < r ∨ k = r by omega) with x | x
      · exact ih k x
      · rw [x]; exact fun y => z ((cn_full n).mpr (sP.mp y))
  · rintro st ⟨ps, ih⟩ back
    subst ps
    exact ⟨72, m.1, in08 m, fun _ => q _ (Or.inr ⟨ih, rfl⟩), fun z => absurd (by rw [eN]; exact nI_le (Nat.le_refl N) (by omega)) z⟩
theorem isK_ok {h : PH} {x : Int32} {Q : Int32 → PH → Prop} (q1 : ∀ L, L < 6 → x = nI L → Q 1 h) (q0 : (∀ L, L < 6 → x ≠ nI L) → Q 0 h) : wp_X12_isIn x 0 5 h Q := by
  refine ⟨fun c => q0 (fun j hj e => nI_pos (n := j) (by omega) (by rw [← e]; exact c)), fun c => ⟨fun c2 => ?_, fun c2 => ?_⟩⟩
  · exact q0 (fun j hj e => by
      rw [e] at c2
      have := (nI_ltI (a := 5) (by decide) (by omega)).mp c2
      omega)
  · obtain ⟨j, hj, e⟩ := nI_of c
    have : j < 6 := by
      rcases Nat.lt_or_ge 5 j with z | z
      · exact absurd (by rw [e]; exact nI_lt (a := 5) z hj) c2
      · omega
    exact q1 j this e
theorem op_same {h : PH} (i : Inv h) (x : Int32) : wp_X11_same 0 x h (fun r h1 => wp_X12_same 70 x h1 (Both h r)) := by
  obtain ⟨N, rb, n, Ds, d, e, id⟩ := i.2.2.1
  have sh := i.1
  obtain ⟨B, kp, _⟩ := i.2.2.2.2.2.2.2.1
  have r7 : qR h 0 7 = some 23 := sh.R 0 7 23 (by decide)
  have l23 : qL h 23 = 6 := sh.L 23 (by decide) rfl
  have nb : ¬ ((1 : Int32) = 0) := by decide
  have bad : (∀ L, L < 6 → x ≠ nI L) → wp_X12_same 70 x h (Both h (-2)) := fun no h1 e1 => mlay i id e1 (fun h2 i2 rm dm f2 => isK_ok (fun L hL eL => absurd eL (no L hL)) (fun _ => ⟨fun _ => ⟨rfl, i2, rm⟩, fun z => absurd rfl z⟩))
  refine ⟨fun c => bad (fun j hj e => nI_pos (n := j) (by omega) (by rw [← e]; exact c)), fun c => ?_⟩
  obtain ⟨k, hk, ek⟩ := nI_of c
  subst ek
  refine pk_le 6 k (fun z => bad (fun j hj e => by have := nI_inj hk (by omega) e; omega)) (fun k6 => ⟨23, r7, by rw [l23]; exact vp_in_nI k6 (by decide), fun o eo => ⟨fun z => ?_, fun b z => ?_⟩⟩)
  · subst z
    rw [nI_clamp hk] at eo
    have k0 : qI h 77 k = 0 := by
      rcases kp k k6 with q | q
      · exact q.2
      · rw [← eo] at q; exact absurd q.1 (by simp)
    intro h1 e1
    refine mlay i id e1 (fun h2 i2 rm dm f2 => isK_ok (fun L hL eL => ⟨fun z => absurd z nb, fun _ => ⟨77, i2.1.R 70 19 77 (by decide), by rw [i2.1.L 77 (n := 6) (by decide) rfl]; exact vp_in_nI k6 (by decide), fun z => absurd ?_ z, fun _ => ⟨rfl, i2, rm⟩⟩⟩) (fun no => absurd rfl (no k k6)))
    rw [nI_clamp hk, (f2.ag (C := [77]) (G := []) rfl).I rfl]; exact k0
  · subst z
    rw [nI_clamp hk] at eo
    rcases kp k k6 with q | ⟨q1, q2, q3, q4, N2, rb2, n2, Es, ⟨p1, p2, p3, p4, p5, p6, p7⟩, m1, m2, m3, m4, m5⟩
    · rw [← eo] at q; exact absurd q.1 (by simp)
    have eB : b = B k := by rw [← eo] at q1; exact Option.some.inj q1
    subst eB
    have hN := id.2.2.1.1.2.2.2.1
    have hN8 := id.2.2.1.1.2.2.1
    have hn := id.2.2.1.2.2.2.1.1
    have hrb := id.2.2.1.2.2.2.1.2.1
    refine ⟨d, id.1.1, 23, r7, by rw [l23]; exact vp_in_nI k6 (by decide), B k, by rw [nI_clamp hk]; exact q1, ?_⟩
    -- what the model answers
    have mod : ∀ r : Int32, (¬ (N = N2 ∧ rb = rb2 ∧ n = n2) → r = -1) → ((N = N2 ∧ rb = rb2 ∧ n = n2) → frst (sameP N n Ds Es) N r) → wp_X12_same 70 (nI k) h (Both h r) := by
      intro r a1 a2 h1 e1
      refine mlay i id e1 (fun h2 i2 rm dm f2 => isK_ok (fun L hL eL => ⟨fun z => absurd z nb, fun _ => ?_⟩) (fun no => absurd rfl (no k k6)))
      have no : ¬ (N = N2 ∧ rb = rb2 ∧ n = n2) → Both h r (-1) h2 := fun z => ⟨a1 z, i2, rm⟩
      have e72 : qI h2 72 (nI (2 + k)).toNatClampNeg = nI N2 := by rw [nI_clamp (by omega), (f2.2 72 (by simp) (2 + k) (by simp)).1]; exact m1
      have e73 : qI h2 73 (nI (2 + k)).toNatClampNeg = nI rb2 := by rw [nI_clamp (by omega), (f2.2 73 (by simp) (2 + k) (by simp)).1]; exact m2
      have e74 : qI h2 74 (nI (2 + k)).toNatClampNeg = nI n2 := by rw [nI_clamp (by omega), (f2.2 74 (by simp) (2 + k) (by simp)).1]; exact m3
      have s72 : qI h2 72 (0 : Int32).toNatClampNeg = nI N := by rw [c0_n]; exact dm.1.2.2.1
      have s73 : qI h2 73 (0 : Int32).toNatClampNeg = nI rb := by rw [c0_n]; exact dm.2.1.2.2
      have s74 : qI h2 74 (0 : Int32).toNatClampNeg = nI n := by rw [c0_n]; exact dm.2.2.1.2.2
      refine ⟨77, i2.1.R 70 19 77 (by decide), by rw [i2.1.L 77 (n := 6) (by decide) rfl]; exact vp_in_nI k6 (by decide), fun _ v ev => ?_, fun z => absurd z ?_⟩
      · have ev : v = nI (2 + k) := by rw [ev, show (2 : Int32) = nI 2 from rfl, nI_add]
        subst ev
        have j8 : ∀ {a : Nat}, qL h2 a = 8 → vp_in (nI (2 + k)) (qL h2 a) := fun z => by rw [z]; exact vp_in_nI (by omega) (by decide)
        refine ⟨72, dm.1.1, in08 dm.1, 72, dm.1.1, j8 dm.1.2.1, n_eq N N2 (fun z => no (fun y => z y.1)) (fun zN => ⟨73, dm.2.1.1, in0 dm.2.1.2.1 (by decide) (by decide), 73, dm.2.1.1, j8 dm.2.1.2.1, n_eq rb rb2 (fun z => no (fun y => z y.2.1)) (fun zr => ⟨74, dm.2.2.1.1, in0 dm.2.2.1.2.1 (by decide) (by decide), 74, dm.2.2.1.1, j8 dm.2.2.1.2.1, pk_eq n n2 (fun zn => ?_) (fun z => no (fun y => z y.2.2)) s74 e74⟩) s73 e73⟩) s72 e72⟩
        subst zN zr zn
        have fr := a2 ⟨rfl, rfl, rfl⟩
        rw [nI_clamp (by omega)] at e74
        refine msame_ok (rb := rb) (Ds := Ds) (Es := Es) ⟨dm, by omega, e74, fun j hj => ⟨(m5 j hj).1, fun y hy => ?_⟩⟩ (fun r2 fr2 => ⟨frst_uniq fr fr2, i2, rm⟩)
        show qI h2 75 _ = _
        rw [(f2.ag (C := [75]) (G := []) rfl).I rfl]
        exact (m5 j hj).2 y hy
      · rw [nI_clamp hk, (f2.ag (C := [77]) (G := []) rfl).I rfl, q2]; decide
    have no : ¬ (N = N2 ∧ rb = rb2 ∧ n = n2) → wp_X12_same 70 (nI k) h (Both h (-1)) := fun z => mod (-1) (fun _ => rfl) (fun y => absurd y z)
    refine n_eq n n2 (fun z => no (fun y => z y.2.2)) (fun zn => n_eq N N2 (fun z => no (fun y => z y.1)) (fun zN => pk_eq rb rb2 (fun zr => ?_) (fun z => no (fun y => z y.2.1)) id.2.1.2.2.1 p6) id.2.1.2.1 p5) id.2.1.1 p4
    subst zN zr zn
    refine turnTo_ok (Ds := Ds) (Es := Es) ⟨⟨id.2.1.1, id.2.1.2.1, hN8, hN, hn⟩, prt sh id, ⟨p1, p2, p3⟩, fun j hj => ⟨⟨(id.2.2.1.2.2.2.1.2.2 j hj).1, id.2.1.2.2.2 j hj⟩, (m5 j hj).1, p7 j hj⟩⟩ (fun r fr => mod r (fun z => absurd ⟨rfl, rfl, rfl⟩ z) (fun _ => fr))

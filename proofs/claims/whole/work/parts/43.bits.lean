/-! ===== PURE: bits of a word ===== -/
def qU (x : Int32) : Nat := x.toUInt32.toNat
theorem qU_inj {x y : Int32} (e : qU x = qU y) : x = y := Int32.toBitVec_inj.mp (BitVec.eq_of_toNat_eq e)
theorem qU_lt (x : Int32) : qU x < 4294967296 := x.toUInt32.toNat_lt
theorem qU_and (x y : Int32) : qU (x &&& y) = qU x &&& qU y := by
  unfold qU; rw [Int32.toUInt32_and, UInt32.toNat_and]
theorem qU_or (x y : Int32) : qU (x ||| y) = qU x ||| qU y := by
  unfold qU; rw [Int32.toUInt32_or, UInt32.toNat_or]
theorem qU_add (x y : Int32) : qU (x + y) = (qU x + qU y) % 4294967296 := by
  unfold qU; rw [Int32.toUInt32_add, UInt32.toNat_add]
theorem qU_sub {x y : Int32} (h : qU y ≤ qU x) : qU (x - y) = qU x - qU y := by
  unfold qU at *; rw [Int32.toUInt32_sub, UInt32.toNat_sub_of_le _ _ (UInt32.le_iff_toNat_le.mpr h)]
theorem qU_ushr (x y : Int32) : qU (q_ushr x y) = qU x >>> (qU (y &&& 31) % 32) := by
  unfold qU q_ushr
  rw [UInt32.toUInt32_toInt32, UInt32.toNat_shiftRight, Int32.toUInt32_and]
theorem qU_nI {n : Nat} (h : n < 4294967296) : qU (nI n) = n := by
  unfold qU nI
  simp
  omega

theorem and_split {k a b c d : Nat} (hb : b < 2 ^ k) (hd : d < 2 ^ k) : (2 ^ k * a + b) &&& (2 ^ k * c + d) = 2 ^ k * (a &&& c) + (b &&& d) := by
  apply Nat.eq_of_testBit_eq
  intro j
  rw [Nat.testBit_and, Nat.testBit_two_pow_mul_add _ hb, Nat.testBit_two_pow_mul_add _ hd, Nat.testBit_two_pow_mul_add _ (Nat.and_lt_two_pow b hd)]
  split
  · rw [Nat.testBit_and]
  · rw [Nat.testBit_and]
/-- bits up to k -/
def pcN : Nat → Nat → Nat
  | 0, _ => 0
  | k + 1, x => x % 2 + pcN k (x / 2)
theorem pcN_add (a : Nat) : ∀ b x, pcN (a + b) x = pcN a x + pcN b (x / 2 ^ a) := by
  induction a with
  | zero => intro b x; rw [Nat.zero_add, Nat.pow_zero, Nat.div_one]; show _ = 0 + _; omega
  | succ a ih =>
    intro b x
    rw [show a + 1 + b = (a + b) + 1 by omega]
    show x % 2 + pcN (a + b) (x / 2) = (x % 2 + pcN a (x / 2)) + _
    rw [ih, Nat.div_div_eq_div_mul, ← Nat.pow_succ', Nat.add_assoc]
theorem pcN_mod : ∀ a x, pcN a (x % 2 ^ a) = pcN a x
  | 0, _ => rfl
  | a + 1, x => by
    show (x % 2 ^ (a + 1)) % 2 + pcN a (x % 2 ^ (a + 1) / 2) = x % 2 + pcN a (x / 2)
    rw [Nat.mod_mod_of_dvd _ (Nat.dvd_of_pow_dvd (Nat.le_add_left 1 a) (Nat.dvd_refl _)), ← pcN_mod a (x / 2)]
    congr 2
    rw [Nat.pow_succ', Nat.mod_mul_right_div_self]
/-! the four bytes of a word, step by step -/
def pq_t1 (a : Nat) : Nat := a - ((a >>> 1) &&& 0x55)
def pq_t2 (a : Nat) : Nat := (a &&& 0x33) + ((a >>> 2) &&& 0x33)
def pq_t3 (a : Nat) : Nat := (a + a / 16) % 16
theorem tb_bytes : ∀ a, a < 256 → pq_t1 a < 256 ∧ pq_t2 (pq_t1 a) / 16 ≤ 4 ∧ pq_t2 (pq_t1 a) % 16 ≤ 4 ∧ pq_t3 (pq_t2 (pq_t1 a)) = pcN 8 a ∧ ((a >>> 1) &&& 0x55) ≤ a := by decide +kernel
theorem pq_k1 : ∀ e, e < 2 → ∀ a, a < 256 → (e * 128 + a / 2) &&& 0x55 = (a >>> 1) &&& 0x55 := by decide +kernel
theorem pq_k2 : ∀ e, e < 4 → ∀ a, a < 256 → (e * 64 + a / 4) &&& 0x33 = (a >>> 2) &&& 0x33 := by decide +kernel
theorem pq_k3 : ∀ a, a < 256 → a &&& 15 = a % 16 := by decide +kernel
theorem s1_b {x a m : Nat} (ha : a < 256) : ((256 * x + a) >>> 1) &&& (256 * m + 0x55) = 256 * ((x >>> 1) &&& m) + ((a >>> 1) &&& 0x55) := by
  have e : (256 * x + a) >>> 1 = 2 ^ 8 * (x / 2) + ((x % 2) * 128 + a / 2) := by
    rw [Nat.shiftRight_eq_div_pow]; omega
  rw [e, show 256 * m + 0x55 = 2 ^ 8 * m + 0x55 from rfl, and_split (by omega) (by decide), pq_k1 _ (Nat.mod_lt _ (by decide)) a ha, Nat.shiftRight_eq_div_pow x]
theorem s2_b {x a m : Nat} (ha : a < 256) : ((256 * x + a) >>> 2) &&& (256 * m + 0x33) = 256 * ((x >>> 2) &&& m) + ((a >>> 2) &&& 0x33) := by
  have e : (256 * x + a) >>> 2 = 2 ^ 8 * (x / 4) + ((x % 4) * 64 + a / 4) := by
    rw [Nat.shiftRight_eq_div_pow]; omega
  rw [e, show 256 * m + 0x33 = 2 ^ 8 * m + 0x33 from rfl, and_split (by omega) (by decide), pq_k2 _ (Nat.mod_lt _ (by decide)) a ha, Nat.shiftRight_eq_div_pow x]
theorem a_b {x a m c : Nat} (ha : a < 256) (hc : c < 256) : (256 * x + a) &&& (256 * m + c) = 256 * (x &&& m) + (a &&& c) := and_split (k := 8) ha hc
theorem byte1 {x a m : Nat} (ha : a < 256) : (256 * x + a) - (((256 * x + a) >>> 1) &&& (256 * m + 0x55)) = 256 * (x - ((x >>> 1) &&& m)) + pq_t1 a := by
  rw [s1_b ha]
  have h1 := (tb_bytes a ha).2.2.2.2
  have h2 : (x >>> 1) &&& m ≤ x := Nat.le_trans Nat.and_le_left (Nat.shiftRight_le x 1)
  unfold pq_t1
  omega
theorem byte2 {x a m : Nat} (ha : a < 256) : ((256 * x + a) &&& (256 * m + 0x33)) + (((256 * x + a) >>> 2) &&& (256 * m + 0x33)) = 256 * ((x &&& m) + ((x >>> 2) &&& m)) + pq_t2 a := by
  rw [s2_b ha, a_b ha (by decide)]
  unfold pq_t2
  omega
theorem byte3 {x a m : Nat} (h1 : a / 16 ≤ 4) (h2 : a % 16 ≤ 4) (hx : x % 16 ≤ 4) : ((256 * x + a) + ((256 * x + a) >>> 4)) &&& (256 * m + 0x0f) = 256 * ((x + (x >>> 4)) &&& m) + pq_t3 a := by
  have e : (256 * x + a) + ((256 * x + a) >>> 4) = 256 * (x + x / 16) + (a + (x % 16) * 16 + a / 16) := by
    rw [Nat.shiftRight_eq_div_pow]; omega
  rw [e, a_b (by omega) (by decide), pq_k3 _ (by omega), Nat.shiftRight_eq_div_pow x]
  unfold pq_t3
  have : (a + x % 16 * 16 + a / 16) % 16 = (a + a / 16) % 16 := by omega
  rw [this]
def pq_byt (x i : Nat) : Nat := x / 256 ^ i % 256
theorem pq_z1 (m : Nat) : (0 : Nat) - ((0 >>> 1) &&& m) = 0 := by simp
theorem pop_nat {x y z w : Nat} (hx : x < 4294967296) (ey : y = x - ((x >>> 1) &&& 0x55555555)) (ez : z = (y &&& 0x33333333) + ((y >>> 2) &&& 0x33333333)) (ew : w = (z + (z >>> 4)) &&& 0x0f0f0f0f) :
    ∃ p0 p1 p2 p3, w = p0 + 256 * p1 + 65536 * p2 + 16777216 * p3 ∧ p0 ≤ 8 ∧ p1 ≤ 8 ∧ p2 ≤ 8 ∧ p3 ≤ 8 ∧ p0 + p1 + p2 + p3 = pcN 32 x ∧ z + z / 16 < 4294967296 ∧ y < 4294967296 := by
  obtain ⟨a, b, c, d, ha, hb, hc, hd, ex⟩ : ∃ a b c d, a < 256 ∧ b < 256 ∧ c < 256 ∧ d < 256 ∧ x = 256 * (256 * (256 * d + c) + b) + a := ⟨x % 256, x / 256 % 256, x / 65536 % 256, x / 16777216, by omega, by omega, by omega, by omega, by omega⟩
  have y1 : y = 256 * (256 * (256 * pq_t1 d + pq_t1 c) + pq_t1 b) + pq_t1 a := by
    rw [ey, ex, show (0x55555555 : Nat) = 256 * (256 * (256 * 0x55 + 0x55) + 0x55) + 0x55 from rfl, byte1 ha, byte1 hb, byte1 hc]
    rfl
  have q := fun a ha => tb_bytes a ha
  have pq_z1 : z = 256 * (256 * (256 * pq_t2 (pq_t1 d) + pq_t2 (pq_t1 c)) + pq_t2 (pq_t1 b)) + pq_t2 (pq_t1 a) := by
    rw [ez, y1, show (0x33333333 : Nat) = 256 * (256 * (256 * 0x33 + 0x33) + 0x33) + 0x33 from rfl, byte2 (q a ha).1, byte2 (q b hb).1, byte2 (q c hc).1]
    rfl
  have w1 : w = 256 * (256 * (256 * pq_t3 (pq_t2 (pq_t1 d)) + pq_t3 (pq_t2 (pq_t1 c))) + pq_t3 (pq_t2 (pq_t1 b))) + pq_t3 (pq_t2 (pq_t1 a)) := by
    have A := q a ha; have B := q b hb; have C := q c hc; have D := q d hd
    rw [ew, pq_z1, show (0x0f0f0f0f : Nat) = 256 * (256 * (256 * 0x0f + 0x0f) + 0x0f) + 0x0f from rfl, byte3 A.2.1 A.2.2.1 (by omega), byte3 B.2.1 B.2.2.1 (by omega), byte3 C.2.1 C.2.2.1 (by omega)]
    have e15 : (pq_t2 (pq_t1 d) + pq_t2 (pq_t1 d) >>> 4) &&& 0x0f = pq_t3 (pq_t2 (pq_t1 d)) := by
      rw [Nat.shiftRight_eq_div_pow, pq_k3 _ (by omega)]; rfl
    rw [e15]
  have p8 : ∀ a, a < 256 → pcN 8 a ≤ 8 := by decide +kernel
  have A := q a ha; have B := q b hb; have C := q c hc; have D := q d hd
  refine ⟨pcN 8 a, pcN 8 b, pcN 8 c, pcN 8 d, ?_, p8 a ha, p8 b hb, p8 c hc, p8 d hd, ?_, ?_, ?_⟩
  · rw [w1, A.2.2.2.1, B.2.2.2.1, C.2.2.2.1, D.2.2.2.1]; omega
  · rw [show 32 = 8 + (8 + (8 + 8)) from rfl, pcN_add, pcN_add, pcN_add, ← pcN_mod 8 x, ← pcN_mod 8 (x / 2 ^ 8), ← pcN_mod 8 (x / 2 ^ 8 / 2 ^ 8)]
    have e1 : x % 2 ^ 8 = a := by omega
    have e2 : x / 2 ^ 8 % 2 ^ 8 = b := by omega
    have e3 : x / 2 ^ 8 / 2 ^ 8 % 2 ^ 8 = c := by omega
    have e4 : x / 2 ^ 8 / 2 ^ 8 / 2 ^ 8 = d := by omega
    rw [e1, e2, e3, e4]
    omega
  · rw [pq_z1]; omega
  · rw [y1]
    have := A.1; have := B.1; have := C.1; have := D.1
    omega

theorem bitc_v {x v1 v2 v3 v4 v5 : Int32} (e1 : v1 = x - ((q_ushr x 1) &&& 1431655765)) (e2 : v2 = (v1 &&& 858993459) + ((q_ushr v1 2) &&& 858993459)) (e3 : v3 = (v2 + (q_ushr v2 4)) &&& 252645135) (e4 : v4 = v3 + (q_ushr v3 8)) (e5 : v5 = v4 + (q_ushr v4 16)) : v5 &&& 63 = nI (pcN 32 (qU x)) := by
  have u1 : qU v1 = qU x - ((qU x >>> 1) &&& 0x55555555) := by
    have e : qU ((q_ushr x 1) &&& 1431655765) = (qU x >>> 1) &&& 0x55555555 := by
      rw [qU_and, qU_ushr]; rfl
    rw [e1, qU_sub, e]
    rw [e]; exact Nat.le_trans Nat.and_le_left (Nat.shiftRight_le _ 1)
  have u2' : qU v2 = ((qU v1 &&& 0x33333333) + ((qU v1 >>> 2) &&& 0x33333333)) % 4294967296 := by
    rw [e2, qU_add, qU_and, qU_and, qU_ushr]; rfl
  have u2 : qU v2 = (qU v1 &&& 0x33333333) + ((qU v1 >>> 2) &&& 0x33333333) := by
    rw [u2', Nat.mod_eq_of_lt]
    have a : qU v1 &&& 0x33333333 ≤ 0x33333333 := Nat.and_le_right
    have b : (qU v1 >>> 2) &&& 0x33333333 ≤ 0x33333333 := Nat.and_le_right
    omega
  obtain ⟨p0, p1, p2, p3, ew, h0, h1, h2, h3, es, hz, hy⟩ := pop_nat (qU_lt x) u1 u2 rfl
  have u3 : qU v3 = (qU v2 + (qU v2 >>> 4)) &&& 0x0f0f0f0f := by
    have e : (qU v2 + qU v2 >>> (qU ((4 : Int32) &&& 31) % 32)) % 4294967296 = qU v2 + (qU v2 >>> 4) := by
      show (qU v2 + qU v2 >>> 4) % 4294967296 = _
      rw [Nat.mod_eq_of_lt]
      rw [Nat.shiftRight_eq_div_pow]; omega
    rw [e3, qU_and, qU_add, qU_ushr, e]; rfl
  rw [← u3] at ew
  have u4 : qU v4 = qU v3 + qU v3 / 256 := by
    rw [e4, qU_add, qU_ushr]
    show (qU v3 + qU v3 >>> 8) % 4294967296 = _
    rw [Nat.shiftRight_eq_div_pow, Nat.mod_eq_of_lt (by omega)]
  have u5 : qU v5 = qU v4 + qU v4 / 65536 := by
    rw [e5, qU_add, qU_ushr]
    show (qU v4 + qU v4 >>> 16) % 4294967296 = _
    rw [Nat.shiftRight_eq_div_pow, Nat.mod_eq_of_lt (by omega)]
  apply qU_inj
  rw [qU_and, qU_nI (by omega)]
  show qU v5 &&& 2 ^ 6 - 1 = _
  rw [Nat.and_two_pow_sub_one_eq_mod]
  have a1 : qU v3 / 256 = p1 + 256 * p2 + 65536 * p3 := by omega
  have a2 : qU v4 = (p0 + p1) + 256 * (p1 + p2) + 65536 * (p2 + p3) + 16777216 * p3 := by rw [u4, a1, ew]; omega
  have a3 : qU v4 / 65536 = p2 + p3 + 256 * p3 := by omega
  have a4 : qU v5 = (p0 + p1 + p2 + p3) + 64 * (4 * (p1 + p2 + p3) + 1024 * (p2 + p3) + 262144 * p3) := by rw [u5, a3, a2]; omega
  rw [a4, Nat.add_mul_mod_self_left, ← es]
  exact Nat.mod_eq_of_lt (by omega)
/-! bits that are set one by one -/
def bs (c : Nat → Bool) : Nat → Nat
  | 0 => 0
  | k + 1 => bs c k + (if c k = true then 2 ^ k else 0)
def cn (c : Nat → Bool) : Nat → Nat
  | 0 => 0
  | k + 1 => cn c k + (if c k = true then 1 else 0)
theorem cn_le (c : Nat → Bool) : ∀ k, cn c k ≤ k
  | 0 => Nat.le_refl 0
  | k + 1 => by
    show cn c k + _ ≤ _
    have := cn_le c k
    split <;> omega
theorem bs_lt (c : Nat → Bool) : ∀ k, bs c k < 2 ^ k
  | 0 => by show 0 < 1; decide
  | k + 1 => by
    show bs c k + _ < _
    have := bs_lt c k
    rw [Nat.pow_succ]
    split <;> omega
theorem bs_bit (c : Nat → Bool) {i : Nat} : ∀ k, i < k → bs c k / 2 ^ i % 2 = if c i = true then 1 else 0
  | 0, h => absurd h (Nat.not_lt_zero i)
  | k + 1, h => by
    show (bs c k + _) / 2 ^ i % 2 = _
    have hb := bs_lt c k
    have hp : 0 < 2 ^ i := Nat.pow_pos (by decide)
    by_cases e : i = k
    · subst e
      split
      · rw [Nat.add_div_right _ hp, Nat.div_eq_of_lt hb]
      · rw [Nat.add_zero, Nat.div_eq_of_lt hb]
    · have ih := bs_bit c k (i := i) (by omega)
      split
      · obtain ⟨m, em⟩ : ∃ m, k = i + 1 + m := ⟨k - (i + 1), by omega⟩
        have : 2 ^ k = 2 ^ i * (2 * 2 ^ m) := by rw [em, Nat.pow_add, Nat.pow_succ, Nat.mul_assoc]
        rw [this, Nat.add_mul_div_left _ _ hp, Nat.add_mul_mod_self_left]; exact ih
      · rw [Nat.add_zero]; exact ih
theorem pc_bs (c : Nat → Bool) (k : Nat) : pcN k (bs c k) = cn c k := by
  have key : ∀ j, j ≤ k → pcN j (bs c k) = cn c j := by
    intro j
    induction j with
    | zero => intro _; rfl
    | succ j ih =>
      intro hj
      rw [pcN_add j 1, ih (by omega)]
      show cn c j + (bs c k / 2 ^ j % 2 + 0) = cn c j + _
      rw [bs_bit c k (by omega), Nat.add_zero]
  exact key k (Nat.le_refl k)
theorem one_shl : ∀ l, l < 32 → qU ((1 : Int32) <<< (nI l &&& 31)) = 2 ^ l := by decide +kernel
theorem sh_31 : ∀ l, l < 32 → qU (nI l &&& 31) % 32 = l := by decide +kernel
theorem bs_or {c : Nat → Bool} {l : Nat} {v : Int32} (hl : l < 32) (e : qU v = bs c l) : qU (v ||| ((1 : Int32) <<< (nI l &&& 31))) = bs c l + 2 ^ l := by
  rw [qU_or, one_shl l hl, e, Nat.or_comm]
  have := Nat.two_pow_add_eq_or_of_lt (bs_lt c l) 1
  rw [Nat.mul_one] at this
  rw [← this, Nat.add_comm]
theorem bit_of {v : Int32} {l : Nat} (hl : l < 32) : q_ushr v (nI l) &&& 1 = 0 ↔ qU v / 2 ^ l % 2 = 0 := by
  have e : qU (q_ushr v (nI l) &&& 1) = qU v / 2 ^ l % 2 := by
    rw [qU_and, qU_ushr, sh_31 l hl, Nat.shiftRight_eq_div_pow]
    exact Nat.and_two_pow_sub_one_eq_mod _ 1
  constructor
  · intro h; rw [← e, h]; rfl
  · intro h; apply qU_inj; rw [e, h]; rfl
theorem kern2 : ∀ a, a < 64 → ∀ b, b < 64 → 64 * a + b ≠ 0 → pcN 12 ((64 * a + b) &&& (64 * a + b - 1)) + 1 = pcN 12 (64 * a + b) := by decide +kernel
theorem kern {s : Nat} (h : s < 4096) (h0 : s ≠ 0) : pcN 12 (s &&& (s - 1)) + 1 = pcN 12 s := by
  have := kern2 (s / 64) (by omega) (s % 64) (by omega) (by omega)
  rw [show 64 * (s / 64) + s % 64 = s by omega] at this
  exact this

theorem bitc_ok {x : Int32} {h : PH} {Q : Int32 → PH → Prop} (q : Q (nI (pcN 32 (qU x))) h) : wp_J6_bitCount_0f7a4 x h Q := by
  intro v1 e1 v2 e2 v3 e3 v4 e4 v5 e5
  rw [bitc_v e1 e2 e3 e4 e5]
  exact q
theorem pc12_le : ∀ a, a < 64 → ∀ b, b < 64 → pcN 12 (64 * a + b) ≤ 12 := by decide +kernel
theorem pc12 {s : Nat} (h : s < 4096) : pcN 12 s ≤ 12 := by
  have := pc12_le (s / 64) (by omega) (s % 64) (by omega)
  rw [show 64 * (s / 64) + s % 64 = s by omega] at this
  exact this
theorem pcN_0 : ∀ k, pcN k 0 = 0
  | 0 => rfl
  | k + 1 => by show 0 % 2 + pcN k (0 / 2) = 0; rw [Nat.zero_div, pcN_0 k]
theorem pc32_12 {s : Nat} (h : s < 4096) : pcN 32 s = pcN 12 s := by
  rw [show 32 = 12 + 20 from rfl, pcN_add, Nat.div_eq_of_lt h, pcN_0, Nat.add_zero]
theorem nI_and {a b : Nat} (ha : a < 4294967296) (hb : b < 4294967296) : nI a &&& nI b = nI (a &&& b) := by
  apply qU_inj
  rw [qU_and, qU_nI ha, qU_nI hb, qU_nI (Nat.lt_of_le_of_lt Nat.and_le_left ha)]
theorem mbits_ok {s : Nat} {h : PH} {Q : Int32 → PH → Prop} (hs : s < 4096) (q : Q (nI (pcN 12 s)) h) : wp_X12_bits (nI s) h Q := by
  refine ⟨fun st => ∃ u, u < 4096 ∧ pcN 12 u ≤ pcN 12 s ∧ st = (nI (pcN 12 s - pcN 12 u), nI u, h), fun st => pcN 12 (qU st.2.1), ⟨s, hs, Nat.le_refl _, by rw [Nat.sub_self]; rfl⟩, ?_⟩
  rintro st ⟨u, hu, hp, e⟩
  subst e
  have p12 := pc12 hs
  refine ⟨fun c => ?_, fun c v2 e2 v3 e3 => ?_⟩
  · have : u = 0 := nI_inj (b := 0) (by omega) (by decide) c
    subst this
    rw [pcN_0, Nat.sub_zero]; exact q
  · have u0 : u ≠ 0 := fun z => c (by rw [z]; rfl)
    have kk := kern hu u0
    have e4 : v3 = nI (u &&& (u - 1)) := by
      show v3 = _
      rw [e3, show nI u - 1 = nI (u - 1) by rw [show u = (u - 1) + 1 by omega, nI_pred]; rfl, nI_and (by omega) (by omega)]
    have hlt : u &&& (u - 1) < 4096 := Nat.lt_of_le_of_lt Nat.and_le_left hu
    refine ⟨⟨u &&& (u - 1), hlt, by omega, ?_⟩, ?_⟩
    · rw [e2, e4, nI_1, show pcN 12 s - pcN 12 (u &&& (u - 1)) = pcN 12 s - pcN 12 u + 1 by omega]
    · show pcN 12 (qU v3) < pcN 12 (qU (nI u))
      rw [e4, qU_nI (by omega), qU_nI (by omega)]; omega

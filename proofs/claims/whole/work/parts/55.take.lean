/-! ===== PURE: taking TOKENS, class and model ===== -/
def cwL : List Nat := [409469, 13691, 332864552, 3435824, 187215374, 281493529, 4513, 1228, 11522, 131638, 555, 47, 380396, 99233, 385268, 1065, 423, 1111, 10631, 9748424, 240023, 263207467, 6480640, 16922, 3913426, 10656676, 164222, 257, 4351177, 148870, 1905275, 90090, 7207041, 8798]
def cw (k : Nat) : Nat := cwL.getD k 0
theorem sp_turn {h : PH} {Q : Int64 → PH → Prop} (q : Q (lN (cw 0)) h) : wp_X12_spelt 116 117 114 110 0 h Q := by
  refine fun v1 e1 => ⟨fun z => absurd z (by decide), fun _ v3 e3 => ⟨fun z => absurd z (by decide), fun _ v5 e5 => ⟨fun _ => ?_, fun z => absurd (by decide) z⟩⟩⟩
  refine Eq.mp (congrArg (fun z => Q z h) ?_) q
  rw [e5, e3, e1]
  decide +kernel
theorem sp_rub {h : PH} {Q : Int64 → PH → Prop} (q : Q (lN (cw 1)) h) : wp_X12_spelt 114 117 98 0 0 h Q := by
  refine fun v1 e1 => ⟨fun z => absurd z (by decide), fun _ v3 e3 => ⟨fun _ => ⟨fun _ => ?_, fun z => absurd (by decide) z⟩, fun z => absurd (by decide) z⟩⟩
  refine Eq.mp (congrArg (fun z => Q z h) ?_) q
  rw [e3, e1]
  decide +kernel
theorem sp_weight {h : PH} {Q : Int64 → PH → Prop} (q : Q (lN (cw 2)) h) : wp_X12_six 119 101 105 103 104 116 h Q := by
  show wp_X12_spelt 119 101 105 103 104 h _
  refine fun v1 e1 => ⟨fun z => absurd z (by decide), fun _ v3 e3 => ⟨fun z => absurd z (by decide), fun _ v5 e5 => ⟨fun z => absurd z (by decide), fun _ => ?_⟩⟩⟩
  refine Eq.mp (congrArg (fun z => Q z h) ?_) q
  rw [e5, e3, e1]
  decide +kernel
theorem sp_float {h : PH} {Q : Int64 → PH → Prop} (q : Q (lN (cw 3)) h) : wp_X12_spelt 102 108 111 97 116 h Q := by
  refine fun v1 e1 => ⟨fun z => absurd z (by decide), fun _ v3 e3 => ⟨fun z => absurd z (by decide), fun _ v5 e5 => ⟨fun z => absurd z (by decide), fun _ => ?_⟩⟩⟩
  refine Eq.mp (congrArg (fun z => Q z h) ?_) q
  rw [e5, e3, e1]
  decide +kernel
theorem sp_magnet {h : PH} {Q : Int64 → PH → Prop} (q : Q (lN (cw 4)) h) : wp_X12_six 109 97 103 110 101 116 h Q := by
  show wp_X12_spelt 109 97 103 110 101 h _
  refine fun v1 e1 => ⟨fun z => absurd z (by decide), fun _ v3 e3 => ⟨fun z => absurd z (by decide), fun _ v5 e5 => ⟨fun z => absurd z (by decide), fun _ => ?_⟩⟩⟩
  refine Eq.mp (congrArg (fun z => Q z h) ?_) q
  rw [e5, e3, e1]
  decide +kernel
theorem sp_spring {h : PH} {Q : Int64 → PH → Prop} (q : Q (lN (cw 5)) h) : wp_X12_six 115 112 114 105 110 103 h Q := by
  show wp_X12_spelt 115 112 114 105 110 h _
  refine fun v1 e1 => ⟨fun z => absurd z (by decide), fun _ v3 e3 => ⟨fun z => absurd z (by decide), fun _ v5 e5 => ⟨fun z => absurd z (by decide), fun _ => ?_⟩⟩⟩
  refine Eq.mp (congrArg (fun z => Q z h) ?_) q
  rw [e5, e3, e1]
  decide +kernel
theorem sp_fed {h : PH} {Q : Int64 → PH → Prop} (q : Q (lN (cw 6)) h) : wp_X12_spelt 102 101 100 0 0 h Q := by
  refine fun v1 e1 => ⟨fun z => absurd z (by decide), fun _ v3 e3 => ⟨fun _ => ⟨fun _ => ?_, fun z => absurd (by decide) z⟩, fun z => absurd (by decide) z⟩⟩
  refine Eq.mp (congrArg (fun z => Q z h) ?_) q
  rw [e3, e1]
  decide +kernel
theorem sp_arm {h : PH} {Q : Int64 → PH → Prop} (q : Q (lN (cw 7)) h) : wp_X12_spelt 97 114 109 0 0 h Q := by
  refine fun v1 e1 => ⟨fun z => absurd z (by decide), fun _ v3 e3 => ⟨fun _ => ⟨fun _ => ?_, fun z => absurd (by decide) z⟩, fun z => absurd (by decide) z⟩⟩
  refine Eq.mp (congrArg (fun z => Q z h) ?_) q
  rw [e3, e1]
  decide +kernel
theorem sp_out {h : PH} {Q : Int64 → PH → Prop} (q : Q (lN (cw 8)) h) : wp_X12_spelt 111 117 116 0 0 h Q := by
  refine fun v1 e1 => ⟨fun z => absurd z (by decide), fun _ v3 e3 => ⟨fun _ => ⟨fun _ => ?_, fun z => absurd (by decide) z⟩, fun z => absurd (by decide) z⟩⟩
  refine Eq.mp (congrArg (fun z => Q z h) ?_) q
  rw [e3, e1]
  decide +kernel
theorem sp_from {h : PH} {Q : Int64 → PH → Prop} (q : Q (lN (cw 9)) h) : wp_X12_spelt 102 114 111 109 0 h Q := by
  refine fun v1 e1 => ⟨fun z => absurd z (by decide), fun _ v3 e3 => ⟨fun z => absurd z (by decide), fun _ v5 e5 => ⟨fun _ => ?_, fun z => absurd (by decide) z⟩⟩⟩
  refine Eq.mp (congrArg (fun z => Q z h) ?_) q
  rw [e5, e3, e1]
  decide +kernel
theorem sp_to {h : PH} {Q : Int64 → PH → Prop} (q : Q (lN (cw 10)) h) : wp_X12_spelt 116 111 0 0 0 h Q := by
  refine fun v1 e1 => ⟨fun _ => ⟨fun _ => ⟨fun _ => ?_, fun z => absurd (by decide) z⟩, fun z => absurd (by decide) z⟩, fun z => absurd (by decide) z⟩
  refine Eq.mp (congrArg (fun z => Q z h) ?_) q
  rw [e1]
  decide +kernel
theorem sp_at {h : PH} {Q : Int64 → PH → Prop} (q : Q (lN (cw 11)) h) : wp_X12_spelt 97 116 0 0 0 h Q := by
  refine fun v1 e1 => ⟨fun _ => ⟨fun _ => ⟨fun _ => ?_, fun z => absurd (by decide) z⟩, fun z => absurd (by decide) z⟩, fun z => absurd (by decide) z⟩
  refine Eq.mp (congrArg (fun z => Q z h) ?_) q
  rw [e1]
  decide +kernel
theorem sp_shut {h : PH} {Q : Int64 → PH → Prop} (q : Q (lN (cw 12)) h) : wp_X12_spelt 115 104 117 116 0 h Q := by
  refine fun v1 e1 => ⟨fun z => absurd z (by decide), fun _ v3 e3 => ⟨fun z => absurd z (by decide), fun _ v5 e5 => ⟨fun _ => ?_, fun z => absurd (by decide) z⟩⟩⟩
  refine Eq.mp (congrArg (fun z => Q z h) ?_) q
  rw [e5, e3, e1]
  decide +kernel
theorem sp_each {h : PH} {Q : Int64 → PH → Prop} (q : Q (lN (cw 13)) h) : wp_X12_spelt 101 97 99 104 0 h Q := by
  refine fun v1 e1 => ⟨fun z => absurd z (by decide), fun _ v3 e3 => ⟨fun z => absurd z (by decide), fun _ v5 e5 => ⟨fun _ => ?_, fun z => absurd (by decide) z⟩⟩⟩
  refine Eq.mp (congrArg (fun z => Q z h) ?_) q
  rw [e5, e3, e1]
  decide +kernel
theorem sp_some {h : PH} {Q : Int64 → PH → Prop} (q : Q (lN (cw 14)) h) : wp_X12_spelt 115 111 109 101 0 h Q := by
  refine fun v1 e1 => ⟨fun z => absurd z (by decide), fun _ v3 e3 => ⟨fun z => absurd z (by decide), fun _ v5 e5 => ⟨fun _ => ?_, fun z => absurd (by decide) z⟩⟩⟩
  refine Eq.mp (congrArg (fun z => Q z h) ?_) q
  rw [e5, e3, e1]
  decide +kernel
theorem sp_all {h : PH} {Q : Int64 → PH → Prop} (q : Q (lN (cw 15)) h) : wp_X12_spelt 97 108 108 0 0 h Q := by
  refine fun v1 e1 => ⟨fun z => absurd z (by decide), fun _ v3 e3 => ⟨fun _ => ⟨fun _ => ?_, fun z => absurd (by decide) z⟩, fun z => absurd (by decide) z⟩⟩
  refine Eq.mp (congrArg (fun z => Q z h) ?_) q
  rw [e3, e1]
  decide +kernel
theorem sp_or {h : PH} {Q : Int64 → PH → Prop} (q : Q (lN (cw 16)) h) : wp_X12_spelt 111 114 0 0 0 h Q := by
  refine fun v1 e1 => ⟨fun _ => ⟨fun _ => ⟨fun _ => ?_, fun z => absurd (by decide) z⟩, fun z => absurd (by decide) z⟩, fun z => absurd (by decide) z⟩
  refine Eq.mp (congrArg (fun z => Q z h) ?_) q
  rw [e1]
  decide +kernel
theorem sp_and {h : PH} {Q : Int64 → PH → Prop} (q : Q (lN (cw 17)) h) : wp_X12_spelt 97 110 100 0 0 h Q := by
  refine fun v1 e1 => ⟨fun z => absurd z (by decide), fun _ v3 e3 => ⟨fun _ => ⟨fun _ => ?_, fun z => absurd (by decide) z⟩, fun z => absurd (by decide) z⟩⟩
  refine Eq.mp (congrArg (fun z => Q z h) ?_) q
  rw [e3, e1]
  decide +kernel
theorem sp_not {h : PH} {Q : Int64 → PH → Prop} (q : Q (lN (cw 18)) h) : wp_X12_spelt 110 111 116 0 0 h Q := by
  refine fun v1 e1 => ⟨fun z => absurd z (by decide), fun _ v3 e3 => ⟨fun _ => ⟨fun _ => ?_, fun z => absurd (by decide) z⟩, fun z => absurd (by decide) z⟩⟩
  refine Eq.mp (congrArg (fun z => Q z h) ?_) q
  rw [e3, e1]
  decide +kernel
theorem sp_right {h : PH} {Q : Int64 → PH → Prop} (q : Q (lN (cw 19)) h) : wp_X12_spelt 114 105 103 104 116 h Q := by
  refine fun v1 e1 => ⟨fun z => absurd z (by decide), fun _ v3 e3 => ⟨fun z => absurd z (by decide), fun _ v5 e5 => ⟨fun z => absurd z (by decide), fun _ => ?_⟩⟩⟩
  refine Eq.mp (congrArg (fun z => Q z h) ?_) q
  rw [e5, e3, e1]
  decide +kernel
theorem sp_left {h : PH} {Q : Int64 → PH → Prop} (q : Q (lN (cw 20)) h) : wp_X12_spelt 108 101 102 116 0 h Q := by
  refine fun v1 e1 => ⟨fun z => absurd z (by decide), fun _ v3 e3 => ⟨fun z => absurd z (by decide), fun _ v5 e5 => ⟨fun _ => ?_, fun z => absurd (by decide) z⟩⟩⟩
  refine Eq.mp (congrArg (fun z => Q z h) ?_) q
  rw [e5, e3, e1]
  decide +kernel
theorem sp_rights {h : PH} {Q : Int64 → PH → Prop} (q : Q (lN (cw 21)) h) : wp_X12_six 114 105 103 104 116 115 h Q := by
  show wp_X12_spelt 114 105 103 104 116 h _
  refine fun v1 e1 => ⟨fun z => absurd z (by decide), fun _ v3 e3 => ⟨fun z => absurd z (by decide), fun _ v5 e5 => ⟨fun z => absurd z (by decide), fun _ => ?_⟩⟩⟩
  refine Eq.mp (congrArg (fun z => Q z h) ?_) q
  rw [e5, e3, e1]
  decide +kernel
theorem sp_lefts {h : PH} {Q : Int64 → PH → Prop} (q : Q (lN (cw 22)) h) : wp_X12_spelt 108 101 102 116 115 h Q := by
  refine fun v1 e1 => ⟨fun z => absurd z (by decide), fun _ v3 e3 => ⟨fun z => absurd z (by decide), fun _ v5 e5 => ⟨fun z => absurd z (by decide), fun _ => ?_⟩⟩⟩
  refine Eq.mp (congrArg (fun z => Q z h) ?_) q
  rw [e5, e3, e1]
  decide +kernel
theorem sp_wet {h : PH} {Q : Int64 → PH → Prop} (q : Q (lN (cw 23)) h) : wp_X12_spelt 119 101 116 0 0 h Q := by
  refine fun v1 e1 => ⟨fun z => absurd z (by decide), fun _ v3 e3 => ⟨fun _ => ⟨fun _ => ?_, fun z => absurd (by decide) z⟩, fun z => absurd (by decide) z⟩⟩
  refine Eq.mp (congrArg (fun z => Q z h) ?_) q
  rw [e3, e1]
  decide +kernel
theorem sp_gives {h : PH} {Q : Int64 → PH → Prop} (q : Q (lN (cw 24)) h) : wp_X12_spelt 103 105 118 101 115 h Q := by
  refine fun v1 e1 => ⟨fun z => absurd z (by decide), fun _ v3 e3 => ⟨fun z => absurd z (by decide), fun _ v5 e5 => ⟨fun z => absurd z (by decide), fun _ => ?_⟩⟩⟩
  refine Eq.mp (congrArg (fun z => Q z h) ?_) q
  rw [e5, e3, e1]
  decide +kernel
theorem sp_takes {h : PH} {Q : Int64 → PH → Prop} (q : Q (lN (cw 25)) h) : wp_X12_spelt 116 97 107 101 115 h Q := by
  refine fun v1 e1 => ⟨fun z => absurd z (by decide), fun _ v3 e3 => ⟨fun z => absurd z (by decide), fun _ v5 e5 => ⟨fun z => absurd z (by decide), fun _ => ?_⟩⟩⟩
  refine Eq.mp (congrArg (fun z => Q z h) ?_) q
  rw [e5, e3, e1]
  decide +kernel
theorem sp_high {h : PH} {Q : Int64 → PH → Prop} (q : Q (lN (cw 26)) h) : wp_X12_spelt 104 105 103 104 0 h Q := by
  refine fun v1 e1 => ⟨fun z => absurd z (by decide), fun _ v3 e3 => ⟨fun z => absurd z (by decide), fun _ v5 e5 => ⟨fun _ => ?_, fun z => absurd (by decide) z⟩⟩⟩
  refine Eq.mp (congrArg (fun z => Q z h) ?_) q
  rw [e5, e3, e1]
  decide +kernel
theorem sp_in {h : PH} {Q : Int64 → PH → Prop} (q : Q (lN (cw 27)) h) : wp_X12_spelt 105 110 0 0 0 h Q := by
  refine fun v1 e1 => ⟨fun _ => ⟨fun _ => ⟨fun _ => ?_, fun z => absurd (by decide) z⟩, fun z => absurd (by decide) z⟩, fun z => absurd (by decide) z⟩
  refine Eq.mp (congrArg (fun z => Q z h) ?_) q
  rw [e1]
  decide +kernel
theorem sp_hears {h : PH} {Q : Int64 → PH → Prop} (q : Q (lN (cw 28)) h) : wp_X12_spelt 104 101 97 114 115 h Q := by
  refine fun v1 e1 => ⟨fun z => absurd z (by decide), fun _ v3 e3 => ⟨fun z => absurd z (by decide), fun _ v5 e5 => ⟨fun z => absurd z (by decide), fun _ => ?_⟩⟩⟩
  refine Eq.mp (congrArg (fun z => Q z h) ?_) q
  rw [e5, e3, e1]
  decide +kernel
theorem sp_goes {h : PH} {Q : Int64 → PH → Prop} (q : Q (lN (cw 29)) h) : wp_X12_spelt 103 111 101 115 0 h Q := by
  refine fun v1 e1 => ⟨fun z => absurd z (by decide), fun _ v3 e3 => ⟨fun z => absurd z (by decide), fun _ v5 e5 => ⟨fun _ => ?_, fun z => absurd (by decide) z⟩⟩⟩
  refine Eq.mp (congrArg (fun z => Q z h) ?_) q
  rw [e5, e3, e1]
  decide +kernel
theorem sp_count {h : PH} {Q : Int64 → PH → Prop} (q : Q (lN (cw 30)) h) : wp_X12_spelt 99 111 117 110 116 h Q := by
  refine fun v1 e1 => ⟨fun z => absurd z (by decide), fun _ v3 e3 => ⟨fun z => absurd z (by decide), fun _ v5 e5 => ⟨fun z => absurd z (by decide), fun _ => ?_⟩⟩⟩
  refine Eq.mp (congrArg (fun z => Q z h) ?_) q
  rw [e5, e3, e1]
  decide +kernel
theorem sp_door {h : PH} {Q : Int64 → PH → Prop} (q : Q (lN (cw 31)) h) : wp_X12_spelt 100 111 111 114 0 h Q := by
  refine fun v1 e1 => ⟨fun z => absurd z (by decide), fun _ v3 e3 => ⟨fun z => absurd z (by decide), fun _ v5 e5 => ⟨fun _ => ?_, fun z => absurd (by decide) z⟩⟩⟩
  refine Eq.mp (congrArg (fun z => Q z h) ?_) q
  rw [e5, e3, e1]
  decide +kernel
theorem sp_model {h : PH} {Q : Int64 → PH → Prop} (q : Q (lN (cw 32)) h) : wp_X12_spelt 109 111 100 101 108 h Q := by
  refine fun v1 e1 => ⟨fun z => absurd z (by decide), fun _ v3 e3 => ⟨fun z => absurd z (by decide), fun _ v5 e5 => ⟨fun z => absurd z (by decide), fun _ => ?_⟩⟩⟩
  refine Eq.mp (congrArg (fun z => Q z h) ?_) q
  rw [e5, e3, e1]
  decide +kernel
theorem sp_law {h : PH} {Q : Int64 → PH → Prop} (q : Q (lN (cw 33)) h) : wp_X12_spelt 108 97 119 0 0 h Q := by
  refine fun v1 e1 => ⟨fun z => absurd z (by decide), fun _ v3 e3 => ⟨fun _ => ⟨fun _ => ?_, fun z => absurd (by decide) z⟩, fun z => absurd (by decide) z⟩⟩
  refine Eq.mp (congrArg (fun z => Q z h) ?_) q
  rw [e3, e1]
  decide +kernel
theorem cw_c : ∀ k, k < 34 → q_wc 0 k = nI (cw k) ∧ cw k < 400000000 := by decide +kernel
theorem cw_inj : ∀ k, k < 34 → ∀ j, j < 34 → cw k = cw j → k = j := by decide +kernel
theorem lgc {x y : Int64} : lg_cmp x y = 0 ↔ x = y := by
  unfold lg_cmp
  by_cases z : x = y
  · subst z
    rw [if_neg (Int64.lt_irrefl), if_pos rfl]
    exact ⟨fun _ => rfl, fun _ => rfl⟩
  · by_cases w : x > y
    · rw [if_pos w]
      exact ⟨fun t => absurd t (by decide), fun t => absurd t z⟩
    · rw [if_neg w, if_neg z]
      exact ⟨fun t => absurd t (by decide), fun t => absurd t z⟩
/-! how large contents are -/
theorem wcd_lt {b : Nat → Nat} {q : Nat} : ∀ n, allL b q n → wcd b q n < 27 ^ n
  | 0, _ => by show 0 < 1; decide
  | n + 1, h => by
    have ih := wcd_lt n (fun j hj => h j (by omega))
    have c := h n (by omega)
    unfold chL at c
    show 27 * wcd b q n + (b (q + n) - 96) < 27 ^ (n + 1)
    rw [Nat.pow_succ]; omega
theorem ncd_lt {b : Nat → Nat} {q : Nat} : ∀ n, allD b q n → ncd b q n < 10 ^ n
  | 0, _ => by show 0 < 1; decide
  | n + 1, h => by
    have ih := ncd_lt n (fun j hj => h j (by omega))
    have c := h n (by omega)
    unfold chD at c
    show 10 * ncd b q n + (b (q + n) - 48) < 10 ^ (n + 1)
    rw [Nat.pow_succ]; omega
/-- a text cut -/
def Tx (b : Nat → Nat) (sz lim m : Nat) (tk : Nat → TK) : Prop := TkP b sz (min sz lim) m tk ∧ sz ≤ 640 ∧ lim ≤ 640 ∧ ∀ j, j < 640 → b j < 256
theorem Tx.end {b : Nat → Nat} {sz lim m : Nat} {tk : Nat → TK} (x : Tx b sz lim m tk) : kdT (tk m) = 0 ∧ ctT (tk m) = 0 := by
  rw [x.1.2.2.1]; exact ⟨rfl, rfl⟩
theorem Tx.m {b : Nat → Nat} {sz lim m : Nat} {tk : Nat → TK} (x : Tx b sz lim m tk) : m ≤ 640 := by
  have := x.1.2.2.2
  have : min sz lim ≤ lim := Nat.min_le_right _ _
  have := x.2.2.1
  omega
theorem Tx.in {b : Nat → Nat} {sz lim m i : Nat} {tk : Nat → TK} (x : Tx b sz lim m tk) (hi : i < m) : 1 ≤ kdT (tk i) ∧ kdT (tk i) ≤ 4 ∧ ctT (tk i) < 400000000 ∧ (kdT (tk i) = 2 → ctT (tk i) ≤ 999) ∧ (kdT (tk i) = 3 → chS (ctT (tk i))) := by
  have c := x.1.1 i hi
  have hsz := x.2.1
  rcases c.2.2.2 with ⟨n, e, r⟩ | ⟨a1, a2, a3, a4, a5, a6⟩
  · rcases r.2.2.2.2 with ⟨k1, k2, k3, k4⟩ | ⟨k1, k2, k3, k4⟩ | ⟨k1, k2, _⟩
    · have lt := wcd_lt n k3
      have p : 27 ^ n ≤ 27 ^ 6 := Nat.pow_le_pow_right (by decide) k4
      have : (27 : Nat) ^ 6 = 387420489 := by decide
      rw [k1, k2]
      exact ⟨by decide, by decide, by omega, fun z => absurd z (by decide), fun z => absurd z (by decide)⟩
    · have lt := ncd_lt n k3
      have p : 10 ^ n ≤ 10 ^ 3 := Nat.pow_le_pow_right (by decide) k4
      have : (10 : Nat) ^ 3 = 1000 := by decide
      rw [k1, k2]
      exact ⟨by decide, by decide, by omega, fun _ => by omega, fun z => absurd z (by decide)⟩
    · rw [k1, k2]
      exact ⟨by decide, by decide, by decide, fun z => absurd z (by decide), fun z => absurd z (by decide)⟩
  · have hb := x.2.2.2 (stT (tk i)) (by omega)
    rcases a6 with ⟨k1, k2⟩ | ⟨k1, k2⟩
    · rw [k1, a5]
      exact ⟨by decide, by decide, by omega, fun z => absurd z (by decide), fun _ => k2⟩
    · rw [k1, a5]
      exact ⟨by decide, by decide, by omega, fun z => absurd z (by decide), fun z => absurd z (by decide)⟩
theorem Tx.lt {b : Nat → Nat} {sz lim m i : Nat} {tk : Nat → TK} (x : Tx b sz lim m tk) (hi : i ≤ m) (h : ¬ kdT (tk i) = 0) : i < m := by
  rcases (show i < m ∨ i = m by omega) with z | z
  · exact z
  · subst z; exact absurd x.end.1 h
theorem Tx.bd {b : Nat → Nat} {sz lim m i : Nat} {tk : Nat → TK} (x : Tx b sz lim m tk) (hi : i ≤ m) : kdT (tk i) ≤ 4 ∧ ctT (tk i) < 400000000 ∧ stT (tk i) ≤ 640 := by
  rcases (show i < m ∨ i = m by omega) with z | z
  · have a := x.in z
    have c := (x.1.1 i z).2.1
    have : min sz lim ≤ lim := Nat.min_le_right _ _
    have := x.2.2.1
    exact ⟨a.2.1, a.2.2.1, by omega⟩
  · subst z
    rw [x.1.2.2.1]
    have : min sz lim ≤ lim := Nat.min_le_right _ _
    have := x.2.2.1
    exact ⟨by show 0 ≤ 4; omega, by show 0 < 400000000; omega, by show min sz lim ≤ 640; omega⟩
/-! what is read: a fault (kind, token) or the token behind, and what was read -/
abbrev PR (σ : Type) := Sum (Nat × Nat) (Nat × σ)
def bnd {σ τ : Type} (a : PR σ) (f : Nat → σ → PR τ) : PR τ := match a with
  | .inl x => .inl x
  | .inr (i, d) => f i d
theorem bnd_r {σ τ : Type} {a : PR σ} {f : Nat → σ → PR τ} {i : Nat} {d : σ} (h : a = .inr (i, d)) : bnd a f = f i d := by rw [h]; rfl
theorem bnd_l {σ τ : Type} {a : PR σ} {f : Nat → σ → PR τ} {x : Nat × Nat} (h : a = .inl x) : bnd a f = .inl x := by rw [h]; rfl
def isW (tk : Nat → TK) (c i : Nat) : Prop := kdT (tk i) = 1 ∧ ctT (tk i) = c
def pW (tk : Nat → TK) (c i : Nat) : PR Unit := if kdT (tk i) = 1 ∧ ctT (tk i) = c then .inr (i + 1, ()) else .inl (1, i)
def pS (tk : Nat → TK) (c i : Nat) : PR Unit := if kdT (tk i) = 3 ∧ ctT (tk i) = c then .inr (i + 1, ()) else .inl (1, i)
def pN (tk : Nat → TK) (lo hi i : Nat) : PR Nat := if kdT (tk i) = 2 then (if lo ≤ ctT (tk i) ∧ ctT (tk i) ≤ hi then .inr (i + 1, ctT (tk i)) else .inl (2, i)) else .inl (1, i)
/-! the class -/
def TC (h : PH) (m : Nat) (tk : Nat → TK) (i : Nat) : Prop := (qR h 3 0 = some 4 ∧ qR h 3 1 = some 5 ∧ qR h 3 2 = some 6 ∧ qL h 4 = 641 ∧ qL h 5 = 641 ∧ qL h 6 = 641) ∧ TA h (m + 1) tk ∧ qI h 3 4 = nI i ∧ i ≤ m
theorem TC.ag {h h1 : PH} {m i : Nat} {tk : Nat → TK} (t : TC h m tk i) (f : Ag [4, 5, 6] [(3, 0), (3, 1), (3, 2), (3, 3), (3, 4)] h h1) : TC h1 m tk i := by
  obtain ⟨⟨a1, a2, a3, a4, a5, a6⟩, ⟨b1, b2⟩, c, d⟩ := t
  exact ⟨⟨by rw [f.r rfl]; exact a1, by rw [f.r rfl]; exact a2, by rw [f.r rfl]; exact a3, by rw [f.L rfl]; exact a4, by rw [f.L rfl]; exact a5, by rw [f.L rfl]; exact a6⟩, ⟨by rw [f.i rfl]; exact b1, fun j hj => by rw [f.I rfl, f.I rfl, f.I rfl]; exact b2 j hj⟩, by rw [f.i rfl]; exact c, d⟩
def tF : List (Nat × Nat) := [(3, 4), (3, 6)]
section
variable {h : PH} {b : Nat → Nat} {sz lim m i : Nat} {tk : Nat → TK}
theorem TC.kd (x : Tx b sz lim m tk) (t : TC h m tk i) : vp_in (qI h 3 4) (qL h 4) ∧ vp_in (qI h 3 4) (qL h 5) ∧ vp_in (qI h 3 4) (qL h 6) ∧ qI h 4 (qI h 3 4).toNatClampNeg = nI (kdT (tk i)) ∧ qI h 5 (qI h 3 4).toNatClampNeg = nI (ctT (tk i)) ∧ qI h 6 (qI h 3 4).toNatClampNeg = nI (stT (tk i)) := by
  obtain ⟨⟨a1, a2, a3, a4, a5, a6⟩, ⟨b1, b2⟩, c, d⟩ := t
  have := x.m
  rw [c, a4, a5, a6, nI_clamp (by omega)]
  exact ⟨vp_in_nI (by omega) (by decide), vp_in_nI (by omega) (by decide), vp_in_nI (by omega) (by decide), b2 i (by omega)⟩
theorem isWord_ok (x : Tx b sz lim m tk) (t : TC h m tk i) {k : Nat} (hk : k < 34) {Q : Int32 → PH → Prop} (q1 : kdT (tk i) = 1 ∧ ctT (tk i) = cw k → Q 1 h) (q0 : ¬ (kdT (tk i) = 1 ∧ ctT (tk i) = cw k) → Q 0 h) : wp_X7_isWord 3 (wd k) h Q := by
  obtain ⟨v4, v5, v6, e4, e5, e6⟩ := t.kd x
  obtain ⟨c1, c2⟩ := cw_c k hk
  have bd := x.bd t.2.2.2
  refine ⟨4, t.1.1, v4, n_eq (kdT (tk i)) 1 (fun z => q0 (fun y => z y.1)) (fun z => ⟨5, t.1.2.1, v5, k, hk, rfl, n_eq (ctT (tk i)) (cw k) (fun y => q0 (fun u => y u.2)) (fun y => q1 ⟨z, y⟩) e5 c1⟩) e4⟩
theorem isSignC_ok (x : Tx b sz lim m tk) (t : TC h m tk i) {c : Nat} (hc : c < 256) {Q : Int32 → PH → Prop} (q1 : kdT (tk i) = 3 ∧ ctT (tk i) = c → Q 1 h) (q0 : ¬ (kdT (tk i) = 3 ∧ ctT (tk i) = c) → Q 0 h) : wp_X7_isSign 3 (nI c) h Q := by
  obtain ⟨v4, v5, v6, e4, e5, e6⟩ := t.kd x
  have bd := x.bd t.2.2.2
  exact ⟨4, t.1.1, v4, n_eq (kdT (tk i)) 3 (fun z => q0 (fun y => z y.1)) (fun z => ⟨5, t.1.2.1, v5, n_eq (ctT (tk i)) c (fun y => q0 (fun u => y u.2)) (fun y => q1 ⟨z, y⟩) e5⟩) e4⟩
theorem isNumC_ok (x : Tx b sz lim m tk) (t : TC h m tk i) {Q : Int32 → PH → Prop} (q1 : kdT (tk i) = 2 → Q 1 h) (q0 : ¬ kdT (tk i) = 2 → Q 0 h) : wp_X7_isNumber 3 h Q := by
  obtain ⟨v4, v5, v6, e4, e5, e6⟩ := t.kd x
  have bd := x.bd t.2.2.2
  exact ⟨4, t.1.1, v4, n_eq (kdT (tk i)) 2 q0 q1 e4⟩
theorem isAnyC_ok (x : Tx b sz lim m tk) (t : TC h m tk i) {Q : Int32 → PH → Prop} (q1 : kdT (tk i) = 1 → Q 1 h) (q0 : ¬ kdT (tk i) = 1 → Q 0 h) : wp_X7_isAnyWord 3 h Q := by
  obtain ⟨v4, v5, v6, e4, e5, e6⟩ := t.kd x
  have bd := x.bd t.2.2.2
  exact ⟨4, t.1.1, v4, n_eq (kdT (tk i)) 1 q0 q1 e4⟩
theorem isEndC_ok (x : Tx b sz lim m tk) (t : TC h m tk i) {Q : Int32 → PH → Prop} (q1 : i = m → Q 1 h) (q0 : i < m → Q 0 h) : wp_X7_isEnd 3 h Q := by
  obtain ⟨v4, v5, v6, e4, e5, e6⟩ := t.kd x
  have bd := x.bd t.2.2.2
  refine ⟨4, t.1.1, v4, n_eq (kdT (tk i)) 0 (fun z => q0 (x.lt t.2.2.2 z)) (fun z => q1 ?_) e4⟩
  rcases (show i < m ∨ i = m by have := t.2.2.2; omega) with y | y
  · have := (x.in y).1; omega
  · exact y
theorem contC_ok (x : Tx b sz lim m tk) (t : TC h m tk i) {Q : Int32 → PH → Prop} (q : Q (nI (ctT (tk i))) h) : wp_X7_content 3 h Q := by
  obtain ⟨v4, v5, v6, e4, e5, e6⟩ := t.kd x
  exact ⟨5, t.1.2.1, v5, by rw [e5]; exact q⟩
theorem fansC_ok (x : Tx b sz lim m tk) (t : TC h m tk i) {Q : Int32 → PH → Prop} (q : Q (-1 - nI (stT (tk i))) h) : wp_X7_faultAnswer 3 h Q := by
  obtain ⟨v4, v5, v6, e4, e5, e6⟩ := t.kd x
  exact ⟨6, t.1.2.2.1, v6, by rw [e6]; exact q⟩
theorem passC_ok (x : Tx b sz lim m tk) (t : TC h m tk i) (hi : i < m) {Q : PH → Prop} (q : ∀ h1, Fg [] [(3, 4)] h h1 → TC h1 m tk (i + 1) → Q h1) : wp_X7_pass 3 h Q := by
  have hm := x.m
  obtain ⟨a, ⟨b1, b2⟩, c, d⟩ := t
  unfold wp_X7_pass
  rw [b1, c, nI_pred]
  refine pk_le m i (fun z => by omega) (fun _ h2 e2 => ?_)
  rw [nI_1] at e2
  have f2 : Fg [] [(3, 4)] h h2 := by rw [e2]; exact Fg.sI _ _ _ _
  obtain ⟨a1, a2, a3, a4, a5, a6⟩ := a
  exact q h2 f2 ⟨⟨by rw [f2.R rfl]; exact a1, by rw [f2.R rfl]; exact a2, by rw [f2.R rfl]; exact a3, by rw [f2.L]; exact a4, by rw [f2.L]; exact a5, by rw [f2.L]; exact a6⟩, ⟨by rw [f2.I rfl]; exact b1, fun j hj => by rw [(f2.ag (C := [4, 5, 6]) (G := []) rfl).I rfl, (f2.ag (C := [4, 5, 6]) (G := []) rfl).I rfl, (f2.ag (C := [4, 5, 6]) (G := []) rfl).I rfl]; exact b2 j hj⟩, by rw [e2, rI_sI, if_pos rfl, up_eq], by omega⟩
theorem failC_ok (t : TC h m tk i) {f : Nat} {Q : Int32 → PH → Prop} (q : ∀ h1, Fg [] tF h h1 → TC h1 m tk i → qI h1 3 6 = nI f → Q 0 h1) : wp_X7_fail 3 (nI f) h Q := by
  intro h1 e1
  have f1 : Fg [] [(3, 6)] h h1 := by rw [e1]; exact Fg.sI _ _ _ _
  exact q h1 (f1.mono rfl) (t.ag (f1.ag rfl)) (by rw [e1, rI_sI, if_pos rfl, up_eq])
theorem tW_ok (x : Tx b sz lim m tk) (t : TC h m tk i) {k : Nat} (hk : k < 34) {Q : Int32 → PH → Prop} (q1 : ∀ h1, pW tk (cw k) i = .inr (i + 1, ()) → Fg [] [(3, 4)] h h1 → TC h1 m tk (i + 1) → Q 1 h1) (q0 : ∀ h1, pW tk (cw k) i = .inl (1, i) → Fg [] tF h h1 → TC h1 m tk i → qI h1 3 6 = nI 1 → Q 0 h1) : wp_X7_takeWord 3 (wd k) h Q := by
  refine isWord_ok x t hk (fun z => ⟨fun _ => passC_ok x t (x.lt t.2.2.2 (by rw [z.1]; decide)) (fun h1 f1 t1 => q1 h1 (if_pos z) f1 t1), fun y => absurd y (by decide)⟩) (fun z => ⟨fun y => absurd rfl y, fun _ => failC_ok (f := 1) t (fun h1 f1 t1 e1 => ⟨Or.inl rfl, q0 h1 (if_neg z) f1 t1 e1⟩)⟩)
theorem tS_ok (x : Tx b sz lim m tk) (t : TC h m tk i) {c : Nat} (hc : c < 256) {Q : Int32 → PH → Prop} (q1 : ∀ h1, pS tk c i = .inr (i + 1, ()) → Fg [] [(3, 4)] h h1 → TC h1 m tk (i + 1) → Q 1 h1) (q0 : ∀ h1, pS tk c i = .inl (1, i) → Fg [] tF h h1 → TC h1 m tk i → qI h1 3 6 = nI 1 → Q 0 h1) : wp_X7_takeSign 3 (nI c) h Q := by
  refine isSignC_ok x t hc (fun z => ⟨fun _ => passC_ok x t (x.lt t.2.2.2 (by rw [z.1]; decide)) (fun h1 f1 t1 => q1 h1 (if_pos z) f1 t1), fun y => absurd y (by decide)⟩) (fun z => ⟨fun y => absurd rfl y, fun _ => failC_ok (f := 1) t (fun h1 f1 t1 e1 => ⟨Or.inl rfl, q0 h1 (if_neg z) f1 t1 e1⟩)⟩)
theorem tN_ok (x : Tx b sz lim m tk) (t : TC h m tk i) {lo hi : Nat} (hlo : lo < 2 ^ 31) (hhi : hi < 2 ^ 31) {Q : Int32 → PH → Prop} (q1 : ∀ h1 v, pN tk lo hi i = .inr (i + 1, v) → lo ≤ v → v ≤ hi → v ≤ 999 → Fg [] [(3, 4)] h h1 → TC h1 m tk (i + 1) → Q (nI v) h1) (q0 : ∀ h1 f, pN tk lo hi i = .inl (f, i) → Fg [] tF h h1 → TC h1 m tk i → qI h1 3 6 = nI f → Q (-1) h1) : wp_X7_takeNumber 3 (nI lo) (nI hi) h Q := by
  obtain ⟨v4, v5, v6, e4, e5, e6⟩ := t.kd x
  have bd := x.bd t.2.2.2
  refine isNumC_ok x t (fun z => ⟨fun _ => ⟨5, t.1.2.1, v5, fun v7 e7 => ?_⟩, fun y => absurd y (by decide)⟩) (fun z => ⟨fun y => absurd rfl y, fun _ => failC_ok (f := 1) t (fun h1 f1 t1 e1 => q0 h1 1 (if_neg z) f1 t1 e1)⟩)
  rw [e5] at e7
  subst e7
  have lt := x.lt t.2.2.2 (by rw [z]; decide)
  have c9 := (x.in lt).2.2.2.1 z
  have bad : ¬ (lo ≤ ctT (tk i) ∧ ctT (tk i) ≤ hi) → pN tk lo hi i = .inl (2, i) := fun y => by unfold pN; rw [if_pos z, if_neg y]
  refine pk_lt (ctT (tk i)) lo (fun y => failC_ok (f := 2) t (fun h1 f1 t1 e1 => q0 h1 2 (bad (by omega)) f1 t1 e1)) (fun y => pk_le (ctT (tk i)) hi (fun y2 => passC_ok x t lt (fun h1 f1 t1 => q1 h1 _ ?_ y y2 c9 f1 t1)) (fun y2 => failC_ok (f := 2) t (fun h1 f1 t1 e1 => q0 h1 2 (bad (by omega)) f1 t1 e1)))
  unfold pN
  rw [if_pos z, if_pos ⟨y, y2⟩]
theorem tE_ok (x : Tx b sz lim m tk) (t : TC h m tk i) (tl : qI h 3 5 = if lim < sz then 1 else 0) {Q : Int32 → PH → Prop} (q1 : i = m → ¬ lim < sz → Q 1 h) (q0 : ∀ h1, ¬ (i = m ∧ ¬ lim < sz) → Fg [] tF h h1 → TC h1 m tk i → qI h1 3 6 = nI 1 → Q 0 h1) : wp_X7_takeEnd 3 h Q := by
  refine isEndC_ok x t (fun z => ⟨fun y => absurd y (by decide), fun _ => ⟨fun y => q1 z (fun u => ?_), fun y => failC_ok (f := 1) t (fun h1 f1 t1 e1 => ⟨fun _ => q0 h1 (fun u => y ?_) f1 t1 e1, fun u => absurd rfl u⟩)⟩⟩) (fun z => ⟨fun _ => failC_ok (f := 1) t (fun h1 f1 t1 e1 => ⟨fun _ => q0 h1 (fun u => by omega) f1 t1 e1, fun u => absurd rfl u⟩), fun y => absurd rfl y⟩)
  · rw [tl, if_pos u] at y; exact absurd y (by decide)
  · rw [tl, if_neg u.2]
theorem known_ok (x : Tx b sz lim m tk) (t : TC h m tk i) {Q : Option Nat → PH → Prop} (q1 : ∀ k, k < 34 → kdT (tk i) = 1 → ctT (tk i) = cw k → Q (some (wd k)) h) (q0 : ¬ (kdT (tk i) = 1 ∧ ∃ k, k < 34 ∧ ctT (tk i) = cw k) → Q none h) : wp_X7_knownWord 3 h Q := by
  obtain ⟨v4, v5, v6, e4, e5, e6⟩ := t.kd x
  have bd := x.bd t.2.2.2
  refine ⟨4, t.1.1, v4, pk_eq (kdT (tk i)) 1 (fun z => ?_) (fun z => q0 (fun y => z y.1)) e4⟩
  refine loopR 34 (fun k s => s = (nI k, h) ∧ ∀ j, j < k → ¬ ctT (tk i) = cw j) (fun s => s.1.toNatClampNeg) ⟨rfl, fun j hj => absurd hj (Nat.not_lt_zero j)⟩ (fun k s hk p => by rw [p.1]; exact nI_clamp (by omega)) ?_ ?_
  · rintro k s hk ⟨p, ih⟩ back hb
    subst p
    obtain ⟨c1, c2⟩ := cw_c k hk
    have ck : (nI k).toNatClampNeg = k := nI_clamp (by omega)
    refine pk_le 34 k (fun z => by omega) (fun _ => ⟨vp_in_nI hk (by decide), k, hk, by dsimp only; rw [ck], 5, t.1.2.1, v5, n_eq (cw k) (ctT (tk i)) (fun y w ew => hb _ ⟨by rw [ew, nI_1], fun j hj => ?_⟩) (fun y => ⟨vp_in_nI hk (by decide), ?_⟩) c1 e5⟩)
    · rcases (show j < k ∨ j = k by omega) with u | u
      · exact ih j u
      · rw [u]; exact fun u2 => y u2.symm
    · dsimp only
      rw [ck]; exact q1 k hk z y.symm
  · rintro s ⟨p, ih⟩ back
    subst p
    exact pk_le 34 34 (fun _ => q0 (fun ⟨_, k, hk, y⟩ => ih k hk y)) (fun z => by omega)
end

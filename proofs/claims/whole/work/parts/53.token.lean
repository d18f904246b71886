/-! ===== PURE: TOKENS of a text, as the class cuts them ===== -/
def chL (c : Nat) : Prop := 97 ≤ c ∧ c ≤ 122
def chD (c : Nat) : Prop := 48 ≤ c ∧ c ≤ 57
def chS (c : Nat) : Prop := c = 59 ∨ c = 60 ∨ c = 61 ∨ c = 62 ∨ c = 40 ∨ c = 41
def chB (c : Nat) : Prop := c = 32 ∨ c = 10
def chA (c : Nat) : Prop := chL c ∨ chD c
def wcd (b : Nat → Nat) (q : Nat) : Nat → Nat
  | 0 => 0
  | n + 1 => 27 * wcd b q n + (b (q + n) - 96)
def ncd (b : Nat → Nat) (q : Nat) : Nat → Nat
  | 0 => 0
  | n + 1 => 10 * ncd b q n + (b (q + n) - 48)
def allL (b : Nat → Nat) (q n : Nat) : Prop := ∀ j, j < n → chL (b (q + j))
def allD (b : Nat → Nat) (q n : Nat) : Prop := ∀ j, j < n → chD (b (q + j))
/-- kind, content, start, next -/
abbrev TK := Nat × Nat × Nat × Nat
def kdT (t : TK) : Nat := t.1
def ctT (t : TK) : Nat := t.2.1
def stT (t : TK) : Nat := t.2.2.1
def nxT (t : TK) : Nat := t.2.2.2
/-- n letters or digits from q on, and what they are -/
def runAt (b : Nat → Nat) (sz q n kd ct : Nat) : Prop := 0 < n ∧ q + n ≤ sz ∧ (∀ j, j < n → chA (b (q + j))) ∧ (q + n < sz → ¬ chA (b (q + n))) ∧ ((kd = 1 ∧ ct = wcd b q n ∧ allL b q n ∧ n ≤ 6) ∨ (kd = 2 ∧ ct = ncd b q n ∧ allD b q n ∧ n ≤ 3) ∨ (kd = 4 ∧ ct = 0 ∧ ¬ (allL b q n ∧ n ≤ 6) ∧ ¬ (allD b q n ∧ n ≤ 3)))
def tokAt (b : Nat → Nat) (sz : Nat) (t : TK) : Prop := (∃ n, nxT t = stT t + n ∧ runAt b sz (stT t) n (kdT t) (ctT t)) ∨ (¬ chA (b (stT t)) ∧ ¬ chB (b (stT t)) ∧ nxT t = stT t + 1 ∧ stT t < sz ∧ ctT t = b (stT t) ∧ ((kdT t = 3 ∧ chS (b (stT t))) ∨ (kdT t = 4 ∧ ¬ chS (b (stT t)))))
def pos (tk : Nat → TK) (i : Nat) : Nat := if i = 0 then 0 else nxT (tk (i - 1))
def toks (b : Nat → Nat) (sz L k : Nat) (tk : Nat → TK) : Prop := ∀ i, i < k → pos tk i ≤ stT (tk i) ∧ stT (tk i) < L ∧ (∀ j, pos tk i ≤ j → j < stT (tk i) → chB (b j)) ∧ tokAt b sz (tk i)
theorem tok_nx {b : Nat → Nat} {sz : Nat} {t : TK} (h : tokAt b sz t) : stT t < nxT t ∧ nxT t ≤ sz := by
  rcases h with ⟨n, e, r⟩ | ⟨_, _, e, s, _⟩
  · have := r.1
    have := r.2.1
    omega
  · omega
theorem toks_le {b : Nat → Nat} {sz L k : Nat} {tk : Nat → TK} (t : toks b sz L k tk) : ∀ i, i ≤ k → i ≤ pos tk i := by
  intro i
  induction i with
  | zero => intro _; exact Nat.zero_le _
  | succ i ih =>
    intro hi
    have a := ih (by omega)
    have c := t i (by omega)
    have d := tok_nx c.2.2.2
    unfold pos
    rw [if_neg (by omega), Nat.add_sub_cancel]
    omega
theorem toks_lt {b : Nat → Nat} {sz L k i : Nat} {tk : Nat → TK} (t : toks b sz L k tk) (hi : i < k) : i ≤ stT (tk i) ∧ i < L := by
  have a := toks_le t i (by omega)
  have c := t i hi
  omega
theorem tk_up {b : Nat → Nat} {sz L k : Nat} {tk : Nat → TK} {x : TK} (t : toks b sz L k tk) (h1 : pos tk k ≤ stT x) (h2 : stT x < L) (h3 : ∀ j, pos tk k ≤ j → j < stT x → chB (b j)) (h4 : tokAt b sz x) : toks b sz L (k + 1) (fun i => if i = k then x else tk i) := by
  intro i hi
  have e : pos (fun i => if i = k then x else tk i) i = pos tk i := by
    unfold pos
    by_cases z : i = 0
    · rw [if_pos z, if_pos z]
    · rw [if_neg z, if_neg z]
      dsimp only
      rw [if_neg (by omega)]
  rw [e]
  try dsimp only
  by_cases z : i = k
  · subst z
    rw [if_pos rfl]; exact ⟨h1, h2, h3, h4⟩
  · rw [if_neg z]; exact t i (by omega)
theorem pos_up {k : Nat} {tk : Nat → TK} {x : TK} : pos (fun i => if i = k then x else tk i) (k + 1) = nxT x := by
  unfold pos
  rw [if_neg (by omega), Nat.add_sub_cancel]
  dsimp only
  rw [if_pos rfl]
/-! characters -/
theorem isL_ok {c : Nat} {h : PH} {Q : Int32 → PH → Prop} (hc : c < 256) (q1 : chL c → Q 1 h) (q0 : ¬ chL c → Q 0 h) : wp_X7_isLetter (nI c) h Q := by
  unfold chL at q1 q0
  exact pk_lt c 97 (fun z => q0 (by omega)) (fun z => pk_lt 122 c (fun y => q0 (by omega)) (fun y => q1 ⟨z, y⟩))
theorem isDg_ok {c : Nat} {h : PH} {Q : Int32 → PH → Prop} (hc : c < 256) (q1 : chD c → Q 1 h) (q0 : ¬ chD c → Q 0 h) : wp_X7_isDigit (nI c) h Q := by
  unfold chD at q1 q0
  exact pk_lt c 48 (fun z => q0 (by omega)) (fun z => pk_lt 57 c (fun y => q0 (by omega)) (fun y => q1 ⟨z, y⟩))
theorem isSg_ok {c : Nat} {h : PH} {Q : Int32 → PH → Prop} (hc : c < 256) (q1 : chS c → Q 1 h) (q0 : ¬ chS c → Q 0 h) : wp_X7_isSingle (nI c) h Q := by
  unfold chS at q1 q0
  exact pk_eq c 59 (fun z => q1 (by omega)) (fun z1 => pk_eq c 60 (fun z => q1 (by omega)) (fun z2 => pk_eq c 61 (fun z => q1 (by omega)) (fun z3 => pk_eq c 62 (fun z => q1 (by omega)) (fun z4 => pk_eq c 40 (fun z => q1 (by omega)) (fun z5 => n_eq c 41 (fun z => q0 (by omega)) (fun z => q1 (by omega)))))))
/-- the class's rows of tokens -/
def TA (h : PH) (k : Nat) (tk : Nat → TK) : Prop := qI h 3 3 = nI k ∧ ∀ i, i < k → qI h 4 i = nI (kdT (tk i)) ∧ qI h 5 i = nI (ctT (tk i)) ∧ qI h 6 i = nI (stT (tk i))
theorem tadd_ok {h : PH} {k kd ct st nx : Nat} {tk : Nat → TK} {Q : PH → Prop} (sh : Shp h) (ta : TA h k tk) (hk : k < 641) (q : ∀ h1, Fg [4, 5, 6] [(3, 3)] h h1 → TA h1 (k + 1) (fun i => if i = k then (kd, ct, st, nx) else tk i) → Q h1) : wp_X7_add 3 (nI kd) (nI ct) (nI st) h Q := by
  obtain ⟨t1, t2⟩ := ta
  have r0 : qR h 3 0 = some 4 := sh.R 3 0 4 (by decide)
  have ck : (nI k).toNatClampNeg = k := nI_clamp (by omega)
  refine ⟨fun z => absurd z (by rw [t1]; exact nI_pos (by omega)), fun _ => ⟨4, r0, ?_⟩⟩
  rw [t1, sh.L 4 (n := 641) (by decide) rfl]
  refine pk_le 641 k (fun z => by omega) (fun _ => ⟨4, r0, by rw [sh.L 4 (n := 641) (by decide) rfl]; exact vp_in_nI hk (by decide), fun h7 e7 => ?_⟩)
  have v7 : qI h7 3 3 = nI k := by rw [e7, rI_ne _ _ _ (by decide)]; exact t1
  rw [v7]
  refine ⟨5, by rw [e7]; exact sh.R 3 1 5 (by decide), by rw [show qL h7 5 = 641 by rw [e7]; exact sh.L 5 (by decide) rfl]; exact vp_in_nI hk (by decide), fun h11 e11 => ?_⟩
  have v11 : qI h11 3 3 = nI k := by rw [e11, rI_ne _ _ _ (by decide)]; exact v7
  rw [v11]
  refine ⟨6, by rw [e11, e7]; exact sh.R 3 2 6 (by decide), by rw [show qL h11 6 = 641 by rw [e11, e7]; exact sh.L 6 (by decide) rfl]; exact vp_in_nI hk (by decide), fun h15 e15 h17 e17 => ?_⟩
  rw [ck] at e7 e11 e15
  have v15 : qI h15 3 3 = nI k := by rw [e15, rI_ne _ _ _ (by decide)]; exact v11
  rw [v15, nI_1] at e17
  refine q h17 ?_ ⟨by rw [e17, rI_sI, if_pos rfl, up_eq], fun i hi => ?_⟩
  · rw [e17, e15, e11, e7]
    exact (((Fg.cI _ _ _ _).tr (Fg.cI _ _ _ _) (U := [4, 5, 6]) (V := [(3, 3)]) rfl rfl).tr (Fg.cI _ _ _ _) (U := [4, 5, 6]) (V := [(3, 3)]) rfl rfl).tr (Fg.sI _ _ _ _) rfl rfl
  · dsimp only
    rw [e17, rI_ne _ _ _ (show 4 ≠ 3 by decide), rI_ne _ _ _ (show 5 ≠ 3 by decide), rI_ne _ _ _ (show 6 ≠ 3 by decide), e15, rI_ne _ _ _ (show 4 ≠ 6 by decide), rI_ne _ _ _ (show 5 ≠ 6 by decide), rI_sI, if_pos rfl, up_at, e11, rI_ne _ _ _ (show 4 ≠ 5 by decide), rI_ne _ _ _ (show 6 ≠ 5 by decide), rI_sI, if_pos rfl, up_at, e7, rI_ne _ _ _ (show 5 ≠ 4 by decide), rI_ne _ _ _ (show 6 ≠ 4 by decide), rI_sI, if_pos rfl, up_at]
    by_cases z : i = k
    · rw [if_pos z, if_pos z, if_pos z, if_pos z]; exact ⟨rfl, rfl, rfl⟩
    · rw [if_neg z, if_neg z, if_neg z, if_neg z]; exact t2 i (by omega)
theorem wcd_s {b : Nat → Nat} {q n : Nat} (hc : chL (b (q + n))) : nI (wcd b q n) * 27 + nI (b (q + n)) - 97 + 1 = nI (wcd b q (n + 1)) := by
  unfold chL at hc
  rw [show (27 : Int32) = nI 27 from rfl, pk_mul, nI_add, show (97 : Int32) = nI 97 from rfl, pk_sub (by omega), nI_1]
  show _ = nI (27 * wcd b q n + (b (q + n) - 96))
  congr 1
  omega
theorem ncd_s {b : Nat → Nat} {q n : Nat} (hc : chD (b (q + n))) : nI (ncd b q n) * 10 + nI (b (q + n)) - 48 = nI (ncd b q (n + 1)) := by
  unfold chD at hc
  rw [show (10 : Int32) = nI 10 from rfl, pk_mul, nI_add, show (48 : Int32) = nI 48 from rfl, pk_sub (by omega)]
  show _ = nI (10 * ncd b q n + (b (q + n) - 48))
  congr 1
  omega
theorem cutW_ok {h : PH} {b : Nat → Nat} {sz k q : Nat} {tk : Nat → TK} {Q : Int32 → PH → Prop} (sh : Shp h) (bt : BT h b) (hsz : sz ≤ 640) (v1 : qI h 1 1 = nI sz) (ta : TA h k tk) (hk : k < 641) (hq : q < sz) (ha : chA (b q))
    (qq : ∀ h1 n kd ct, runAt b sz q n kd ct → Fg [4, 5, 6] [(3, 3)] h h1 → TA h1 (k + 1) (fun i => if i = k then (kd, ct, q, q + n) else tk i) → Q (nI (q + n)) h1) : wp_X7_cutWordOrNumber 3 1 (nI q) h Q := by
  -- what lies behind the run
  have fin : ∀ (n lc dc : Nat) (cd nm : Int32), q + n ≤ sz → lc + dc = n → (∀ j, j < n → chA (b (q + j))) → (dc = 0 → allL b q n ∧ cd = nI (wcd b q n)) → (lc = 0 → allD b q n ∧ nm = nI (ncd b q n)) → (dc ≠ 0 → ¬ allL b q n) → (lc ≠ 0 → ¬ allD b q n) → (q + n < sz → ¬ chA (b (q + n))) → wp_X7_cutWordOrNumber_100 3 (nI q) (nI lc) (nI dc) cd nm (nI (q + n)) h Q := by
    intro n lc dc cd nm h1 h2 h3 h4 h5 h6 h7 h8
    have n0 : 0 < n := by
      rcases Nat.eq_zero_or_pos n with z | z
      · subst z; exact absurd ha (h8 (by omega))
      · exact z
    have bad : ¬ (allL b q n ∧ n ≤ 6) → ¬ (allD b q n ∧ n ≤ 3) → wp_X7_add 3 4 0 (nI q) h (fun h29 => Q (nI (q + n)) h29) := fun z1 z2 => tadd_ok (kd := 4) (ct := 0) (nx := q + n) sh ta hk (fun h9 f9 t9 => qq h9 n 4 0 ⟨n0, h1, h3, h8, Or.inr (Or.inr ⟨rfl, rfl, z1, z2⟩)⟩ f9 t9)
    have p122 : ¬ (allL b q n ∧ n ≤ 6) → wp_X7_cutWordOrNumber_122 3 (nI q) (nI lc) (nI dc) nm (nI (q + n)) h Q := fun z1 => by
      refine n_eq lc 0 (fun z => bad z1 (fun y => h7 z y.1)) (fun z => pk_lt 3 dc (fun y => bad z1 (by omega)) (fun y => ?_))
      obtain ⟨d1, d2⟩ := h5 z
      rw [d2]
      exact tadd_ok (kd := 2) (nx := q + n) sh ta hk (fun h9 f9 t9 => qq h9 n 2 _ ⟨n0, h1, h3, h8, Or.inr (Or.inl ⟨rfl, rfl, d1, by omega⟩)⟩ f9 t9)
    refine n_eq dc 0 (fun z => p122 (fun y => h6 z y.1)) (fun z => pk_lt 6 lc (fun y => p122 (by omega)) (fun y => ?_))
    obtain ⟨d1, d2⟩ := h4 z
    rw [d2]
    exact tadd_ok (kd := 1) (nx := q + n) sh ta hk (fun h9 f9 t9 => qq h9 n 1 _ ⟨n0, h1, h3, h8, Or.inl ⟨rfl, rfl, d1, by omega⟩⟩ f9 t9)
  refine ⟨fun s => ∃ n lc dc, s.1 = nI lc ∧ s.2.1 = nI dc ∧ s.2.2.2.2.1 = nI (q + n) ∧ s.2.2.2.2.2 = h ∧ q + n ≤ sz ∧ lc + dc = n ∧ (∀ j, j < n → chA (b (q + j))) ∧ (dc = 0 → allL b q n ∧ s.2.2.1 = nI (wcd b q n)) ∧ (lc = 0 → allD b q n ∧ s.2.2.2.1 = nI (ncd b q n)) ∧ (dc ≠ 0 → ¬ allL b q n) ∧ (lc ≠ 0 → ¬ allD b q n), fun s => sz - s.2.2.2.2.1.toNatClampNeg, ⟨0, 0, 0, rfl, rfl, rfl, rfl, by omega, rfl, fun j hj => absurd hj (Nat.not_lt_zero j), fun _ => ⟨fun j hj => absurd hj (Nat.not_lt_zero j), rfl⟩, fun _ => ⟨fun j hj => absurd hj (Nat.not_lt_zero j), rfl⟩, fun z => absurd rfl z, fun z => absurd rfl z⟩, ?_⟩
  rintro ⟨l3, l4, l5, l6, l7, h'⟩ ⟨n, lc, dc, s1, s2, s3, s4, s5, s6, s7, s8, s9, s10, s11⟩
  dsimp only at s1 s2 s3 s4 s8 s9
  subst s1 s2 s3 s4
  have hn : q + n < sz → (b (q + n)) < 256 := fun z => (bt.2.2 _ (by omega)).2
  refine ⟨fun z => ?_, fun z => ?_⟩
  · rw [v1] at z
    have := (nI_leI (by omega) (by omega)).mp z
    exact fin n lc dc l5 l6 s5 s6 s7 s8 s9 s10 s11 (fun y => by omega)
  · rw [v1] at z
    have lt : q + n < sz := by
      rcases Nat.lt_or_ge (q + n) sz with y | y
      · exact y
      · exact absurd (nI_le y (by omega)) z
    have hb := hn lt
    have m7 : ∀ w : Int32, w = nI (q + n) + 1 → sz - w.toNatClampNeg < sz - (nI (q + n)).toNatClampNeg := fun w ew => by
      rw [ew, nI_1, nI_clamp (by omega), nI_clamp (by omega)]; omega
    have snoc : ∀ {P : Nat → Prop}, (∀ j, j < n → P (b (q + j))) → P (b (q + n)) → ∀ j, j < n + 1 → P (b (q + j)) := fun a c j hj => by
      rcases (show j < n ∨ j = n by omega) with y | y
      · exact a j y
      · rw [y]; exact c
    have more : chA (b (q + n)) → wp_X7_cutWordOrNumber_47 3 1 (nI q) (nI lc) (nI dc) l5 l6 (nI (q + n)) (fun s2 => (∃ n lc dc, s2.1 = nI lc ∧ s2.2.1 = nI dc ∧ s2.2.2.2.2.1 = nI (q + n) ∧ s2.2.2.2.2.2 = h' ∧ q + n ≤ sz ∧ lc + dc = n ∧ (∀ j, j < n → chA (b (q + j))) ∧ (dc = 0 → allL b q n ∧ s2.2.2.1 = nI (wcd b q n)) ∧ (lc = 0 → allD b q n ∧ s2.2.2.2.1 = nI (ncd b q n)) ∧ (dc ≠ 0 → ¬ allL b q n) ∧ (lc ≠ 0 → ¬ allD b q n)) ∧ sz - s2.2.2.2.2.1.toNatClampNeg < sz - (nI (q + n)).toNatClampNeg) h' Q := by
      intro hA
      refine byteAt_ok bt (by omega) (isL_ok hb (fun hl => ⟨fun y => absurd y (by decide), fun _ v24 e24 v27 e27 => ?_⟩) (fun hl => ⟨fun _ v21 e21 v22 e22 v23 e23 => ?_, fun y => absurd rfl y⟩))
      · refine ⟨⟨n + 1, lc + 1, dc, by rw [e24]; exact nI_1 lc, rfl, by rw [e27, nI_1, Nat.add_assoc], rfl, by omega, by omega, snoc s7 hA, fun y => ?_, fun y => by omega, fun y t => s10 y (fun j hj => t j (by omega)), fun y t => ?_⟩, m7 _ e27⟩
        · obtain ⟨d1, d2⟩ := s8 y
          refine ⟨snoc d1 hl, ?_⟩
          dsimp only
          rw [d2]; exact wcd_s hl
        · have := t n (by omega)
          unfold chD at this
          unfold chL at hl
          omega
      · have hd : chD (b (q + n)) := by
          rcases hA with y | y
          · exact absurd y hl
          · exact y
        refine ⟨⟨n + 1, lc, dc + 1, rfl, by rw [e21]; exact nI_1 dc, by rw [e23, nI_1, Nat.add_assoc], rfl, by omega, by omega, snoc s7 hA, fun y => by omega, fun y => ?_, fun y t => hl (t n (by omega)), fun y t => s11 y (fun j hj => t j (by omega))⟩, m7 _ e23⟩
        obtain ⟨d1, d2⟩ := s9 y
        refine ⟨snoc d1 hd, ?_⟩
        dsimp only
        rw [e22, d2]; exact ncd_s hd
    refine byteAt_ok bt (by omega) (isL_ok hb (fun hl => ⟨fun _ => more (Or.inl hl), fun y => absurd y (by decide)⟩) (fun hl => ⟨fun y => absurd rfl y, fun _ => byteAt_ok bt (by omega) (isDg_ok hb (fun hd => ⟨fun y => absurd y (by decide), fun _ => more (Or.inr hd)⟩) (fun hd => ⟨fun _ => fin n lc dc l5 l6 s5 s6 s7 s8 s9 s10 s11 (fun _ t => ?_), fun y => absurd rfl y⟩))⟩))
    rcases t with t | t
    · exact hl t
    · exact hd t
/-- the whole text cut: m tokens and the end -/
def TkP (b : Nat → Nat) (sz L m : Nat) (tk : Nat → TK) : Prop := toks b sz L m tk ∧ (∀ j, pos tk m ≤ j → j < L → chB (b j)) ∧ tk m = (0, 0, L, 0) ∧ m ≤ L
theorem cut_ok {h : PH} {b : Nat → Nat} {sz lim : Nat} {Q : PH → Prop} (sh : Shp h) (bt : BT h b) (hsz : sz ≤ 640) (hl : lim ≤ 640) (v1 : qI h 1 1 = nI sz)
    (q : ∀ h1 m tk, TkP b sz (min sz lim) m tk → Fg [4, 5, 6] [(3, 3), (3, 4), (3, 5), (3, 6)] h h1 → TA h1 (m + 1) tk → qI h1 3 4 = 0 → qI h1 3 5 = (if lim < sz then 1 else 0) → qI h1 3 6 = 0 → Q h1) : wp_X7_cut 3 1 (nI lim) h Q := by
  refine min_ok ?_
  rw [v1, qmin_n (by omega) (by omega)]
  obtain ⟨L, eL⟩ : ∃ L, L = min sz lim := ⟨_, rfl⟩
  rw [← eL] at q ⊢
  have rest : ∀ s0 : Int32, s0 = (if lim < sz then 1 else 0) → wp_X7_cut_23 3 1 (nI L) s0 3 h Q := by
    intro s0 es
    refine ⟨by rw [es]; split; exact Or.inr rfl; exact Or.inl rfl, fun h4 e4 h6 e6 h7 e7 h8 e8 => ?_⟩
    have f8 : Fg [4, 5, 6] [(3, 3), (3, 4), (3, 5), (3, 6)] h h8 := by
      rw [e8, e7, e6, e4]
      exact (((Fg.sI _ _ _ _).tr (Fg.sI _ _ _ _) (U := [4, 5, 6]) (V := [(3, 3), (3, 4), (3, 5), (3, 6)]) rfl rfl).tr (Fg.sI _ _ _ _) (U := [4, 5, 6]) (V := [(3, 3), (3, 4), (3, 5), (3, 6)]) rfl rfl).tr (Fg.sI _ _ _ _) rfl rfl
    have a3 : qI h8 3 3 = 0 := by rw [e8, e7, e6, e4]; simp only [qI_sI]; simp
    have a4 : qI h8 3 4 = 0 := by rw [e8, e7, e6, e4]; simp only [qI_sI]; simp
    have a5 : qI h8 3 5 = s0 := by rw [e8, e7, e6, e4]; simp only [qI_sI]; simp
    have a6 : qI h8 3 6 = 0 := by rw [e8, e7, e6, e4]; simp only [qI_sI]; simp
    refine ⟨fun s => ∃ p k tk, s.1 = nI p ∧ p ≤ sz ∧ toks b sz L k tk ∧ pos tk k ≤ p ∧ (∀ j, pos tk k ≤ j → j < p → chB (b j)) ∧ Fg [4, 5, 6] [(3, 3)] h8 s.2 ∧ TA s.2 k tk, fun s => sz - s.1.toNatClampNeg, ⟨0, 0, fun _ => (0, 0, 0, 0), rfl, by omega, fun i hi => absurd hi (Nat.not_lt_zero i), Nat.le_refl 0, fun j h1 h2 => absurd h2 (Nat.not_lt_zero j), Fg.rf _ _ _, a3, fun i hi => absurd hi (Nat.not_lt_zero i)⟩, ?_⟩
    rintro ⟨l4, g⟩ ⟨p, k, tk, s1, s2, s3, s4, s5, s6, s7⟩
    dsimp only at s1 s6 s7
    subst s1
    have f8g : Fg [4, 5, 6] [(3, 3), (3, 4), (3, 5), (3, 6)] h g := f8.tr s6 rfl rfl
    have shg := sh.fg f8g rfl
    have btg := bt.ag (f8g.ag rfl)
    have v1g : qI g 1 1 = nI sz := by rw [f8g.I rfl]; exact v1
    have kL : k ≤ p := by have := toks_le s3 k (Nat.le_refl k); omega
    refine pk_le L p (fun z => ?_) (fun z => ?_)
    · refine tadd_ok (kd := 0) (ct := 0) (st := L) (nx := 0) shg s7 (by omega) (fun g2 f2 t2 => ?_)
      have kL2 : k ≤ L := by
        rcases Nat.eq_zero_or_pos k with y | y
        · omega
        · have := (toks_lt s3 (show k - 1 < k by omega)).2
          omega
      have ep : pos (fun i => if i = k then (0, 0, L, 0) else tk i) k = pos tk k := by
        unfold pos
        by_cases y : k = 0
        · rw [if_pos y, if_pos y]
        · rw [if_neg y, if_neg y]
          dsimp only
          rw [if_neg (by omega)]
      refine q g2 k _ ⟨fun i hi => ?_, fun j h1 h2 => s5 j (by rw [ep] at h1; exact h1) (by omega), if_pos rfl, kL2⟩ (f8g.tr f2 rfl rfl) t2 (by rw [f2.I rfl, s6.I rfl]; exact a4) (by rw [f2.I rfl, s6.I rfl, a5]; exact es) (by rw [f2.I rfl, s6.I rfl]; exact a6)
      have ei : pos (fun i => if i = k then (0, 0, L, 0) else tk i) i = pos tk i := by
        unfold pos
        by_cases y : i = 0
        · rw [if_pos y, if_pos y]
        · rw [if_neg y, if_neg y]
          dsimp only
          rw [if_neg (by omega)]
      rw [ei]
      rw [if_neg (by omega)]
      exact s3 i hi
    · have lt : p < sz := by omega
      have hb := (bt.2.2 p (by omega)).2
      have m1 : ∀ w : Int32, w = nI p + 1 → sz - w.toNatClampNeg < sz - (nI p).toNatClampNeg := fun w ew => by
        rw [ew, nI_1, nI_clamp (by omega), nI_clamp (by omega)]; omega
      have blank : chB (b p) → ∀ w, w = nI p + 1 → (∃ p k tk, w = nI p ∧ p ≤ sz ∧ toks b sz L k tk ∧ pos tk k ≤ p ∧ (∀ j, pos tk k ≤ j → j < p → chB (b j)) ∧ Fg [4, 5, 6] [(3, 3)] h8 g ∧ TA g k tk) ∧ sz - w.toNatClampNeg < sz - (nI p).toNatClampNeg := fun hB w ew => ⟨⟨p + 1, k, tk, by rw [ew]; exact nI_1 p, by omega, s3, by omega, fun j h1 h2 => by
        rcases (show j < p ∨ j = p by omega) with y | y
        · exact s5 j h1 y
        · rw [y]; exact hB, s6, s7⟩, m1 w ew⟩
      have word : chA (b p) → wp_X7_cutWordOrNumber 3 1 (nI p) g (fun r21 h20 => (wp_J9_max_7cf53 (nI p + 1) r21 h20 (fun r23 h22 => (∃ p k tk, r23 = nI p ∧ p ≤ sz ∧ toks b sz L k tk ∧ pos tk k ≤ p ∧ (∀ j, pos tk k ≤ j → j < p → chB (b j)) ∧ Fg [4, 5, 6] [(3, 3)] h8 h22 ∧ TA h22 k tk) ∧ sz - r23.toNatClampNeg < sz - (nI p).toNatClampNeg))) := by
        intro hA
        refine cutW_ok shg btg hsz v1g s7 (by omega) lt hA (fun g2 n kd ct rn f2 t2 => max_ok ?_)
        have n0 := rn.1
        have n1 := rn.2.1
        rw [nI_1, qmax_n (by omega) (by omega), Nat.max_eq_right (by omega)]
        have up := tk_up (x := (kd, ct, p, p + n)) s3 s4 z s5 (Or.inl ⟨n, rfl, rn⟩)
        refine ⟨⟨p + n, k + 1, _, rfl, n1, up, by rw [pos_up]; exact Nat.le_refl _, fun j h1 h2 => ?_, s6.tr f2 rfl rfl, t2⟩, by rw [nI_clamp (by omega), nI_clamp (by omega)]; omega⟩
        rw [pos_up] at h1
        have h1 : p + n ≤ j := h1
        omega
      have sing : ¬ chA (b p) → ¬ chB (b p) → ∀ kd, (kd = 3 ∧ chS (b p) ∨ kd = 4 ∧ ¬ chS (b p)) → wp_X7_add 3 (nI kd) (nI (b p)) (nI p) g (fun h30 => ∀ v32 : Int32, v32 = nI p + 1 → (∃ p k tk, v32 = nI p ∧ p ≤ sz ∧ toks b sz L k tk ∧ pos tk k ≤ p ∧ (∀ j, pos tk k ≤ j → j < p → chB (b j)) ∧ Fg [4, 5, 6] [(3, 3)] h8 h30 ∧ TA h30 k tk) ∧ sz - v32.toNatClampNeg < sz - (nI p).toNatClampNeg) := by
        intro hA hB kd hk
        refine tadd_ok (nx := p + 1) shg s7 (by omega) (fun g2 f2 t2 w ew => ⟨⟨p + 1, k + 1, _, by rw [ew]; exact nI_1 p, by omega, tk_up (x := (kd, b p, p, p + 1)) s3 s4 z s5 (Or.inr ⟨hA, hB, rfl, lt, rfl, hk⟩), by rw [pos_up]; exact Nat.le_refl _, fun j h1 h2 => ?_, s6.tr f2 rfl rfl, t2⟩, m1 w ew⟩)
        rw [pos_up] at h1
        have h1 : p + 1 ≤ j := h1
        omega
      refine byteAt_ok btg (by omega) (pk_eq (b p) 32 (fun y => blank (Or.inl y)) (fun y1 => n_eq (b p) 10 (fun y2 => isL_ok hb (fun hl => ⟨fun _ => word (Or.inl hl), fun y => absurd y (by decide)⟩) (fun hl => ⟨fun y => absurd rfl y, fun _ => isDg_ok hb (fun hd => ⟨fun y => absurd y (by decide), fun _ => word (Or.inr hd)⟩) (fun hd => ⟨fun _ => isSg_ok hb (fun hs => ⟨fun y => absurd y (by decide), fun _ => sing (fun t => ?_) (fun t => ?_) 3 (Or.inl ⟨rfl, hs⟩)⟩) (fun hs => ⟨fun _ => sing (fun t => ?_) (fun t => ?_) 4 (Or.inr ⟨rfl, hs⟩), fun y => absurd rfl y⟩), fun y => absurd rfl y⟩)⟩)) (fun y2 => blank (Or.inr y2))))
      · rcases t with t | t
        · exact hl t
        · exact hd t
      · rcases t with t | t
        · exact y1 t
        · exact y2 t
      · rcases t with t | t
        · exact hl t
        · exact hd t
      · rcases t with t | t
        · exact y1 t
        · exact y2 t
  exact pk_le sz lim (fun z => rest 0 (by rw [if_neg (by omega)])) (fun z => rest 1 (by rw [if_pos z]))

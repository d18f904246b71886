/-! ===== PURE: TOKENS of a text, as the model goes from one to the next ===== -/
/-- the model's text -/
def MX (h : PH) (b : Nat → Nat) (sz lim : Nat) : Prop := qI h 70 3 = nI sz ∧ qI h 70 4 = nI lim ∧ qR h 70 1 = some 71 ∧ qL h 71 = 640 ∧ ∀ j, j < 640 → qI h 71 j = nI (b j) ∧ b j < 256
theorem MX.ag {h h1 : PH} {b : Nat → Nat} {sz lim : Nat} (x : MX h b sz lim) (f : Ag [71] [(70, 1), (70, 3), (70, 4)] h h1) : MX h1 b sz lim := ⟨by rw [f.i rfl]; exact x.1, by rw [f.i rfl]; exact x.2.1, by rw [f.r rfl]; exact x.2.2.1, by rw [f.L rfl]; exact x.2.2.2.1, fun j hj => by rw [f.I rfl]; exact x.2.2.2.2 j hj⟩
/-- token i lies at hand -/
def MK (h : PH) (sz lim m : Nat) (tk : Nat → TK) (i : Nat) : Prop := qI h 70 6 = nI (stT (tk i)) ∧ (i = m → qI h 70 7 = if lim < sz then 1 else 0) ∧ (i < m → qI h 70 5 = nI (nxT (tk i)) ∧ (kdT (tk i) = 1 → qI h 70 7 = 2 ∧ qJ h 70 12 = lN (ctT (tk i))) ∧ (kdT (tk i) = 2 → qI h 70 7 = 3 ∧ qI h 70 8 = nI (ctT (tk i))) ∧ (kdT (tk i) = 3 → qI h 70 7 = 4 ∧ qI h 70 9 = nI (ctT (tk i))) ∧ (kdT (tk i) = 4 → qI h 70 7 = 1))
theorem MK.ag {h h1 : PH} {sz lim m i : Nat} {tk : Nat → TK} (k : MK h sz lim m tk i) (f : Ag [] [(70, 5), (70, 6), (70, 7), (70, 8), (70, 9), (70, 12)] h h1) : MK h1 sz lim m tk i := by
  obtain ⟨a, b, c⟩ := k
  refine ⟨by rw [f.i rfl]; exact a, fun z => by rw [f.i rfl]; exact b z, fun z => ?_⟩
  rw [f.i (a := 70) (j := 5) rfl, f.i (a := 70) (j := 7) rfl, f.i (a := 70) (j := 8) rfl, f.i (a := 70) (j := 9) rfl, f.j (a := 70) (j := 12) rfl]
  exact c z
def goF : List (Nat × Nat) := [(70, 5), (70, 6), (70, 7), (70, 8), (70, 9), (70, 12)]
theorem misL_ok {c : Nat} {h : PH} {Q : Int32 → PH → Prop} (hc : c < 256) (q1 : chL c → Q 1 h) (q0 : ¬ chL c → Q 0 h) : wp_X12_isLetter (nI c) h Q := isL_ok hc q1 q0
theorem misD_ok {c : Nat} {h : PH} {Q : Int32 → PH → Prop} (hc : c < 256) (q1 : chD c → Q 1 h) (q0 : ¬ chD c → Q 0 h) : wp_X12_isDigit (nI c) h Q := isDg_ok hc q1 q0
theorem lN_s {a c : Nat} (hc : 96 ≤ c) (hc2 : c < 256) : 27 * lN a + (nI c).toInt64 - 96 = lN (27 * a + (c - 96)) := by
  rw [nI_l (by omega), show (27 : Int64) = lN 27 from rfl, show (96 : Int64) = lN 96 from rfl, lN_mul, lN_add, lN_sub (by omega)]
  congr 1
  omega
theorem mbyte_ok {h : PH} {b : Nat → Nat} {sz lim p : Nat} {Q : Int32 → PH → Prop} (x : MX h b sz lim) (hsz : sz ≤ 640) (hp : p ≤ sz) (q1 : p < sz → Q (nI (b p)) h) (q0 : p = sz → Q (nI 0) h) : wp_X12_byteAt 70 (nI p) h Q := by
  refine ⟨fun z => ?_, fun z => ?_⟩
  · rw [x.1] at z
    exact q0 (by have := (nI_leI (by omega) (by omega)).mp z; omega)
  · rw [x.1] at z
    have lt : p < sz := by
      rcases Nat.lt_or_ge p sz with y | y
      · exact y
      · exact absurd (nI_le y (by omega)) z
    refine ⟨71, x.2.2.1, by rw [x.2.2.2.1]; exact vp_in_nI (by omega) (by decide), ?_⟩
    rw [nI_clamp (by omega), (x.2.2.2.2 p (by omega)).1]
    exact q1 lt
def same2 (b : Nat → Nat) (q : Nat) (l2 : Int32) (k : Nat) : Prop := ∀ j, j < k → (l2 = 1 ∧ chL (b (q + j))) ∨ (l2 = 0 ∧ chD (b (q + j)))
theorem mrun_ok {h : PH} {b : Nat → Nat} {sz lim q n kd ct : Nat} {l2 : Int32} {Q : PH → Prop} (x : MX h b sz lim) (hsz : sz ≤ 640) (rn : runAt b sz q n kd ct) (v5 : qI h 70 5 = nI q) (v6 : qI h 70 6 = nI q) (w0 : qJ h 70 12 = 0) (n0 : qI h 70 8 = 0) (hl2 : (l2 = 1 ∧ chL (b q)) ∨ (l2 = 0 ∧ ¬ chL (b q)))
    (qq : ∀ h1, Fg [] [(70, 5), (70, 7), (70, 8), (70, 12)] h h1 → qI h1 70 5 = nI (q + n) → (kd = 1 → qI h1 70 7 = 2 ∧ qJ h1 70 12 = lN ct) → (kd = 2 → qI h1 70 7 = 3 ∧ qI h1 70 8 = nI ct) → (kd = 4 → qI h1 70 7 = 1) → Q h1) : qLoop (wp_X12_go_215 70 l2 Q) (1, h) := by
  obtain ⟨r1, r2, r3, r4, r5⟩ := rn
  have hb : ∀ j, j < 640 → b j < 256 := fun j hj => (x.2.2.2.2 j hj).2
  have c01 : ¬ chL 0 := by unfold chL; omega
  have c02 : ¬ chD 0 := by unfold chD; omega
  have ld : ∀ c, chL c → chD c → False := fun c a d => by unfold chL at a; unfold chD at d; omega
  refine loopR n (fun k s => Fg [] [(70, 5), (70, 8), (70, 12)] h s.2 ∧ qI s.2 70 5 = nI (q + k) ∧ ((s.1 = 1 ∧ same2 b q l2 k) ∨ (s.1 = 0 ∧ ¬ same2 b q l2 k)) ∧ (allL b q k → k ≤ 6 → qJ s.2 70 12 = lN (wcd b q k)) ∧ (allD b q k → k ≤ 3 → qI s.2 70 8 = nI (ncd b q k))) (fun s => (qI s.2 70 5).toNatClampNeg - q) ⟨Fg.rf _ _ _, v5, Or.inl ⟨rfl, fun j hj => absurd hj (Nat.not_lt_zero j)⟩, fun _ _ => w0, fun _ _ => n0⟩ (fun k s hk p => by rw [p.2.1, nI_clamp (by omega)]; omega) ?_ ?_
  · rintro k ⟨gd, g⟩ hk ⟨f, e5, eg, ew, en⟩ back hbk
    dsimp only at f e5 eg ew en
    have xg := x.ag (f.ag rfl)
    have e6 : qI g 70 6 = nI q := by rw [f.I rfl]; exact v6
    have lt : q + k < sz := by omega
    have cb := hb (q + k) (by omega)
    have cA := r3 k hk
    have dif : qI g 70 5 - qI g 70 6 = nI k := by rw [e5, e6, pk_sub (by omega)]; congr 1; omega
    -- from here the same
    have p307 : ∀ (s0 : Int32) (g1 : PH), ((s0 = 1 ∧ same2 b q l2 (k + 1)) ∨ (s0 = 0 ∧ ¬ same2 b q l2 (k + 1))) → Fg [] [(70, 5), (70, 8), (70, 12)] h g1 → qI g1 70 5 = nI (q + k) → qI g1 70 8 = qI g 70 8 → (allL b q (k + 1) → k + 1 ≤ 6 → qJ g1 70 12 = lN (wcd b q (k + 1))) → wp_X12_go_307 70 l2 s0 (nI (b (q + k))) back g1 Q := by
      intro s0 g1 hs f1 z5 z8 z12
      have z6 : qI g1 70 6 = nI q := by rw [f1.I rfl]; exact v6
      have d1 : qI g1 70 5 - qI g1 70 6 = nI k := by rw [z5, z6, pk_sub (by omega)]; congr 1; omega
      refine pk_le 3 k (fun y g2 e2 => hbk _ ?_) (fun y g2 e2 g3 e3 => hbk _ ?_) rfl d1
      · rw [z5, nI_1] at e2
        refine ⟨by rw [e2]; exact f1.tr (Fg.sI _ _ _ _) rfl rfl, by rw [e2, rI_sI, if_pos rfl, up_eq, Nat.add_assoc], hs, fun t1 t2 => by rw [e2]; exact z12 t1 t2, fun t1 t2 => by omega⟩
      · have z52 : qI g2 70 5 = nI (q + k) := by rw [e2, rI_sI, if_pos rfl, up_ne _ _ (by decide)]; exact z5
        rw [z52, nI_1] at e3
        refine ⟨by rw [e3, e2]; exact (f1.tr (Fg.sI _ _ _ _) (U := []) (V := [(70, 5), (70, 8), (70, 12)]) rfl rfl).tr (Fg.sI _ _ _ _) rfl rfl, by rw [e3, rI_sI, if_pos rfl, up_eq, Nat.add_assoc], hs, fun t1 t2 => by rw [e3, e2]; exact z12 t1 t2, fun t1 t2 => ?_⟩
        show qI g3 70 8 = _
        rw [e3, rI_sI, if_pos rfl, up_ne _ _ (by decide), e2, rI_sI, if_pos rfl, up_eq, z8, en (fun j hj => t1 j (by omega)) (by omega)]
        have hc := t1 k (by omega)
        rw [← ncd_s hc, Int32.mul_comm]
    have p272 : ∀ s0 : Int32, ((s0 = 1 ∧ same2 b q l2 (k + 1)) ∨ (s0 = 0 ∧ ¬ same2 b q l2 (k + 1))) → wp_X12_go_272 70 l2 (nI (b (q + k))) s0 back g Q := by
      intro s0 hs
      refine pk_le 6 k (fun y => p307 s0 g hs f e5 rfl (fun t1 t2 => by omega)) (fun y g1 e1 => p307 s0 g1 hs ?_ ?_ ?_ (fun t1 t2 => ?_)) rfl dif
      · rw [e1]; exact f.tr (Fg.sJ _ _ _ _) rfl rfl
      · rw [e1]; exact e5
      · rw [e1]; rfl
      · rw [e1, uJ_at, if_pos rfl, ew (fun j hj => t1 j (by omega)) (by omega)]
        have hc := t1 k (by omega)
        unfold chL at hc
        exact lN_s (by omega) cb
    have p243 : wp_X12_go_243 70 l2 gd back g Q := by
      refine ⟨71, xg.2.2.1, by rw [e5, xg.2.2.2.1]; exact vp_in_nI (by omega) (by decide), fun v65 ev => ?_⟩
      rw [e5, nI_clamp (by omega), (xg.2.2.2.2 _ (by omega)).1] at ev
      subst ev
      have no : ¬ same2 b q l2 k → ¬ same2 b q l2 (k + 1) := fun y t => y (fun j hj => t j (by omega))
      have yes : same2 b q l2 k → ((l2 = 1 ∧ chL (b (q + k))) ∨ (l2 = 0 ∧ chD (b (q + k)))) → same2 b q l2 (k + 1) := fun y t j hj => by
        rcases (show j < k ∨ j = k by omega) with u | u
        · exact y j u
        · rw [u]; exact t
      refine ⟨fun y => p272 0 (Or.inr ⟨rfl, no ?_⟩), fun y => ?_⟩
      · rcases eg with t | t
        · rw [t.1] at y; exact absurd y (by decide)
        · exact t.2
      · have sk : same2 b q l2 k := by
          rcases eg with t | t
          · exact t.2
          · exact absurd t.1 y
        refine misL_ok cb (fun hl => ⟨fun t => p272 0 (Or.inr ⟨rfl, fun u => ?_⟩), fun t => p272 1 (Or.inl ⟨rfl, yes sk (Or.inl ⟨t.symm, hl⟩)⟩)⟩) (fun hl => ⟨fun t => p272 0 (Or.inr ⟨rfl, fun u => ?_⟩), fun t => p272 1 (Or.inl ⟨rfl, yes sk (Or.inr ⟨t.symm, ?_⟩)⟩)⟩)
        · rcases u k (by omega) with u2 | u2
          · exact t u2.1.symm
          · exact ld _ hl u2.2
        · rcases u k (by omega) with u2 | u2
          · exact hl u2.2
          · exact t u2.1.symm
        · rcases cA with u | u
          · exact absurd u hl
          · exact u
    unfold wp_X12_go_215 wb_X12_go_215
    dsimp only
    rw [e5]
    refine mbyte_ok xg hsz (by omega) (fun _ => misL_ok cb (fun hl => ⟨fun _ => p243, fun y => absurd y (by decide)⟩) (fun hl => ⟨fun y => absurd rfl y, fun _ => ?_⟩)) (fun y => by omega)
    rw [e5]
    refine mbyte_ok xg hsz (by omega) (fun _ => misD_ok cb (fun hd => ⟨fun y => absurd y (by decide), fun _ => p243⟩) (fun hd => ?_)) (fun y => by omega)
    rcases cA with u | u
    · exact absurd u hl
    · exact absurd u hd
  · rintro ⟨gd, g⟩ ⟨f, e5, eg, ew, en⟩ back
    dsimp only at f e5 eg ew en
    have xg := x.ag (f.ag rfl)
    have e6 : qI g 70 6 = nI q := by rw [f.I rfl]; exact v6
    have dif : qI g 70 5 - qI g 70 6 = nI n := by rw [e5, e6, pk_sub (by omega)]; congr 1; omega
    have fin : ∀ (v : Int32) (g1 : PH), g1 = qsI g 70 7 v → (kd = 1 → v = 2) → (kd = 2 → v = 3) → (kd = 4 → v = 1) → Q g1 := by
      intro v g1 e1 k1 k2 k4
      have v7 : qI g1 70 7 = v := by rw [e1, rI_sI, if_pos rfl, up_eq]
      refine qq g1 (by rw [e1]; exact f.tr (Fg.sI _ _ _ _) rfl rfl) (by rw [e1, rI_sI, if_pos rfl, up_ne _ _ (by decide)]; exact e5) (fun z => ⟨by rw [v7]; exact k1 z, ?_⟩) (fun z => ⟨by rw [v7]; exact k2 z, ?_⟩) (fun z => by rw [v7]; exact k4 z)
      · rcases r5 with t | t | t
        · rw [e1, t.2.1]; exact ew t.2.2.1 t.2.2.2
        · omega
        · omega
      · rcases r5 with t | t | t
        · omega
        · rw [e1, rI_sI, if_pos rfl, up_ne _ _ (by decide), t.2.1]; exact en t.2.2.1 t.2.2.2
        · omega
    have sL : l2 = 1 → (same2 b q l2 n ↔ allL b q n) := fun e1 => ⟨fun t j hj => by
      rcases t j hj with u | u
      · exact u.2
      · rw [e1] at u; exact absurd u.1 (by decide), fun t j hj => Or.inl ⟨e1, t j hj⟩⟩
    have sD : l2 = 0 → (same2 b q l2 n ↔ allD b q n) := fun e1 => ⟨fun t j hj => by
      rcases t j hj with u | u
      · rw [e1] at u; exact absurd u.1 (by decide)
      · exact u.2, fun t j hj => Or.inr ⟨e1, t j hj⟩⟩
    have nLD : l2 = 1 → ¬ allD b q n := fun e1 t => by
      rcases hl2 with u | u
      · exact ld _ u.2 (by have := t 0 r1; rw [Nat.add_zero] at this; exact this)
      · rw [e1] at u; exact absurd u.1 (by decide)
    have nDL : l2 = 0 → ¬ allL b q n := fun e1 t => by
      rcases hl2 with u | u
      · rw [e1] at u; exact absurd u.1 (by decide)
      · exact u.2 (by have := t 0 r1; rw [Nat.add_zero] at this; exact this)
    have last : (gd = 0 → ∀ h57, h57 = qsI g 70 7 1 → Q h57) ∧ (¬ (gd = 0) → ((l2 = 0 → (wp_X12_go_374 l2 3 ((qI g 70 5) - (qI g 70 6)) 70 g Q)) ∧ (¬ (l2 = 0) → (wp_X12_go_374 l2 6 ((qI g 70 5) - (qI g 70 6)) 70 g Q)))) := by
      rw [dif]
      refine ⟨fun y g1 e1 => fin 1 g1 e1 (fun t => ?_) (fun t => ?_) (fun _ => rfl), fun y => ?_⟩
      · have ns : ¬ same2 b q l2 n := by
          rcases eg with u | u
          · rw [u.1] at y; exact absurd y (by decide)
          · exact u.2
        rcases r5 with u | u | u
        · rcases hl2 with w | w
          · exact absurd ((sL w.1).mpr u.2.2.1) ns
          · exact absurd u.2.2.1 (nDL w.1)
        · omega
        · omega
      · have ns : ¬ same2 b q l2 n := by
          rcases eg with u | u
          · rw [u.1] at y; exact absurd y (by decide)
          · exact u.2
        rcases r5 with u | u | u
        · omega
        · rcases hl2 with w | w
          · exact absurd u.2.2.1 (nLD w.1)
          · exact absurd ((sD w.1).mpr u.2.2.1) ns
        · omega
      · have sn : same2 b q l2 n := by
          rcases eg with u | u
          · exact u.2
          · exact absurd u.1 y
        refine ⟨fun l0 => pk_le n 3 (fun t => ⟨fun _ g1 e1 => fin 3 g1 e1 (fun k1 => ?_) (fun _ => rfl) (fun k4 => ?_), fun u => absurd l0 u⟩) (fun t g1 e1 => fin 1 g1 e1 (fun k1 => ?_) (fun k2 => ?_) (fun _ => rfl)), fun l1 => ?_⟩
        · rcases r5 with u | u | u
          · exact absurd u.2.2.1 (nDL l0)
          · omega
          · omega
        · rcases r5 with u | u | u
          · omega
          · omega
          · exact absurd ⟨(sD l0).mp sn, t⟩ u.2.2.2
        · rcases r5 with u | u | u
          · exact absurd u.2.2.1 (nDL l0)
          · omega
          · omega
        · rcases r5 with u | u | u
          · omega
          · omega
          · omega
        · have e1 : l2 = 1 := by
            rcases hl2 with w | w
            · exact w.1
            · exact absurd w.1 l1
          refine pk_le n 6 (fun t => ⟨fun u => absurd u l1, fun _ g1 e2 => fin 2 g1 e2 (fun _ => rfl) (fun k2 => ?_) (fun k4 => ?_)⟩) (fun t g1 e2 => fin 1 g1 e2 (fun k1 => ?_) (fun k2 => ?_) (fun _ => rfl))
          · rcases r5 with u | u | u
            · omega
            · exact absurd u.2.2.1 (nLD e1)
            · omega
          · rcases r5 with u | u | u
            · omega
            · omega
            · exact absurd ⟨(sL e1).mp sn, t⟩ u.2.2.1
          · rcases r5 with u | u | u
            · omega
            · omega
            · omega
          · rcases r5 with u | u | u
            · omega
            · exact absurd u.2.2.1 (nLD e1)
            · omega
    have nA : q + n < sz → ¬ chL (b (q + n)) ∧ ¬ chD (b (q + n)) := fun t => ⟨fun u => r4 t (Or.inl u), fun u => r4 t (Or.inr u)⟩
    unfold wp_X12_go_215 wb_X12_go_215
    dsimp only
    rw [e5]
    refine mbyte_ok xg hsz r2 (fun t => misL_ok (hb _ (by omega)) (fun u => absurd u (nA t).1) (fun _ => ⟨fun y => absurd rfl y, fun _ => ?_⟩)) (fun t => misL_ok (by decide) (fun u => absurd u c01) (fun _ => ⟨fun y => absurd rfl y, fun _ => ?_⟩))
    · rw [e5]
      refine mbyte_ok xg hsz r2 (fun t => misD_ok (hb _ (by omega)) (fun u => absurd u (nA t).2) (fun _ => ⟨fun _ => ?_, fun y => absurd rfl y⟩)) (fun t => misD_ok (by decide) (fun u => absurd u c02) (fun _ => ⟨fun _ => ?_, fun y => absurd rfl y⟩))
      · exact last
      · exact last
    · rw [e5]
      refine mbyte_ok xg hsz r2 (fun t => misD_ok (hb _ (by omega)) (fun u => absurd u (nA t).2) (fun _ => ⟨fun _ => ?_, fun y => absurd rfl y⟩)) (fun t => misD_ok (by decide) (fun u => absurd u c02) (fun _ => ⟨fun _ => ?_, fun y => absurd rfl y⟩))
      · exact last
      · exact last
theorem mgo_ok {h : PH} {b : Nat → Nat} {sz lim m i : Nat} {tk : Nat → TK} {Q : PH → Prop} (x : MX h b sz lim) (tp : TkP b sz (min sz lim) m tk) (hsz : sz ≤ 640) (hl : lim ≤ 640) (hi : i ≤ m) (v5 : qI h 70 5 = nI (pos tk i)) (q : ∀ h1, Fg [] goF h h1 → MK h1 sz lim m tk i → Q h1) : wp_X12_go 70 h Q := by
  obtain ⟨tp1, tp2, tp3, tp4⟩ := tp
  have hb : ∀ j, j < 640 → b j < 256 := fun j hj => (x.2.2.2.2 j hj).2
  have p0 : pos tk i ≤ sz := by
    unfold pos
    split
    · omega
    · exact (tok_nx (tp1 (i - 1) (by omega)).2.2.2).2
  have stn : i < m → ¬ chB (b (stT (tk i))) := fun z => by
    rcases (tp1 i z).2.2.2 with ⟨n, e, r⟩ | ⟨_, nb, _⟩
    · have := r.2.2.1 0 r.1
      rw [Nat.add_zero] at this
      intro t
      unfold chB at t
      rcases this with u | u
      · unfold chL at u; omega
      · unfold chD at u; omega
    · exact nb
  -- the token is reached
  have p52 : ∀ (g : PH) (p : Nat), Fg [] [(70, 5)] h g → qI g 70 5 = nI p → p ≤ sz → ((i < m ∧ p = stT (tk i)) ∨ (i = m ∧ min sz lim ≤ p)) → wp_X12_go_52 70 g Q := by
    intro g p f e5 ps cs g1 e1
    rw [e5] at e1
    have f1 : Fg [] [(70, 5), (70, 6)] h g1 := by rw [e1]; exact f.tr (Fg.sI _ _ _ _) rfl rfl
    have x1 := x.ag (f1.ag rfl)
    have z5 : qI g1 70 5 = nI p := by rw [e1, rI_sI, if_pos rfl, up_ne _ _ (by decide)]; exact e5
    have z6 : qI g1 70 6 = nI p := by rw [e1, rI_sI, if_pos rfl, up_eq]
    have stp : ∀ (h1 : PH), qI h1 70 6 = nI p → i < m → p = stT (tk i) → qI h1 70 6 = nI (stT (tk i)) := fun h1 a _ c => by rw [a, c]
    have p96 : (lim < sz → p < lim) → wp_X12_go_96 70 g1 Q := by
      intro hlim
      refine pk_lt p sz (fun y => ?_) (fun y g2 e2 => ?_) z5 x1.1
      · rcases cs with ⟨im, ep⟩ | ⟨im, ep⟩
        · have cb := hb p (by omega)
          obtain ⟨c1, c2, c3, c4⟩ := tp1 i im
          refine ⟨71, x1.2.2.1, by rw [z5, x1.2.2.2.1]; exact vp_in_nI (by omega) (by decide), fun v21 e21 => ?_⟩
          rw [z5, nI_clamp (by omega), (x1.2.2.2.2 p (by omega)).1] at e21
          subst e21
          rcases c4 with ⟨n, en, rn⟩ | ⟨nA, nB, en, sl, ec, ek⟩
          · rw [← ep] at rn en
            have run : ∀ (l2 : Int32), ((l2 = 1 ∧ chL (b p)) ∨ (l2 = 0 ∧ ¬ chL (b p))) → ∀ g2, g2 = qsJ g1 70 12 0 → ∀ g3, g3 = qsI g2 70 8 0 → qLoop (wp_X12_go_215 70 l2 Q) (1, g3) := by
              intro l2 hl2 g2 e2 g3 e3
              have f3 : Fg [] goF h g3 := by rw [e3, e2]; exact (f1.tr (Fg.sJ _ _ _ _) (U := []) (V := goF) rfl rfl).tr (Fg.sI _ _ _ _) rfl rfl
              have u5 : qI g3 70 5 = nI p := by rw [e3, rI_sI, if_pos rfl, up_ne _ _ (by decide), e2]; exact z5
              have u6 : qI g3 70 6 = nI p := by rw [e3, rI_sI, if_pos rfl, up_ne _ _ (by decide), e2]; exact z6
              have u12 : qJ g3 70 12 = 0 := by rw [e3]; show qJ g2 70 12 = 0; rw [e2, uJ_at, if_pos rfl]
              have u8 : qI g3 70 8 = 0 := by rw [e3, rI_sI, if_pos rfl, up_eq]
              refine mrun_ok (x.ag (f3.ag rfl)) hsz rn u5 u6 u12 u8 hl2 (fun g4 f4 w5 w1 w2 w4 => q g4 (f3.tr f4 rfl rfl) ⟨by rw [f4.I rfl, u6, ep], fun t => by omega, fun _ => ⟨by rw [w5, en], w1, w2, fun t => ?_, w4⟩⟩)
              rcases rn.2.2.2.2 with u | u | u <;> omega
            refine misL_ok cb (fun hL => ⟨fun _ => misL_ok cb (fun _ => run 1 (Or.inl ⟨rfl, hL⟩)) (fun t => absurd hL t), fun t => absurd t (by decide)⟩) (fun hL => ⟨fun t => absurd rfl t, fun _ => misD_ok cb (fun hD => ⟨fun _ => misL_ok cb (fun t => absurd t hL) (fun _ => run 0 (Or.inr ⟨rfl, hL⟩)), fun t => absurd t (by decide)⟩) (fun hD => ?_)⟩)
            have := rn.2.2.1 0 rn.1
            rw [Nat.add_zero] at this
            rcases this with u | u
            · exact absurd u hL
            · exact absurd u hD
          · rw [← ep] at nA nB en ec ek
            have sg : ∀ (v : Int32) (g2 : PH), g2 = qsI g1 70 7 v → ∀ g3, g3 = qsI g2 70 9 (nI (b p)) → ∀ g4, g4 = qsI g3 70 5 (qI g3 70 5 + 1) → (kdT (tk i) = 3 → v = 4) → (kdT (tk i) = 4 → v = 1) → Q g4 := by
              intro v g2 e2 g3 e3 g4 e4 h3 h4
              have w5 : qI g3 70 5 = nI p := by rw [e3, rI_sI, if_pos rfl, up_ne _ _ (by decide), e2, rI_sI, if_pos rfl, up_ne _ _ (by decide)]; exact z5
              rw [w5, nI_1] at e4
              have w7 : qI g4 70 7 = v := by rw [e4, e3, e2]; simp only [qI_sI]; simp
              have w9 : qI g4 70 9 = nI (b p) := by rw [e4, e3]; simp only [qI_sI]; simp
              refine q g4 (by rw [e4, e3, e2]; exact ((f1.tr (Fg.sI _ _ _ _) (U := []) (V := goF) rfl rfl).tr (Fg.sI _ _ _ _) (U := []) (V := goF) rfl rfl).tr (Fg.sI _ _ _ _) rfl rfl) ⟨?_, fun t => by omega, fun _ => ⟨?_, fun t => ?_, fun t => ?_, fun t => ⟨by rw [w7]; exact h3 t, by rw [w9, ec]⟩, fun t => by rw [w7]; exact h4 t⟩⟩
              · rw [e4, e3, e2]; simp only [qI_sI]; simp; rw [z6, ep]
              · rw [e4, en]; simp only [qI_sI]; simp
              · rcases ek with u | u <;> omega
              · rcases ek with u | u <;> omega
            have yes : chS (b p) → wp_X12_go_174 70 (nI (b p)) 70 g1 Q := fun hS g2 e2 g3 e3 g4 e4 => sg 4 g2 e2 g3 e3 g4 e4 (fun _ => rfl) (fun t => by
              rcases ek with u | u
              · omega
              · exact absurd hS u.2)
            have nL : ¬ chL (b p) := fun t => nA (Or.inl t)
            have nD : ¬ chD (b p) := fun t => nA (Or.inr t)
            refine misL_ok cb (fun t => absurd t nL) (fun _ => ⟨fun t => absurd rfl t, fun _ => misD_ok cb (fun t => absurd t nD) (fun _ => ⟨fun t => absurd rfl t, fun _ => ?_⟩)⟩)
            refine pk_eq (b p) 59 (fun t => yes (by unfold chS; omega)) (fun t1 => pk_eq (b p) 60 (fun t => yes (by unfold chS; omega)) (fun t2 => pk_eq (b p) 61 (fun t => yes (by unfold chS; omega)) (fun t3 => pk_eq (b p) 62 (fun t => yes (by unfold chS; omega)) (fun t4 => pk_eq (b p) 40 (fun t => yes (by unfold chS; omega)) (fun t5 => n_eq (b p) 41 (fun t6 g2 e2 g3 e3 g4 e4 => sg 1 g2 e2 g3 e3 g4 e4 (fun t => ?_) (fun _ => rfl)) (fun t => yes (by unfold chS; omega)))))))
            rcases ek with u | u
            · have := u.2; unfold chS at this; omega
            · omega
        · rcases Nat.lt_or_ge lim sz with t | t
          · have := hlim t
            rw [Nat.min_eq_right (by omega)] at ep
            omega
          · rw [Nat.min_eq_left t] at ep
            omega
      · rcases cs with ⟨im, ep⟩ | ⟨im, ep⟩
        · have := (tp1 i im).2.1
          have : min sz lim ≤ sz := Nat.min_le_left _ _
          omega
        · have ll : ¬ lim < sz := fun t => by have := hlim t; omega
          refine q g2 (by rw [e2]; exact f1.tr (Fg.sI _ _ _ _) rfl rfl) ⟨?_, fun _ => ?_, fun t => by omega⟩
          · rw [e2, rI_sI, if_pos rfl, up_ne _ _ (by decide), z6, im, tp3]
            show nI p = nI (min sz lim)
            congr 1
            rw [Nat.min_eq_left (by omega)]; omega
          · rw [e2, rI_sI, if_pos rfl, up_eq, if_neg ll]
    refine pk_le sz lim (fun y => p96 (fun t => by omega)) (fun y => pk_lt p lim (fun t => p96 (fun _ => t)) (fun t g2 e2 g3 e3 => ?_) z6 x1.2.1) x1.1 x1.2.1
    rcases cs with ⟨im, ep⟩ | ⟨im, ep⟩
    · have := (tp1 i im).2.1
      have : min sz lim ≤ lim := Nat.min_le_right _ _
      omega
    · rw [x1.2.1] at e2
      refine q g3 (by rw [e3, e2]; exact (f1.tr (Fg.sI _ _ _ _) (U := []) (V := goF) rfl rfl).tr (Fg.sI _ _ _ _) rfl rfl) ⟨?_, fun _ => ?_, fun t => by omega⟩
      · rw [e3, e2]; simp only [qI_sI]; simp
        rw [im, tp3]
        show nI lim = nI (min sz lim)
        rw [Nat.min_eq_right (by omega)]
      · rw [e3, rI_sI, if_pos rfl, up_eq, if_pos y]
  refine ⟨fun g => ∃ p, Fg [] [(70, 5)] h g ∧ qI g 70 5 = nI p ∧ p ≤ sz ∧ pos tk i ≤ p ∧ (i < m → p ≤ stT (tk i)), fun g => sz - (qI g 70 5).toNatClampNeg, ⟨pos tk i, Fg.rf _ _ _, v5, p0, Nat.le_refl _, fun z => (tp1 i z).1⟩, ?_⟩
  rintro g ⟨p, f, e5, ps, pp, pt⟩
  have xg := x.ag (f.ag rfl)
  unfold wp_X12_go_0 wb_X12_go_0
  rw [e5]
  refine ⟨fun z => ?_, fun z => ?_⟩
  · rw [xg.1] at z
    have z := (nI_leI (by omega) (by omega)).mp z
    refine p52 g p f e5 ps ?_
    rcases (show i < m ∨ i = m by omega) with t | t
    · have := (tp1 i t).2.1
      have := pt t
      have : min sz lim ≤ sz := Nat.min_le_left _ _
      omega
    · exact Or.inr ⟨t, Nat.le_trans (Nat.min_le_left _ _) z⟩
  · rw [xg.1] at z
    have lt : p < sz := by
      rcases Nat.lt_or_ge p sz with y | y
      · exact y
      · exact absurd (nI_le y (by omega)) z
    have cb := hb p (by omega)
    have i71 : vp_in (nI p) (qL g 71) := by rw [xg.2.2.2.1]; exact vp_in_nI (by omega) (by decide)
    have blank : chB (b p) → ∀ g2, g2 = qsI g 70 5 (nI p + 1) → (∃ p, Fg [] [(70, 5)] h g2 ∧ qI g2 70 5 = nI p ∧ p ≤ sz ∧ pos tk i ≤ p ∧ (i < m → p ≤ stT (tk i))) ∧ sz - (qI g2 70 5).toNatClampNeg < sz - (qI g 70 5).toNatClampNeg := fun hB g2 e2 => by
      rw [nI_1] at e2
      have e52 : qI g2 70 5 = nI (p + 1) := by rw [e2, rI_sI, if_pos rfl, up_eq]
      refine ⟨⟨p + 1, by rw [e2]; exact f.tr (Fg.sI _ _ _ _) rfl rfl, e52, by omega, by omega, fun t => ?_⟩, by rw [e52, e5, nI_clamp (by omega), nI_clamp (by omega)]; omega⟩
      have a := pt t
      rcases (show p < stT (tk i) ∨ p = stT (tk i) by omega) with u | u
      · omega
      · exact absurd (by rw [← u]; exact hB) (stn t)
    rw [nI_clamp (by omega)]
    refine ⟨71, xg.2.2.1, i71, pk_eq (b p) 32 (fun y => blank (Or.inl y)) (fun y1 => ⟨71, xg.2.2.1, i71, n_eq (b p) 10 (fun y2 => p52 g p f e5 ps ?_) (fun y => blank (Or.inr y)) (xg.2.2.2.2 p (by omega)).1⟩) (xg.2.2.2.2 p (by omega)).1⟩
    have nB : ¬ chB (b p) := fun t => by
      unfold chB at t
      omega
    rcases (show i < m ∨ i = m by omega) with t | t
    · left
      refine ⟨t, ?_⟩
      have a := pt t
      rcases (show p < stT (tk i) ∨ p = stT (tk i) by omega) with u | u
      · exact absurd ((tp1 i t).2.2.1 p pp u) nB
      · exact u
    · right
      refine ⟨t, ?_⟩
      rcases Nat.lt_or_ge p (min sz lim) with u | u
      · exact absurd (tp2 p (by rw [← t]; exact pp) u) nB
      · exact u

/-! ===== PURE: reading TOKENS, the model ===== -/
def MS (h : PH) (b : Nat → Nat) (sz lim m : Nat) (tk : Nat → TK) (i : Nat) : Prop := MX h b sz lim ∧ MK h sz lim m tk i ∧ i ≤ m
theorem MS.ag {h h1 : PH} {b : Nat → Nat} {sz lim m i : Nat} {tk : Nat → TK} (s : MS h b sz lim m tk i) (f : Ag [71] [(70, 1), (70, 3), (70, 4), (70, 5), (70, 6), (70, 7), (70, 8), (70, 9), (70, 12)] h h1) : MS h1 b sz lim m tk i := ⟨s.1.ag (f.sub rfl rfl), s.2.1.ag (f.sub rfl rfl), s.2.2⟩
def mF : List (Nat × Nat) := [(70, 5), (70, 6), (70, 7), (70, 8), (70, 9), (70, 12), (70, 10), (70, 11), (70, 13)]
section
variable {h : PH} {b : Nat → Nat} {sz lim m i : Nat} {tk : Nat → TK}
theorem MS.k (x : Tx b sz lim m tk) (s : MS h b sz lim m tk i) : ∃ c, c ≤ 4 ∧ qI h 70 7 = nI c ∧ (c = 2 ↔ kdT (tk i) = 1) ∧ (c = 3 ↔ kdT (tk i) = 2) ∧ (c = 4 ↔ kdT (tk i) = 3) ∧ (c = 0 ↔ (i = m ∧ ¬ lim < sz)) ∧ (c = 1 ↔ (kdT (tk i) = 4 ∨ (i = m ∧ lim < sz))) := by
  obtain ⟨_, ⟨k1, k2, k3⟩, hi⟩ := s
  rcases (show i < m ∨ i = m by omega) with z | z
  · obtain ⟨a1, a2, _⟩ := x.in z
    obtain ⟨_, b1, b2, b3, b4⟩ := k3 z
    rcases (show kdT (tk i) = 1 ∨ kdT (tk i) = 2 ∨ kdT (tk i) = 3 ∨ kdT (tk i) = 4 by omega) with y | y | y | y
    · exact ⟨2, by omega, (b1 y).1, by omega, by omega, by omega, by omega, by omega⟩
    · exact ⟨3, by omega, (b2 y).1, by omega, by omega, by omega, by omega, by omega⟩
    · exact ⟨4, by omega, (b3 y).1, by omega, by omega, by omega, by omega, by omega⟩
    · exact ⟨1, by omega, b4 y, by omega, by omega, by omega, by omega, by omega⟩
  · have e0 : kdT (tk i) = 0 := by rw [z]; exact x.end.1
    have e7 := k2 z
    by_cases y : lim < sz
    · rw [if_pos y] at e7
      exact ⟨1, by omega, e7, by omega, by omega, by omega, by omega, by omega⟩
    · rw [if_neg y] at e7
      exact ⟨0, by omega, e7, by omega, by omega, by omega, by omega, by omega⟩
theorem MS.ct (x : Tx b sz lim m tk) (s : MS h b sz lim m tk i) : (kdT (tk i) = 1 → qJ h 70 12 = lN (ctT (tk i))) ∧ (kdT (tk i) = 2 → qI h 70 8 = nI (ctT (tk i))) ∧ (kdT (tk i) = 3 → qI h 70 9 = nI (ctT (tk i))) := by
  obtain ⟨_, ⟨k1, k2, k3⟩, hi⟩ := s
  refine ⟨fun z => ?_, fun z => ?_, fun z => ?_⟩
  · exact ((k3 (x.lt hi (by rw [z]; decide))).2.1 z).2
  · exact ((k3 (x.lt hi (by rw [z]; decide))).2.2.1 z).2
  · exact ((k3 (x.lt hi (by rw [z]; decide))).2.2.2.1 z).2
theorem isKey_ok (x : Tx b sz lim m tk) (s : MS h b sz lim m tk i) {c : Nat} (hc : c < 400000000) {Q : Int32 → PH → Prop} (q1 : kdT (tk i) = 1 ∧ ctT (tk i) = c → Q 1 h) (q0 : ¬ (kdT (tk i) = 1 ∧ ctT (tk i) = c) → Q 0 h) : wp_X12_isKey 70 (lN c) h Q := by
  obtain ⟨c7, hc7, e7, i1, _⟩ := s.k x
  have bd := x.bd s.2.2
  refine n_eq c7 2 (fun z => q0 (fun y => z (i1.mpr y.1))) (fun z => ?_) e7
  have k1 := i1.mp z
  rw [(s.ct x).1 k1]
  refine ⟨fun y => q0 (fun u => y (lgc.mpr (by rw [u.2]))), fun y => q1 ⟨k1, (pk_lEQ (by omega) (by omega)).mp (lgc.mp y)⟩⟩
theorem isSignM_ok (x : Tx b sz lim m tk) (s : MS h b sz lim m tk i) {c : Nat} (hc : c < 256) {Q : Int32 → PH → Prop} (q1 : kdT (tk i) = 3 ∧ ctT (tk i) = c → Q 1 h) (q0 : ¬ (kdT (tk i) = 3 ∧ ctT (tk i) = c) → Q 0 h) : wp_X12_isSign 70 (nI c) h Q := by
  obtain ⟨c7, hc7, e7, _, _, i3, _⟩ := s.k x
  have bd := x.bd s.2.2
  refine n_eq c7 4 (fun z => q0 (fun y => z (i3.mpr y.1))) (fun z => ?_) e7
  have k1 := i3.mp z
  exact n_eq (ctT (tk i)) c (fun y => q0 (fun u => y u.2)) (fun y => q1 ⟨k1, y⟩) ((s.ct x).2.2 k1)
theorem goM_ok (x : Tx b sz lim m tk) (s : MS h b sz lim m tk i) (hi : i < m) {Q : PH → Prop} (q : ∀ h1, Fg [] goF h h1 → MS h1 b sz lim m tk (i + 1) → Q h1) : wp_X12_go 70 h Q := by
  refine mgo_ok s.1 x.1 x.2.1 x.2.2.1 (i := i + 1) (by omega) ?_ (fun h1 f1 k1 => q h1 f1 ⟨s.1.ag (f1.ag rfl), k1, by omega⟩)
  rw [(s.2.1.2.2 hi).1]
  unfold pos
  rw [if_neg (by omega), Nat.add_sub_cancel]
theorem bad_ok (x : Tx b sz lim m tk) (s : MS h b sz lim m tk i) {f : Nat} (hf : f = 1 ∨ (i < m ∧ ¬ kdT (tk i) = 4)) {Q : Int32 → PH → Prop} (q : ∀ h1, Fg [] [(70, 10), (70, 11)] h h1 → qI h1 70 10 = nI f → qI h1 70 11 = nI (stT (tk i)) → Q 0 h1) : wp_X12_bad 70 (nI f) h Q := by
  obtain ⟨c7, hc7, e7, _, _, _, _, i1⟩ := s.k x
  have e6 := s.2.1.1
  have fin : ∀ v h2, v = nI f → h2 = qsI h 70 10 v → ∀ h3, h3 = qsI h2 70 11 (qI h2 70 6) → Q 0 h3 := fun v h2 ev e2 h3 e3 => by
    have z6 : qI h2 70 6 = nI (stT (tk i)) := by rw [e2, rI_sI, if_pos rfl, up_ne _ _ (by decide)]; exact e6
    rw [z6] at e3
    exact q h3 (by rw [e3, e2]; exact (Fg.sI _ _ _ _).tr (Fg.sI _ _ _ _) rfl rfl) (by rw [e3, rI_sI, if_pos rfl, up_ne _ _ (by decide), e2, rI_sI, if_pos rfl, up_eq]; exact ev) (by rw [e3, rI_sI, if_pos rfl, up_eq])
  refine n_eq c7 1 (fun z h2 e2 h3 e3 => fin _ h2 rfl e2 h3 e3) (fun z h2 e2 h3 e3 => fin _ h2 ?_ e2 h3 e3) e7
  rcases hf with y | y
  · rw [y]; rfl
  · rcases i1.mp z with u | u
    · exact absurd u y.2
    · omega
/-- reading on -/
def gF : List (Nat × Nat) := [(70, 5), (70, 6), (70, 7), (70, 8), (70, 9), (70, 12), (70, 13)]
def okM (h h1 : PH) (b : Nat → Nat) (sz lim m : Nat) (tk : Nat → TK) (j : Nat) : Prop := Fg [] gF h h1 ∧ MS h1 b sz lim m tk j
def flM (h h1 : PH) (tk : Nat → TK) (f j : Nat) : Prop := Fg [] mF h h1 ∧ qI h1 70 10 = nI f ∧ qI h1 70 11 = nI (stT (tk j))
theorem rK_ok (x : Tx b sz lim m tk) (s : MS h b sz lim m tk i) {c : Nat} (hc : c < 400000000) {Q : Int32 → PH → Prop} (q1 : ∀ h1, pW tk c i = .inr (i + 1, ()) → okM h h1 b sz lim m tk (i + 1) → Q 1 h1) (q0 : ∀ h1, pW tk c i = .inl (1, i) → flM h h1 tk 1 i → Q 0 h1) : wp_X12_readKey 70 (lN c) h Q := by
  refine isKey_ok x s hc (fun z => ⟨fun _ => goM_ok x s (x.lt s.2.2 (by rw [z.1]; decide)) (fun h1 f1 s1 => q1 h1 (if_pos z) ⟨f1.mono rfl, s1⟩), fun y => absurd y (by decide)⟩) (fun z => ⟨fun y => absurd rfl y, fun _ => bad_ok (f := 1) x s (Or.inl rfl) (fun h1 f1 e1 e2 => ⟨Or.inl rfl, q0 h1 (if_neg z) ⟨f1.mono rfl, e1, e2⟩⟩)⟩)
theorem rE_ok (x : Tx b sz lim m tk) (s : MS h b sz lim m tk i) {Q : Int32 → PH → Prop} (q1 : ∀ h1, pS tk 59 i = .inr (i + 1, ()) → okM h h1 b sz lim m tk (i + 1) → Q 1 h1) (q0 : ∀ h1, pS tk 59 i = .inl (1, i) → flM h h1 tk 1 i → Q 0 h1) : wp_X12_readEnd 70 h Q := by
  refine isSignM_ok (c := 59) x s (by decide) (fun z => ⟨fun _ => goM_ok x s (x.lt s.2.2 (by rw [z.1]; decide)) (fun h1 f1 s1 => q1 h1 (if_pos z) ⟨f1.mono rfl, s1⟩), fun y => absurd y (by decide)⟩) (fun z => ⟨fun y => absurd rfl y, fun _ => bad_ok (f := 1) x s (Or.inl rfl) (fun h1 f1 e1 e2 => ⟨Or.inl rfl, q0 h1 (if_neg z) ⟨f1.mono rfl, e1, e2⟩⟩)⟩)
theorem isInN_ok {v lo hi : Nat} (hv : v < 2 ^ 31) (hlo : lo < 2 ^ 31) (hhi : hi < 2 ^ 31) {Q : Int32 → PH → Prop} (q1 : lo ≤ v ∧ v ≤ hi → Q 1 h) (q0 : ¬ (lo ≤ v ∧ v ≤ hi) → Q 0 h) : wp_X12_isIn (nI v) (nI lo) (nI hi) h Q := by
  refine pk_lt v lo (fun c => q0 (by omega)) (fun c => ?_)
  exact pk_lt hi v (fun c2 => q0 (by omega)) (fun c2 => q1 ⟨c, c2⟩)
theorem rN_ok (x : Tx b sz lim m tk) (s : MS h b sz lim m tk i) {lo hi : Nat} (hlo : lo < 2 ^ 31) (hhi : hi < 2 ^ 31) {Q : Int32 → PH → Prop} (q1 : ∀ h1 v, pN tk lo hi i = .inr (i + 1, v) → lo ≤ v → v ≤ hi → okM h h1 b sz lim m tk (i + 1) → qI h1 70 13 = nI v → Q 1 h1) (q0 : ∀ h1 f, pN tk lo hi i = .inl (f, i) → flM h h1 tk f i → Q 0 h1) : wp_X12_readNumber 70 (nI lo) (nI hi) h Q := by
  obtain ⟨c7, hc7, e7, _, i2, _⟩ := s.k x
  have bd := x.bd s.2.2
  refine pk_eq c7 3 (fun z => ?_) (fun z => bad_ok (f := 1) x s (Or.inl rfl) (fun h1 f1 e1 e2 => ⟨Or.inl rfl, q0 h1 1 (if_neg (fun y => z (i2.mpr y))) ⟨f1.mono rfl, e1, e2⟩⟩)) e7
  have k2 := i2.mp z
  have lt := x.lt s.2.2 (by rw [k2]; decide)
  have e8 := (s.ct x).2.1 k2
  rw [e8]
  refine isInN_ok (by omega) hlo hhi (fun y => ⟨fun _ h5 e5 => ?_, fun u => absurd u (by decide)⟩) (fun y => ⟨fun u => absurd rfl u, fun _ => bad_ok (f := 2) x s (Or.inr ⟨lt, by omega⟩) (fun h1 f1 e1 e2 => ⟨Or.inl rfl, q0 h1 2 ?_ ⟨f1.mono rfl, e1, e2⟩⟩)⟩)
  · rw [e8] at e5
    have f5 : Fg [] [(70, 13)] h h5 := by rw [e5]; exact Fg.sI _ _ _ _
    refine goM_ok x (s.ag (f5.ag rfl)) lt (fun h1 f1 s1 => q1 h1 _ ?_ y.1 y.2 ⟨f5.tr f1 rfl rfl, s1⟩ ?_)
    · unfold pN
      rw [if_pos k2, if_pos y]
    · rw [f1.I rfl, e5, rI_sI, if_pos rfl, up_eq]
  · unfold pN
    rw [if_pos k2, if_neg y]
end
theorem okM.tr {h h1 h2 : PH} {b : Nat → Nat} {sz lim m j k : Nat} {tk : Nat → TK} (a : okM h h1 b sz lim m tk j) (c : okM h1 h2 b sz lim m tk k) : okM h h2 b sz lim m tk k := ⟨a.1.tr c.1 rfl rfl, c.2⟩
theorem okM.fl {h h1 h2 : PH} {b : Nat → Nat} {sz lim m j f k : Nat} {tk : Nat → TK} (a : okM h h1 b sz lim m tk j) (c : flM h1 h2 tk f k) : flM h h2 tk f k := ⟨a.1.tr c.1 rfl rfl, c.2⟩
/-! words that the model asks for by a method of its own -/
section
variable {h : PH} {b : Nat → Nat} {sz lim m i : Nat} {tk : Nat → TK}
theorem isKw_ok (x : Tx b sz lim m tk) (s : MS h b sz lim m tk i) {k : Nat} (hk : k < 34) {Q : Int32 → PH → Prop} (q1 : kdT (tk i) = 1 ∧ ctT (tk i) = cw k → Q 1 h) (q0 : ¬ (kdT (tk i) = 1 ∧ ctT (tk i) = cw k) → Q 0 h) : wp_X12_isKey 70 (lN (cw k)) h Q := isKey_ok x s (cw_c k hk).2 q1 q0
theorem isTurn_ok (x : Tx b sz lim m tk) (s : MS h b sz lim m tk i) {Q : Int32 → PH → Prop} (q1 : kdT (tk i) = 1 ∧ ctT (tk i) = cw 0 → Q 1 h) (q0 : ¬ (kdT (tk i) = 1 ∧ ctT (tk i) = cw 0) → Q 0 h) : wp_X12_isTurn 70 h Q := sp_turn (isKw_ok x s (by decide) (fun z => ⟨Or.inr rfl, q1 z⟩) (fun z => ⟨Or.inl rfl, q0 z⟩))
theorem isRub_ok (x : Tx b sz lim m tk) (s : MS h b sz lim m tk i) {Q : Int32 → PH → Prop} (q1 : kdT (tk i) = 1 ∧ ctT (tk i) = cw 1 → Q 1 h) (q0 : ¬ (kdT (tk i) = 1 ∧ ctT (tk i) = cw 1) → Q 0 h) : wp_X12_isRub 70 h Q := sp_rub (isKw_ok x s (by decide) (fun z => ⟨Or.inr rfl, q1 z⟩) (fun z => ⟨Or.inl rfl, q0 z⟩))
theorem isOut_ok (x : Tx b sz lim m tk) (s : MS h b sz lim m tk i) {Q : Int32 → PH → Prop} (q1 : kdT (tk i) = 1 ∧ ctT (tk i) = cw 8 → Q 1 h) (q0 : ¬ (kdT (tk i) = 1 ∧ ctT (tk i) = cw 8) → Q 0 h) : wp_X12_isOut 70 h Q := sp_out (isKw_ok x s (by decide) (fun z => ⟨Or.inr rfl, q1 z⟩) (fun z => ⟨Or.inl rfl, q0 z⟩))
theorem isShut_ok (x : Tx b sz lim m tk) (s : MS h b sz lim m tk i) {Q : Int32 → PH → Prop} (q1 : kdT (tk i) = 1 ∧ ctT (tk i) = cw 12 → Q 1 h) (q0 : ¬ (kdT (tk i) = 1 ∧ ctT (tk i) = cw 12) → Q 0 h) : wp_X12_isShut 70 h Q := sp_shut (isKw_ok x s (by decide) (fun z => ⟨Or.inr rfl, q1 z⟩) (fun z => ⟨Or.inl rfl, q0 z⟩))
theorem rFrom_ok (x : Tx b sz lim m tk) (s : MS h b sz lim m tk i) {Q : Int32 → PH → Prop} (q1 : ∀ h1, pW tk (cw 9) i = .inr (i + 1, ()) → okM h h1 b sz lim m tk (i + 1) → Q 1 h1) (q0 : ∀ h1, pW tk (cw 9) i = .inl (1, i) → flM h h1 tk 1 i → Q 0 h1) : wp_X12_readFrom 70 h Q := sp_from (rK_ok x s (cw_c 9 (by decide)).2 (fun h1 a c => ⟨Or.inr rfl, q1 h1 a c⟩) (fun h1 a c => ⟨Or.inl rfl, q0 h1 a c⟩))
theorem rTo_ok (x : Tx b sz lim m tk) (s : MS h b sz lim m tk i) {Q : Int32 → PH → Prop} (q1 : ∀ h1, pW tk (cw 10) i = .inr (i + 1, ()) → okM h h1 b sz lim m tk (i + 1) → Q 1 h1) (q0 : ∀ h1, pW tk (cw 10) i = .inl (1, i) → flM h h1 tk 1 i → Q 0 h1) : wp_X12_readTo 70 h Q := sp_to (rK_ok x s (cw_c 10 (by decide)).2 (fun h1 a c => ⟨Or.inr rfl, q1 h1 a c⟩) (fun h1 a c => ⟨Or.inl rfl, q0 h1 a c⟩))
end

/-! ===== PURE: a DRAWING's lines, as the class reads them ===== -/
def kcC (c : Nat) : Option Nat := if c = cw 2 then some 0 else if c = cw 3 then some 1 else if c = cw 4 then some 2 else if c = cw 5 then some 3 else if c = cw 6 then some 4 else none
theorem kc_c : ∀ k, k < 34 → kcC (cw k) = if k = 2 then some 0 else if k = 3 then some 1 else if k = 4 then some 2 else if k = 5 then some 3 else if k = 6 then some 4 else none := by decide +kernel
theorem kc_n {c : Nat} (h : ∀ k, k < 34 → c ≠ cw k) : kcC c = none := by
  unfold kcC
  rw [if_neg (h 2 (by decide)), if_neg (h 3 (by decide)), if_neg (h 4 (by decide)), if_neg (h 5 (by decide)), if_neg (h 6 (by decide))]
theorem kc_lt {c k : Nat} (h : kcC c = some k) : k < 5 := by
  unfold kcC at h
  split at h
  · cases h; decide
  · split at h
    · cases h; decide
    · split at h
      · cases h; decide
      · split at h
        · cases h; decide
        · split at h
          · cases h; decide
          · cases h
/-- how many parts, the parts, their names, rub if told -/
abbrev DD := Nat × (Nat → PD) × (Nat → Nat) × Option Nat
def dn (d : DD) : Nat := d.1
def dp (d : DD) : Nat → PD := d.2.1
def dnm (d : DD) : Nat → Nat := d.2.2.1
def drb (d : DD) : Option Nat := d.2.2.2
def isNm (c : Nat) : Prop := ∀ k, k < 13 → c ≠ cw k
noncomputable def pNm (tk : Nat → TK) (d : DD) (i : Nat) : PR Nat := @ite _ (kdT (tk i) = 1 ∧ isNm (ctT (tk i))) (Classical.propDecidable _) (@ite _ (∃ j, j < dn d ∧ dnm d j = ctT (tk i)) (Classical.propDecidable _) (.inl (3, i)) (.inr (i + 1, ctT (tk i)))) (.inl (1, i))
def addP (d : DD) (D : PD) (c : Nat) : DD := (dn d + 1, (fun k => if k = dn d then D else dp d k), (fun k => if k = dn d then c else dnm d k), drb d)
noncomputable def pPart2 (tk : Nat → TK) (N kk : Nat) (d : DD) (i : Nat) : PR DD := bnd (pNm tk d i) fun i c => bnd (pN tk 0 (N - 1) i) fun i pin => bnd (pN tk 1 99 i) fun i w => bnd (pRest tk N kk pin w i) fun i D => .inr (i, addP d D c)
def kcO (tk : Nat → TK) (i : Nat) : Option Nat := if kdT (tk i) = 1 then kcC (ctT (tk i)) else none
noncomputable def pPart (tk : Nat → TK) (N : Nat) (d : DD) (i : Nat) : PR DD := match kcO tk i with
  | none => .inl (1, i)
  | some kk => if 12 ≤ dn d then .inl (4, i) else pPart2 tk N kk d (i + 1)
theorem pPart_n {tk : Nat → TK} {N i : Nat} {d : DD} (h : kcO tk i = none) : pPart tk N d i = .inl (1, i) := by unfold pPart; rw [h]
theorem pPart_4 {tk : Nat → TK} {N i kk : Nat} {d : DD} (h : kcO tk i = some kk) (h2 : 12 ≤ dn d) : pPart tk N d i = .inl (4, i) := by unfold pPart; rw [h]; exact if_pos h2
theorem pPart_s {tk : Nat → TK} {N i kk : Nat} {d : DD} (h : kcO tk i = some kk) (h2 : ¬ 12 ≤ dn d) : pPart tk N d i = pPart2 tk N kk d (i + 1) := by unfold pPart; rw [h]; exact if_neg h2
def setR (d : DD) (v : Nat) : DD := (dn d, dp d, dnm d, some v)
noncomputable def plD (tk : Nat → TK) (N : Nat) (_ : Nat) (i : Nat) (d : DD) : PR DD := if kdT (tk i) = 1 ∧ ctT (tk i) = cw 1 then (if (drb d).isSome = true then .inl (3, i) else bnd (pN tk 0 999 (i + 1)) fun i v => bnd (pS tk 59 i) fun i _ => .inr (i, setR d v)) else bnd (pPart tk N d i) fun i d2 => bnd (pS tk 59 i) fun i _ => .inr (i, d2)
theorem plD_m {b : Nat → Nat} {sz lim m N : Nat} {tk : Nat → TK} (x : Tx b sz lim m tk) : ∀ l d, ∃ y, plD tk N l m d = .inl y := by
  intro l d
  have e := x.end.1
  refine ⟨(1, m), ?_⟩
  unfold plD
  rw [if_neg (fun z => by rw [e] at z; exact absurd z.1 (by decide))]
  refine bnd_l (pPart_n ?_)
  unfold kcO
  rw [if_neg (by rw [e]; decide)]
/-! the class's cells -/
def DFr (e : Nat) (h h1 : PH) : Prop := (qn h1 = qn h ∧ qz h1 = qz h ∧ qK h1 = qK h ∧ qL h1 = qL h) ∧ ∀ a j, ¬ (a = 3 ∧ (j = 4 ∨ j = 6)) → (¬ (a = e ∨ (e + 2 ≤ a ∧ a < e + 14)) → qI h1 a j = qI h a j) ∧ qJ h1 a j = qJ h a j ∧ qR h1 a j = qR h a j
theorem DFr.rf (e : Nat) (h : PH) : DFr e h h := ⟨⟨rfl, rfl, rfl, rfl⟩, fun _ _ _ => ⟨fun _ => rfl, rfl, rfl⟩⟩
theorem DFr.tr {e : Nat} {h h1 h2 : PH} (a : DFr e h h1) (b : DFr e h1 h2) : DFr e h h2 := ⟨⟨b.1.1.trans a.1.1, b.1.2.1.trans a.1.2.1, b.1.2.2.1.trans a.1.2.2.1, b.1.2.2.2.trans a.1.2.2.2⟩, fun x j z => ⟨fun y => ((b.2 x j z).1 y).trans ((a.2 x j z).1 y), (b.2 x j z).2.1.trans (a.2 x j z).2.1, (b.2 x j z).2.2.trans (a.2 x j z).2.2⟩⟩
theorem PFr.d {e p : Nat} {h h1 : PH} (f : PFr p h h1) (hp : e + 2 ≤ p ∧ p < e + 14) : DFr e h h1 := ⟨f.1, fun a j z => ⟨fun y => (f.2 a j z).1 (by omega), (f.2 a j z).2.1, (f.2 a j z).2.2⟩⟩
theorem DFr.s' {e k : Nat} {h h1 : PH} {v : Int32} (q : h1 = qsI h e k v) : DFr e h h1 := by
  rw [q]
  exact ⟨⟨rfl, rfl, rfl, rfl⟩, fun a j _ => ⟨fun y => by rw [rI_ne _ _ _ (by omega)], rfl, rfl⟩⟩
theorem DFr.t {e : Nat} {h h1 : PH} (he : 26 ≤ e) (f : Fg [] tF h h1) : DFr e h h1 := (PFr.t (p := e + 2) f).d (by omega)
theorem DFr.t4 {e : Nat} {h h1 : PH} (he : 26 ≤ e) (f : Fg [] [(3, 4)] h h1) : DFr e h h1 := DFr.t he (f.mono rfl)
def DCl (h : PH) (e N : Nat) (d : DD) : Prop := (qR h e 0 = some (e + 1) ∧ qL h (e + 1) = 12 ∧ ∀ j, j < 12 → qR h (e + 1) j = some (e + 2 + j)) ∧ (qI h e 1 = nI (dn d) ∧ qI h e 2 = nI N ∧ qI h e 3 = nI ((drb d).getD 0)) ∧ dn d ≤ 12 ∧ ∀ k, k < dn d → rowE (qI h (e + 2 + k)) (dp d k) ∧ okD N (dp d k) ∧ qI h (e + 2 + k) 1 = nI (dnm d k) ∧ dnm d k < 400000000
theorem DCl.t {h h1 : PH} {e N : Nat} {d : DD} (c : DCl h e N d) (he : 26 ≤ e) (f : Fg [] tF h h1) : DCl h1 e N d := by
  have P := PFr.t (p := 999999999) f
  have I : ∀ a, 26 ≤ a → qI h1 a = qI h a := fun a ha => by
    funext j
    exact (f.2 a List.not_mem_nil j (by simp [tF]; omega)).1
  obtain ⟨⟨a1, a2, a3⟩, ⟨b1, b2, b3⟩, c1, c2⟩ := c
  exact ⟨⟨by rw [(P.2 e 0 (by omega)).2.2]; exact a1, by rw [f.L]; exact a2, fun j hj => by rw [(P.2 (e + 1) j (by omega)).2.2]; exact a3 j hj⟩, ⟨by rw [I e he]; exact b1, by rw [I e he]; exact b2, by rw [I e he]; exact b3⟩, c1, fun k hk => by rw [I (e + 2 + k) (by omega)]; exact c2 k hk⟩
section
variable {h : PH} {b : Nat → Nat} {sz lim m i e N : Nat} {tk : Nat → TK} {d : DD}
theorem kindOf_ok {o : Option Nat} {Q : Int32 → PH → Prop} (x : Tx b sz lim m tk) (ho : (∃ k, k < 34 ∧ kdT (tk i) = 1 ∧ ctT (tk i) = cw k ∧ o = some (wd k)) ∨ (o = none ∧ ¬ (kdT (tk i) = 1 ∧ ∃ k, k < 34 ∧ ctT (tk i) = cw k))) (q1 : ∀ kk, kcO tk i = some kk → Q (nI kk) h) (q0 : kcO tk i = none → Q (-1) h) : wp_X4_kindOf o h Q := by
  have wdi : ∀ a c, wd a = wd c → a = c := fun a c z => by unfold wd at z; omega
  rcases ho with ⟨k, hk, k1, kc, eo⟩ | ⟨eo, no⟩
  · subst eo
    have qw : qWd (some (wd k)) := fun b' e' => ⟨k, hk, (Option.some.inj e').symm⟩
    have ek : kcO tk i = if k = 2 then some 0 else if k = 3 then some 1 else if k = 4 then some 2 else if k = 5 then some 3 else if k = 6 then some 4 else none := by
      unfold kcO
      rw [if_pos k1, kc, kc_c k hk]
    have ne : ∀ c, ¬ some (wd k) = some (wd c) → k ≠ c := fun c z y => z (by rw [y])
    have eq : ∀ c, some (wd k) = some (wd c) → k = c := fun c z => wdi _ _ (Option.some.inj z)
    refine ⟨qw, fun z2 => ⟨qw, fun z3 => ⟨qw, fun z4 => ⟨qw, fun z5 => ⟨qw, fun z6 => q0 ?_, fun y => q1 4 ?_⟩, fun y => q1 3 ?_⟩, fun y => q1 2 ?_⟩, fun y => q1 1 ?_⟩, fun y => q1 0 ?_⟩
    · rw [ek, if_neg (ne 2 z2), if_neg (ne 3 z3), if_neg (ne 4 z4), if_neg (ne 5 z5), if_neg (ne 6 z6)]
    · rw [ek, if_neg (ne 2 z2), if_neg (ne 3 z3), if_neg (ne 4 z4), if_neg (ne 5 z5), if_pos (eq 6 y)]
    · rw [ek, if_neg (ne 2 z2), if_neg (ne 3 z3), if_neg (ne 4 z4), if_pos (eq 5 y)]
    · rw [ek, if_neg (ne 2 z2), if_neg (ne 3 z3), if_pos (eq 4 y)]
    · rw [ek, if_neg (ne 2 z2), if_pos (eq 3 y)]
    · rw [ek, if_pos (eq 2 y)]
  · subst eo
    have qw : qWd none := fun b' e' => by cases e'
    have ek : kcO tk i = none := by
      unfold kcO
      by_cases k1 : kdT (tk i) = 1
      · rw [if_pos k1]
        exact kc_n (fun k hk e => no ⟨k1, k, hk, e⟩)
      · rw [if_neg k1]
    refine ⟨qw, fun z2 => ⟨qw, fun z3 => ⟨qw, fun z4 => ⟨qw, fun z5 => ⟨qw, fun z6 => q0 ek, fun y => by cases y⟩, fun y => by cases y⟩, fun y => by cases y⟩, fun y => by cases y⟩, fun y => by cases y⟩
theorem rsv_c : ∀ k, k < 34 → (q_wc 1 k = 0 ↔ ¬ k < 13) := by decide +kernel
theorem cname_ok (x : Tx b sz lim m tk) (t : TC h m tk i) (he : 26 ≤ e) (c : DCl h e N d) {p : Nat} (hp : e + 2 + dn d ≤ p ∧ p < e + 14) {Q : Int32 → PH → Prop}
    (q1 : ∀ h1 v, pNm tk d i = .inr (i + 1, v) → v < 400000000 → PFr p h h1 → TC h1 m tk (i + 1) → qI h1 p = upd (qI h p) 1 (nI v) → qI h1 3 6 = qI h 3 6 → Q 1 h1)
    (q0 : ∀ h1 f, pNm tk d i = .inl (f, i) → PFr p h h1 → TC h1 m tk i → qI h1 3 6 = nI f → Q 0 h1) : wp_X1_readName e 3 p h Q := by
  obtain ⟨⟨a1, a2, a3⟩, ⟨b1, b2, b3⟩, c1, c2⟩ := c
  have bd := x.bd t.2.2.2
  have bad : ¬ (kdT (tk i) = 1 ∧ isNm (ctT (tk i))) → wp_X7_fail 3 1 h (fun r7 h6 => ((r7 = 0 ∨ r7 = 1) ∧ Q r7 h6)) := fun z => failC_ok (f := 1) t (fun h1 f1 t1 w1 => ⟨Or.inl rfl, q0 h1 1 (by unfold pNm; exact if_neg z) (PFr.t f1) t1 w1⟩)
  have loop : (kdT (tk i) = 1 ∧ isNm (ctT (tk i))) → qLoop (wp_X1_readName_32 e 3 p Q) (0, h) := by
    intro z
    refine loopR (dn d) (fun k s => s = (nI k, h) ∧ ∀ j, j < k → ¬ dnm d j = ctT (tk i)) (fun s => s.1.toNatClampNeg) ⟨rfl, fun j hj => absurd hj (Nat.not_lt_zero j)⟩ (fun k s hk ps => by rw [ps.1]; exact nI_clamp (by omega)) ?_ ?_
    · rintro k s hk ⟨ps, ih⟩ back hb
      subst ps
      obtain ⟨_, _, cn, cl⟩ := c2 k hk
      refine ⟨fun y => absurd y (by rw [b1]; exact nI_ge hk (by omega)), fun _ => ⟨e + 1, a1, by rw [a2]; exact vp_in_nI (by omega) (by decide), e + 2 + k, by rw [nI_clamp (by omega)]; exact a3 k (by omega), contC_ok x t (n_eq (dnm d k) (ctT (tk i)) (fun y w ew => hb _ ⟨by rw [ew, nI_1], fun j hj => ?_⟩) (fun y => failC_ok (f := 3) t (fun h1 f1 t1 w1 => ⟨Or.inl rfl, q0 h1 3 ?_ (PFr.t f1) t1 w1⟩)) cn)⟩⟩
      · rcases (show j < k ∨ j = k by omega) with u | u
        · exact ih j u
        · rw [u]; exact y
      · unfold pNm
        rw [if_pos z]
        exact if_pos ⟨k, hk, y⟩
    · rintro s ⟨ps, ih⟩ back
      subst ps
      refine ⟨fun _ => contC_ok x t (fun h1 e1 => ?_), fun y => absurd (by rw [b1]; exact nI_le (Nat.le_refl _) (by omega)) y⟩
      have t1 : TC h1 m tk i := by rw [e1]; exact t.s (by omega)
      refine passC_ok x t1 (x.lt t.2.2.2 (by rw [z.1]; decide)) (fun h2 f2 t2 => q1 h2 (ctT (tk i)) ?_ bd.2.1 ((PFr.s' e1).tr (PFr.t4 f2)) t2 ?_ ?_)
      · unfold pNm
        rw [if_pos z]
        exact if_neg (fun ⟨j, hj, y⟩ => ih j hj y)
      · rw [row_t4 (by omega) f2, e1, rI_sI, if_pos rfl]
      · rw [f2.I rfl, e1, rI_ne _ _ _ (by omega)]
  refine known_ok x t (fun k hk k1 kc => isAnyC_ok x t (fun _ => ⟨fun y => absurd y (by decide), fun _ => ⟨fun y => (by cases y), fun b10 e10 => ⟨k, hk, (Option.some.inj e10).symm, fun y => loop ⟨k1, fun j hj ej => ?_⟩, fun y => bad (fun u => ?_)⟩⟩⟩) (fun y => absurd k1 y)) (fun no => isAnyC_ok x t (fun k1 => ⟨fun y => absurd y (by decide), fun _ => ⟨fun _ => loop ⟨k1, fun j hj ej => no ⟨k1, j, by omega, ej⟩⟩, fun b10 e10 => (by cases e10)⟩⟩) (fun k1 => ⟨fun _ => bad (fun u => k1 u.1), fun y => absurd rfl y⟩))
  · have := (rsv_c k hk).mp y
    rw [kc] at ej
    have := cw_inj k hk j (by omega) ej
    omega
  · have lt : k < 13 := Classical.byContradiction (fun w => y ((rsv_c k hk).mpr w))
    exact u.2 k lt kc
theorem cpart_ok (x : Tx b sz lim m tk) (t : TC h m tk i) (he : 26 ≤ e) (c : DCl h e N d) (hN8 : 8 ≤ N) (hN : N ≤ 48) {Q : Int32 → PH → Prop}
    (q1 : ∀ h1 i' d2, pPart tk N d i = .inr (i', d2) → i < i' → DFr e h h1 → TC h1 m tk i' → DCl h1 e N d2 → drb d2 = drb d → qI h1 3 6 = qI h 3 6 → Q 1 h1)
    (q0 : ∀ h1 f j, pPart tk N d i = .inl (f, j) → DFr e h h1 → TC h1 m tk j → qI h1 3 6 = nI f → Q 0 h1) : wp_X1_readPart e 3 h Q := by
  have c' := c
  obtain ⟨⟨a1, a2, a3⟩, ⟨b1, b2, b3⟩, c1, c2⟩ := c
  have go : ∀ o, ((∃ k, k < 34 ∧ kdT (tk i) = 1 ∧ ctT (tk i) = cw k ∧ o = some (wd k)) ∨ (o = none ∧ ¬ (kdT (tk i) = 1 ∧ ∃ k, k < 34 ∧ ctT (tk i) = cw k))) → wp_X4_kindOf o h (fun r4 h3 => ((¬ r4 = (-1) → (∃ b6, qR h3 e 0 = some b6 ∧ (((qI h3 e 1) < (nI (qL h3 b6)) → (wp_X7_pass 3 h3 (fun h9 => (∃ b11, qR h9 e 0 = some b11 ∧ (vp_in (qI h9 e 1) (qL h9 b11) ∧ ∃ b14, qR h9 b11 (qI h9 e 1).toNatClampNeg = some b14 ∧ (wp_X4_begin b14 r4 h9 (fun h16 => (wp_X1_readName e 3 b14 h16 (fun r19 h18 => ((r19 = 0 → Q 0 h18) ∧ (¬ (r19 = 0) → (wp_X1_readPinAndWeight e 3 b14 h18 (fun r22 h21 => ((r22 = 0 → Q 0 h21) ∧ (¬ (r22 = 0) → (wp_X1_readRest e 3 b14 h21 (fun r25 h24 => ((¬ r25 = 0 → (∀ h27, h27 = qsI h24 e 1 ((qI h24 e 1) + 1) → Q 1 h27)) ∧ (r25 = 0 → Q 0 h24))))))))))))))))))) ∧ (¬ ((qI h3 e 1) < (nI (qL h3 b6))) → (wp_X7_fail 3 4 h3 (fun r29 h28 => ((r29 = 0 ∨ r29 = 1) ∧ Q r29 h28))))))) ∧ (r4 = (-1) → (wp_X7_fail 3 1 h3 (fun r32 h31 => ((r32 = 0 ∨ r32 = 1) ∧ Q r32 h31)))))) := by
    intro o ho
    refine kindOf_ok x ho (fun kk ek => ?_) (fun ek => ⟨fun z => absurd rfl z, fun _ => failC_ok (f := 1) t (fun h1 f1 t1 w1 => ⟨Or.inl rfl, q0 h1 1 i (pPart_n ek) (DFr.t he f1) t1 w1⟩)⟩)
    have k1 : kdT (tk i) = 1 := by
      unfold kcO at ek
      split at ek
      · assumption
      · cases ek
    have kk5 : kk < 5 := by
      unfold kcO at ek
      rw [if_pos k1] at ek
      exact kc_lt ek
    refine ⟨fun _ => ⟨e + 1, a1, ?_⟩, fun z => absurd z (nI_m1 (by omega))⟩
    rw [a2]
    refine pk_lt (dn d) 12 (fun n12 => ?_) (fun n12 => failC_ok (f := 4) t (fun h1 f1 t1 w1 => ⟨Or.inl rfl, q0 h1 4 i (pPart_4 ek n12) (DFr.t he f1) t1 w1⟩)) b1
    have pp := pPart_s (N := N) (d := d) ek (by omega)
    refine passC_ok x t (x.lt t.2.2.2 (by rw [k1]; decide)) (fun h9 f9 t9 => ?_)
    have c9 := c'.t he (f9.mono rfl)
    have hp : e + 2 + dn d < e + 14 := by omega
    have hp28 : 28 ≤ e + 2 + dn d := by omega
    refine ⟨e + 1, c9.1.1, by rw [c9.2.1.1, c9.1.2.1]; exact vp_in_nI n12 (by decide), e + 2 + dn d, by rw [c9.2.1.1, nI_clamp (by omega)]; exact c9.1.2.2 _ n12, ?_⟩
    generalize hpp : e + 2 + dn d = p at *
    intro g1 y1 g2 y2 g3 y3 g4 y4 g5 y5 g6 y6 g7 y7
    have PB : PFr p h9 g7 := ((((((PFr.s' y1).tr (PFr.s' y2)).tr (PFr.s' y3)).tr (PFr.s' y4)).tr (PFr.s' y5)).tr (PFr.s' y6)).tr (PFr.s' y7)
    have tb : TC g7 m tk (i + 1) := by
      rw [y7, y6, y5, y4, y3, y2, y1]
      exact ((((((t9.s hp28).s hp28).s hp28).s hp28).s hp28).s hp28).s hp28
    have rb : qI g7 p = upd (upd (upd (upd (upd (upd (upd (qI h9 p) 0 (nI kk)) 4 0) 5 0) 6 0) 7 0) 8 0) 9 0 := by
      rw [y7, rI_sI, if_pos rfl, y6, rI_sI, if_pos rfl, y5, rI_sI, if_pos rfl, y4, rI_sI, if_pos rfl, y3, rI_sI, if_pos rfl, y2, rI_sI, if_pos rfl, y1, rI_sI, if_pos rfl]
    have s36 : qI g7 3 6 = qI h 3 6 := by
      rw [y7, rI_ne _ _ _ (by omega), y6, rI_ne _ _ _ (by omega), y5, rI_ne _ _ _ (by omega), y4, rI_ne _ _ _ (by omega), y3, rI_ne _ _ _ (by omega), y2, rI_ne _ _ _ (by omega), y1, rI_ne _ _ _ (by omega), f9.I rfl]
    -- the class's drawing is as it was, but for p
    have dcl : ∀ {g : PH}, PFr p h9 g → DCl g e N d := fun {g} f => by
      obtain ⟨⟨u1, u2, u3⟩, ⟨v1, v2, v3⟩, w1, w2⟩ := c9
      refine ⟨⟨by rw [(f.2 e 0 (by omega)).2.2]; exact u1, by rw [f.1.2.2.2]; exact u2, fun j hj => by rw [(f.2 (e + 1) j (by omega)).2.2]; exact u3 j hj⟩, ⟨by rw [(f.2 e 1 (by omega)).1 (by omega)]; exact v1, by rw [(f.2 e 2 (by omega)).1 (by omega)]; exact v2, by rw [(f.2 e 3 (by omega)).1 (by omega)]; exact v3⟩, w1, fun k hk => ?_⟩
      have : qI g (e + 2 + k) = qI h9 (e + 2 + k) := by
        funext j
        exact (f.2 (e + 2 + k) j (by omega)).1 (by omega)
      rw [this]; exact w2 k hk
    have inr : e + 2 ≤ p ∧ p < e + 14 := by omega
    have D9 : DFr e h h9 := DFr.t4 he f9
    refine cname_ok x tb he (dcl PB) (p := p) (by omega) (fun g8 v e8 v4 P8 t8 R8 S8 => ⟨fun z => absurd z (by decide), fun _ => ?_⟩) (fun g8 f e8 P8 t8 w8 => ⟨fun _ => q0 g8 f _ (by rw [pp]; exact bnd_l e8) (D9.tr ((PB.tr P8).d inr)) t8 w8, fun z => absurd rfl z⟩)
    have P98 := PB.tr P8
    have d8 := dcl P98
    have eN1 : ∀ {g : PH}, DCl g e N d → qI g e 2 - 1 = nI (N - 1) := fun dc => by
      rw [dc.2.1.2.1]
      obtain ⟨M, eM⟩ : ∃ M, N = M + 1 := ⟨N - 1, by omega⟩
      rw [eM, nI_pred]; rfl
    unfold wp_X1_readPinAndWeight
    rw [eN1 d8]
    refine tN_ok x t8 (lo := 0) (hi := N - 1) (by decide) (by omega) (fun g9 pin e9 l0 l1 _ f9' t9' g10 y10 => ⟨fun _ => ?_, fun z => ?_⟩) (fun g9 f e9 f9' t9' w9 g10 y10 => ⟨fun z => absurd ?_ z, fun _ => ⟨fun _ => q0 g10 f _ (by rw [pp]; exact (bnd_r e8).trans (bnd_l e9)) (D9.tr (((P98.tr (PFr.t f9')).tr (PFr.s' y10)).d inr)) (by rw [y10]; exact t9'.s hp28) (by rw [y10, rI_ne _ _ _ (by omega)]; exact w9), fun z => absurd rfl z⟩⟩)
    · have t10 : TC g10 m tk (i + 1 + 1 + 1) := by rw [y10]; exact t9'.s hp28
      have P10 := (P98.tr (PFr.t4 f9')).tr (PFr.s' y10)
      refine tN_ok x t10 (lo := 1) (hi := 99) (by decide) (by decide) (fun g11 w e11 w0 w9 _ f11 t11 g12 y12 => ⟨fun z => ?_, fun _ => ⟨fun z => absurd z (by decide), fun _ => ?_⟩⟩) (fun g11 f e11 f11 t11 w11 g12 y12 => ⟨fun _ => ⟨fun _ => q0 g12 f _ (by rw [pp]; exact (bnd_r e8).trans ((bnd_r e9).trans (bnd_l e11))) (D9.tr (((P10.tr (PFr.t f11)).tr (PFr.s' y12)).d inr)) (by rw [y12]; exact t11.s hp28) (by rw [y12, rI_ne _ _ _ (by omega)]; exact w11), fun z => absurd rfl z⟩, fun z => absurd ?_ z⟩)
      · rw [y12, rI_sI, if_pos rfl, up_eq] at z; exact absurd z (nI_m1 (by omega))
      · have t12 : TC g12 m tk (i + 1 + 1 + 1 + 1) := by rw [y12]; exact t11.s hp28
        have P12 := (P10.tr (PFr.t4 f11)).tr (PFr.s' y12)
        have d12 := dcl P12
        have R12 : qI g12 p = upd (upd (upd (upd (upd (upd (upd (upd (upd (upd (qI h9 p) 0 (nI kk)) 4 0) 5 0) 6 0) 7 0) 8 0) 9 0) 1 (nI v)) 2 (nI pin)) 3 (nI w) := by
          rw [y12, rI_sI, if_pos rfl, row_t4 hp28 f11, y10, rI_sI, if_pos rfl, row_t4 hp28 f9', R8, rb]
        have S12 : qI g12 3 6 = qI h 3 6 := by
          rw [y12, rI_ne _ _ _ (by omega), f11.I rfl, y10, rI_ne _ _ _ (by omega), f9'.I rfl, S8]; exact s36
        refine crest_ok x t12 hp28 ⟨by omega, by omega⟩ d12.2.1.2.1 hN8 hN (kk := kk) (pin := pin) (w := w) kk5 (by omega) w0 w9 ?_ (fun g13 i' D e13 ii okd rE n1 P13 t13 S13 => ⟨fun _ g14 y14 => ?_, fun z => absurd z (by decide)⟩) (fun g13 f j e13 P13 t13 w13 => ⟨fun z => absurd rfl z, fun _ => q0 g13 f j (by rw [pp]; exact (bnd_r e8).trans ((bnd_r e9).trans ((bnd_r e11).trans (bnd_l e13)))) (D9.tr ((P12.tr P13).d inr)) t13 w13⟩)
        · rw [R12]
          refine ⟨?_, ?_, ?_, ?_, ?_, ?_, ?_, ?_, ?_⟩ <;> simp only [up_at] <;> simp
        · have d13 := dcl (P12.tr P13)
          rw [d13.2.1.1, nI_1] at y14
          have n1' : qI g13 p 1 = nI v := by rw [n1, R12]; simp only [up_at]; simp
          refine q1 g14 i' (addP d D v) (by rw [pp]; exact (bnd_r e8).trans ((bnd_r e9).trans ((bnd_r e11).trans (bnd_r e13)))) (by omega) (D9.tr (((P12.tr P13).d inr).tr (DFr.s' y14))) ?_ ?_ rfl ?_
          · obtain ⟨⟨z1, z2, z3, z4, z5, z6⟩, ⟨z7, z8⟩, z9, z10⟩ := t13
            rw [y14]
            exact ⟨⟨z1, z2, z3, z4, z5, z6⟩, ⟨by rw [rI_ne _ _ _ (by omega)]; exact z7, fun j hj => by rw [rI_ne _ _ _ (by omega), rI_ne _ _ _ (by omega), rI_ne _ _ _ (by omega)]; exact z8 j hj⟩, by rw [rI_ne _ _ _ (by omega)]; exact z9, z10⟩
          · obtain ⟨⟨u1, u2, u3⟩, ⟨v1, v2, v3⟩, w1, w2⟩ := d13
            refine ⟨⟨by rw [y14]; exact u1, by rw [y14]; exact u2, fun j hj => by rw [y14]; exact u3 j hj⟩, ⟨by rw [y14, rI_sI, if_pos rfl, up_eq]; rfl, by rw [y14, rI_sI, if_pos rfl, up_ne _ _ (by decide)]; exact v2, by rw [y14, rI_sI, if_pos rfl, up_ne _ _ (by decide)]; exact v3⟩, by show dn d + 1 ≤ 12; omega, fun k hk => ?_⟩
            have hk : k < dn d + 1 := hk
            rw [y14, rI_ne _ _ _ (by omega)]
            show rowE (qI g13 (e + 2 + k)) (if k = dn d then D else dp d k) ∧ okD N (if k = dn d then D else dp d k) ∧ qI g13 (e + 2 + k) 1 = nI (if k = dn d then v else dnm d k) ∧ (if k = dn d then v else dnm d k) < 400000000
            by_cases y : k = dn d
            · rw [if_pos y, if_pos y, y, hpp]
              exact ⟨rE, okd, n1', v4⟩
            · rw [if_neg y, if_neg y]
              exact w2 k (by omega)
          · rw [y14, rI_ne _ _ _ (by omega), S13]; exact S12
      · rw [y12, rI_sI, if_pos rfl, up_eq]
    · rw [y10, rI_sI, if_pos rfl, up_eq] at z; exact absurd z (nI_m1 (by omega))
    · rw [y10, rI_sI, if_pos rfl, up_eq]
  exact known_ok x t (fun k hk k1 kc => go _ (Or.inl ⟨k, hk, k1, kc, rfl⟩)) (fun no => go _ (Or.inr ⟨rfl, no⟩))
end

/-! ===== PURE: a DRAWING, as the class reads it ===== -/
theorem odd_ok (c : Nat) (hc : c < 400000000) : nI c - nI c / 2 * 2 = nI (c % 2) := by
  rw [show nI c / 2 = nI (c / 2) from pk_div (d := 2) (by omega) (by decide) (by decide), show (2 : Int32) = nI 2 from rfl, pk_mul, pk_sub (by omega)]
  congr 1
  omega
def pT2 (tk : Nat → TK) (i : Nat) : PR Nat := if kdT (tk i) = 2 ∧ ctT (tk i) % 2 = 1 then .inl (2, i) else bnd (pN tk 8 48 i) fun i v => bnd (pS tk 59 i) fun i _ => .inr (i, v)
def pT (tk : Nat → TK) (i : Nat) : PR Nat := if kdT (tk i) = 1 ∧ ctT (tk i) = cw 0 then pT2 tk (i + 1) else .inr (i, 24)
theorem TC.e {h h1 : PH} {m i e k : Nat} {tk : Nat → TK} {v : Int32} (t : TC h m tk i) (he : 26 ≤ e) (q : h1 = qsI h e k v) : TC h1 m tk i := by
  obtain ⟨⟨z1, z2, z3, z4, z5, z6⟩, ⟨z7, z8⟩, z9, z10⟩ := t
  rw [q]
  exact ⟨⟨z1, z2, z3, z4, z5, z6⟩, ⟨by rw [rI_ne _ _ _ (by omega)]; exact z7, fun j hj => by rw [rI_ne _ _ _ (by omega), rI_ne _ _ _ (by omega), rI_ne _ _ _ (by omega)]; exact z8 j hj⟩, by rw [rI_ne _ _ _ (by omega)]; exact z9, z10⟩
section
variable {h : PH} {b : Nat → Nat} {sz lim m i e N : Nat} {tk : Nat → TK} {d : DD}
theorem cdturn_ok (x : Tx b sz lim m tk) (t : TC h m tk i) (lt : i < m) (he : 26 ≤ e) {Q : Int32 → PH → Prop}
    (q1 : ∀ h1 i' v, pT2 tk (i + 1) = .inr (i', v) → 8 ≤ v → v ≤ 48 → DFr e h h1 → TC h1 m tk i' → qI h1 e = upd (qI h e) 2 (nI v) → qI h1 3 6 = qI h 3 6 → Q 1 h1)
    (q0 : ∀ h1 f j, pT2 tk (i + 1) = .inl (f, j) → DFr e h h1 → TC h1 m tk j → qI h1 3 6 = nI f → Q 0 h1) : wp_X1_readTurn e 3 h Q := by
  refine passC_ok x t lt (fun h1 f1 t1 => ?_)
  have c1 := (x.bd t1.2.2.2).2.1
  have rowe : ∀ {g1 g2 : PH}, Fg [] [(3, 4)] g1 g2 → qI g2 e = qI g1 e := fun f => by
    funext j
    exact (f.2 e List.not_mem_nil j (by simp; omega)).1
  have go : ¬ (kdT (tk (i + 1)) = 2 ∧ ctT (tk (i + 1)) % 2 = 1) → wp_X1_readTurn_26 e 3 h1 Q := by
    intro no
    have pp : pT2 tk (i + 1) = bnd (pN tk 8 48 (i + 1)) fun i v => bnd (pS tk 59 i) fun i _ => .inr (i, v) := if_neg no
    refine tN_ok x t1 (lo := 8) (hi := 48) (by decide) (by decide) (fun h2 v e2 l0 l1 _ f2 t2 => ⟨fun _ h3 e3 => ?_, fun z => absurd z (nI_m1 (by omega))⟩) (fun h2 f e2 f2 t2 w2 => ⟨fun z => absurd rfl z, fun _ => q0 h2 f _ (by rw [pp]; exact bnd_l e2) ((DFr.t4 he f1).tr (DFr.t he f2)) t2 w2⟩)
    have t3 := t2.e he e3
    have D3 : DFr e h h3 := ((DFr.t4 he f1).tr (DFr.t4 he f2)).tr (DFr.s' e3)
    refine tS_ok x t3 (c := 59) (by decide) (fun h4 e4 f4 t4 => ⟨Or.inr rfl, q1 h4 _ v (by rw [pp]; exact (bnd_r e2).trans (bnd_r e4)) l0 l1 (D3.tr (DFr.t4 he f4)) t4 ?_ ?_⟩) (fun h4 e4 f4 t4 w4 => ⟨Or.inl rfl, q0 h4 1 _ (by rw [pp]; exact (bnd_r e2).trans (bnd_l e4)) (D3.tr (DFr.t he f4)) t4 w4⟩)
    · rw [rowe f4, e3, rI_sI, if_pos rfl, rowe f2, rowe f1]
    · rw [f4.I rfl, e3, rI_ne _ _ _ (by omega), f2.I rfl, f1.I rfl]
  refine isNumC_ok x t1 (fun z => ⟨fun y => absurd y (by decide), fun _ => contC_ok x t1 ?_⟩) (fun z => ⟨fun _ => go (fun y => z y.1), fun y => absurd rfl y⟩)
  rw [odd_ok _ c1]
  refine ⟨fun y => go (fun u => ?_), fun y => failC_ok (f := 2) t1 (fun h2 f2 t2 w2 => ⟨Or.inl rfl, q0 h2 2 _ (if_pos ⟨z, ?_⟩) ((DFr.t4 he f1).tr (DFr.t he f2)) t2 w2⟩)⟩
  · rw [u.2] at y; exact absurd y (by decide)
  · rcases (show ctT (tk (i + 1)) % 2 = 0 ∨ ctT (tk (i + 1)) % 2 = 1 by omega) with u | u
    · exact absurd (by rw [u]; rfl) y
    · exact u
theorem crub_ok (x : Tx b sz lim m tk) (t : TC h m tk i) (lt : i < m) (he : 26 ≤ e) (c : DCl h e N d) {Q : Int32 → PH → Prop}
    (q1 : ∀ h1 v, pN tk 0 999 (i + 1) = .inr (i + 1 + 1, v) → v ≤ 999 → DFr e h h1 → TC h1 m tk (i + 1 + 1) → DCl h1 e N (setR d v) → qI h1 3 6 = qI h 3 6 → Q 1 h1)
    (q0 : ∀ h1 f j, pN tk 0 999 (i + 1) = .inl (f, j) → DFr e h h1 → TC h1 m tk j → qI h1 3 6 = nI f → Q 0 h1) : wp_X1_readRub e 3 h Q := by
  refine passC_ok x t lt (fun h1 f1 t1 => ?_)
  have c1 := c.t he (f1.mono rfl)
  refine tN_ok x t1 (lo := 0) (hi := 999) (by decide) (by decide) (fun h2 v e2 l0 l1 _ f2 t2 => ⟨fun _ h3 e3 => ?_, fun z => absurd z (nI_m1 (by omega))⟩) (fun h2 f e2 f2 t2 w2 => ⟨fun z => absurd rfl z, fun _ => q0 h2 f _ e2 ((DFr.t4 he f1).tr (DFr.t he f2)) t2 w2⟩)
  have c2 := c1.t he (f2.mono rfl)
  refine q1 h3 v e2 l1 (((DFr.t4 he f1).tr (DFr.t4 he f2)).tr (DFr.s' e3)) (t2.e he e3) ?_ (by rw [e3, rI_ne _ _ _ (by omega), f2.I rfl, f1.I rfl])
  obtain ⟨⟨u1, u2, u3⟩, ⟨v1, v2, v3⟩, w1, w2⟩ := c2
  rw [e3]
  exact ⟨⟨u1, u2, u3⟩, ⟨by rw [rI_sI, if_pos rfl, up_ne _ _ (by decide)]; exact v1, by rw [rI_sI, if_pos rfl, up_ne _ _ (by decide)]; exact v2, by rw [rI_sI, if_pos rfl, up_eq]; rfl⟩, w1, fun k hk => by rw [rI_ne _ _ _ (by omega)]; exact w2 k hk⟩
def d00 : DD := (0, (fun _ => (0, 0, 0, 0, 0, 0, 0, 0, false)), (fun _ => 0), none)
/-- the whole text: the fault, or N and what the lines told -/
def DO (tk : Nat → TK) (m : Nat) (too : Prop) (r : PR (Nat × DD)) : Prop := (∃ y, pT tk 0 = .inl y ∧ r = .inl y) ∨ ∃ i0 N, pT tk 0 = .inr (i0, N) ∧ ((∃ y, IO (plD tk N) i0 d00 m too (.inl y) ∧ r = .inl y) ∨ ∃ l d, IO (plD tk N) i0 d00 m too (.inr (l, d)) ∧ r = .inr (l, (N, d)))
theorem DO_uniq (x : Tx b sz lim m tk) {too : Prop} {r r2 : PR (Nat × DD)} (a : DO tk m too r) (c : DO tk m too r2) : r = r2 := by
  rcases a with ⟨y, a1, a2⟩ | ⟨i0, N, a1, a2⟩
  · rcases c with ⟨y2, c1, c2⟩ | ⟨_, _, c1, c2⟩
    · rw [a1] at c1; cases c1; rw [a2, c2]
    · rw [a1] at c1; cases c1
  · rcases c with ⟨y2, c1, c2⟩ | ⟨_, _, c1, c2⟩
    · rw [a1] at c1; cases c1
    · rw [a1] at c1; cases c1
      rcases a2 with ⟨y, u1, u2⟩ | ⟨l, d, u1, u2⟩ <;> rcases c2 with ⟨y2, v1, v2⟩ | ⟨l2, d2, v1, v2⟩
      · have := IO_uniq (plD_m x) u1 v1; cases this; rw [u2, v2]
      · have := IO_uniq (plD_m x) u1 v1; cases this
      · have := IO_uniq (plD_m x) u1 v1; cases this
      · have := IO_uniq (plD_m x) u1 v1; cases this; rw [u2, v2]
theorem cdraw_ok (x : Tx b sz lim m tk) (hm : m ≤ 600) (t : TC h m tk 0) (tl : qI h 3 5 = if lim < sz then 1 else 0) (z6 : qI h 3 6 = 0) (he : 26 ≤ e) (c0 : qR h e 0 = some (e + 1) ∧ qL h (e + 1) = 12 ∧ ∀ j, j < 12 → qR h (e + 1) j = some (e + 2 + j)) {Q : Int32 → PH → Prop}
    (q1 : ∀ h1 l N d, DO tk m (lim < sz) (.inr (l, (N, d))) → 8 ≤ N → N ≤ 48 → DFr e h h1 → DCl h1 e N d → (drb d).getD 0 ≤ 999 → qI h1 3 6 = 0 → Q 1 h1)
    (q0 : ∀ h1 f j, DO tk m (lim < sz) (.inl (f, j)) → DFr e h h1 → TC h1 m tk j → qI h1 3 6 = nI f → Q 0 h1) : wp_X1_readFrom e 3 h Q := by
  intro h1 e1 h2 e2 h3 e3
  have t3 := ((t.e he e1).e he e2).e he e3
  have D3 : DFr e h h3 := ((DFr.s' e1).tr (DFr.s' e2)).tr (DFr.s' e3)
  have r3 : qI h3 e = upd (upd (upd (qI h e) 1 0) 2 24) 3 0 := by rw [e3, rI_sI, if_pos rfl, e2, rI_sI, if_pos rfl, e1, rI_sI, if_pos rfl]
  have k3 : qR h3 e 0 = some (e + 1) ∧ qL h3 (e + 1) = 12 ∧ ∀ j, j < 12 → qR h3 (e + 1) j = some (e + 2 + j) := by rw [e3, e2, e1]; exact c0
  have z3 : qI h3 3 6 = 0 := by rw [e3, rI_ne _ _ _ (by omega), e2, rI_ne _ _ _ (by omega), e1, rI_ne _ _ _ (by omega)]; exact z6
  -- the lines
  have main : ∀ (g : PH) (i0 N : Nat), pT tk 0 = .inr (i0, N) → 8 ≤ N → N ≤ 48 → DFr e h g → TC g m tk i0 → DCl g e N d00 → qI g 3 6 = 0 → qLoop (wp_X1_readFrom_40 e 3 Q) (0, 0, g) := by
    intro g i0 N pt n8 n48 Dg tg cg zg
    refine ⟨fun s => ∃ l i d, s.1 = (if (drb d).isSome = true then 1 else 0) ∧ s.2.1 = nI l ∧ itr (plD tk N) i0 d00 l = .inr (i, d) ∧ l ≤ i ∧ DFr e h s.2.2 ∧ TC s.2.2 m tk i ∧ DCl s.2.2 e N d ∧ (drb d).getD 0 ≤ 999 ∧ qI s.2.2 3 6 = 0, fun s => 640 - s.2.1.toNatClampNeg, ⟨0, i0, d00, rfl, rfl, rfl, Nat.zero_le _, Dg, tg, cg, Nat.zero_le _, zg⟩, ?_⟩
    rintro ⟨f', l', g1⟩ ⟨l, i, d, u0, u1, u2, u3, u4, u5, u6, u8, u7⟩
    dsimp only at u0 u1 u4 u5 u6 u7
    subst u0 u1
    have im := u5.2.2.2
    have tl1 : qI g1 3 5 = if lim < sz then 1 else 0 := by rw [(u4.2 3 5 (by omega)).1 (by omega)]; exact tl
    have fault : ∀ {g2 : PH} {f j : Nat}, i < m → plD tk N l i d = .inl (f, j) → DFr e g1 g2 → TC g2 m tk j → qI g2 3 6 = nI f → Q 0 g2 := fun lm p D t w => q0 _ _ _ (Or.inr ⟨i0, N, pt, Or.inl ⟨_, ⟨l, Or.inr ⟨i, d, _, u2, lm, p, rfl⟩⟩, rfl⟩⟩) (u4.tr D) t w
    -- behind the line's words
    have behind : ∀ (g2 : PH) (i2 : Nat) (d2 : DD) (fl : Int32), i < m → i < i2 → plD tk N l i d = (bnd (pS tk 59 i2) fun i _ => .inr (i, d2)) → fl = (if (drb d2).isSome = true then 1 else 0) → DFr e g1 g2 → TC g2 m tk i2 → DCl g2 e N d2 → (drb d2).getD 0 ≤ 999 → qI g2 3 6 = 0 → wp_X1_readFrom_101 e 3 fl (nI l) 1 (fun s => (∃ l i d, s.1 = (if (drb d).isSome = true then 1 else 0) ∧ s.2.1 = nI l ∧ itr (plD tk N) i0 d00 l = .inr (i, d) ∧ l ≤ i ∧ DFr e h s.2.2 ∧ TC s.2.2 m tk i ∧ DCl s.2.2 e N d ∧ (drb d).getD 0 ≤ 999 ∧ qI s.2.2 3 6 = 0) ∧ 640 - s.2.1.toNatClampNeg < 640 - (nI l).toNatClampNeg) g2 Q := by
      intro g2 i2 d2 fl lm ii pl efl D2 t2 cl2 rb2 w2
      refine ⟨fun z => absurd z (by decide), fun _ => tS_ok x t2 (c := 59) (by decide) (fun g3 e3 f3 t3 => ⟨fun _ w ew => ⟨⟨l + 1, i2 + 1, d2, efl, by rw [ew]; exact nI_1 l, (itr_s u2).trans (by rw [pl]; exact bnd_r e3), by omega, (u4.tr D2).tr (DFr.t4 he f3), t3, cl2.t he (f3.mono rfl), rb2, by rw [f3.I rfl]; exact w2⟩, ?_⟩, fun z => absurd z (by decide)⟩) (fun g3 e3 f3 t3 w3 => ⟨fun z => absurd rfl z, fun _ => fault lm (by rw [pl]; exact bnd_l e3) (D2.tr (DFr.t he f3)) t3 w3⟩)⟩
      show 640 - w.toNatClampNeg < 640 - (nI l).toNatClampNeg
      rw [ew, nI_1, nI_clamp (by omega), nI_clamp (by omega)]; omega
    refine pk_le 640 l (fun z => by omega) (fun _ => isEndC_ok x u5 (fun em => ⟨fun _ => tE_ok x u5 tl1 (fun _ nt => ⟨Or.inr rfl, q1 g1 l N d (Or.inr ⟨i0, N, pt, Or.inr ⟨l, d, ?_, rfl⟩⟩) n8 n48 u4 u6 u8 u7⟩) (fun g2 no f2 t2 w2 => ⟨Or.inl rfl, q0 g2 1 i (Or.inr ⟨i0, N, pt, Or.inl ⟨_, ?_, rfl⟩⟩) (u4.tr (DFr.t he f2)) t2 w2⟩), fun z => absurd z (by decide)⟩) (fun lm => ⟨fun z => absurd rfl z, fun _ => isWord_ok x u5 (k := 1) (by decide) (fun zr => ⟨fun y => absurd y (by decide), fun _ => ⟨fun y => ?_, fun y => ?_⟩⟩) (fun zr => ⟨fun _ => ?_, fun y => absurd rfl y⟩)⟩))
    · subst em
      exact ⟨l, Or.inl ⟨d, u2, Or.inr ⟨nt, rfl⟩⟩⟩
    · subst em
      exact ⟨l, Or.inl ⟨d, u2, Or.inl ⟨Classical.byContradiction (fun y => no ⟨rfl, y⟩), rfl⟩⟩⟩
    · -- rub
      have no : ¬ (drb d).isSome = true := fun u => by dsimp only at y; rw [if_pos u] at y; exact absurd y (by decide)
      have pl : plD tk N l i d = (bnd (pN tk 0 999 (i + 1)) fun i v => bnd (pS tk 59 i) fun i _ => .inr (i, setR d v)) := by
        unfold plD
        rw [if_pos zr, if_neg no]
      intro v27 e27
      dsimp only at e27
      rw [if_neg no] at e27
      refine ⟨fun y => absurd y (by decide), fun _ => crub_ok x u5 lm he u6 (fun g2 v e2 v9 D2 t2 c2 w2 => behind g2 (i + 1 + 1) (setR d v) v27 lm (by omega) (by rw [pl]; exact bnd_r e2) (by rw [e27]; rfl) D2 t2 c2 v9 (by rw [w2]; exact u7)) (fun g2 f j e2 D2 t2 w2 => ⟨fun _ => fault lm (by rw [pl]; exact bnd_l e2) D2 t2 w2, fun y => absurd rfl y⟩)⟩
    · -- rub again
      have ys : (drb d).isSome = true := Classical.byContradiction (fun u => y (by rw [if_neg u]))
      refine failC_ok (f := 3) u5 (fun g2 f2 t2 w2 => ⟨Or.inl rfl, fault lm ?_ (DFr.t he f2) t2 w2⟩)
      unfold plD
      rw [if_pos zr, if_pos ys]
    · -- a part
      have pl : plD tk N l i d = (bnd (pPart tk N d i) fun i d2 => bnd (pS tk 59 i) fun i _ => .inr (i, d2)) := by
        unfold plD
        rw [if_neg zr]
      intro v27 e27
      dsimp only at e27
      have e27' : v27 = if (drb d).isSome = true then 1 else 0 := by
        rw [e27]
        by_cases u : (drb d).isSome = true
        · rw [if_pos u]; rfl
        · rw [if_neg u]; rfl
      refine ⟨fun _ => cpart_ok x u5 he u6 n8 n48 (fun g2 i2 d2 e2 ii D2 t2 c2 rb w2 => behind g2 i2 d2 v27 lm ii (by rw [pl]; exact bnd_r e2) (by rw [e27', rb]) D2 t2 c2 (by rw [rb]; exact u8) (by rw [w2]; exact u7)) (fun g2 f j e2 D2 t2 w2 => ⟨fun _ => fault lm (by rw [pl]; exact bnd_l e2) D2 t2 w2, fun y => absurd rfl y⟩), fun y => absurd rfl y⟩
  refine isWord_ok x t3 (k := 0) (by decide) (fun zt => ⟨fun y => absurd y (by decide), fun _ => ?_⟩) (fun zt => ⟨fun _ => main h3 0 24 (if_neg zt) (by decide) (by decide) D3 t3 ⟨k3, ⟨?_, ?_, ?_⟩, Nat.zero_le _, fun k hk => absurd hk (Nat.not_lt_zero k)⟩ z3, fun y => absurd rfl y⟩)
  · have pt : pT tk 0 = pT2 tk (0 + 1) := if_pos zt
    refine cdturn_ok x t3 (x.lt t3.2.2.2 (by rw [zt.1]; decide)) he (fun h4 i' v e4 v8 v48 D4 t4 r4 w4 => ⟨fun _ => main h4 i' v (by rw [pt]; exact e4) v8 v48 (D3.tr D4) t4 ⟨⟨?_, ?_, fun j hj => ?_⟩, ⟨?_, ?_, ?_⟩, Nat.zero_le _, fun k hk => absurd hk (Nat.not_lt_zero k)⟩ (by rw [w4]; exact z3), fun y => absurd y (by decide)⟩) (fun h4 f j e4 D4 t4 w4 => ⟨fun y => absurd rfl y, fun _ => q0 h4 f j (Or.inl ⟨_, by rw [pt]; exact e4, rfl⟩) (D3.tr D4) t4 w4⟩)
    · rw [(D4.2 e 0 (by omega)).2.2]; exact k3.1
    · rw [D4.1.2.2.2]; exact k3.2.1
    · rw [(D4.2 (e + 1) j (by omega)).2.2]; exact k3.2.2 j hj
    · rw [r4, r3]; rfl
    · rw [r4, up_eq]
    · rw [r4, r3]; rfl
  · rw [r3]; rfl
  · rw [r3]; rfl
  · rw [r3]; rfl
end

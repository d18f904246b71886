/-! ===== PURE: a DRAWING's part and line, as the model reads them ===== -/
theorem c1_n' : (1 : Int32).toNatClampNeg = 1 := by decide
theorem mRow_of {R : Nat → Int32} {D : PD} (a0 : R 0 = mRow D 0) (a1 : R 1 = mRow D 1) (a2 : R 2 = mRow D 2) (a3 : R 3 = mRow D 3) (a4 : R 4 = mRow D 4) (a5 : R 5 = mRow D 5) (a6 : R 6 = mRow D 6) (a7 : R 7 = mRow D 7) : ∀ j, j < 8 → R j = mRow D j := by
  intro j hj
  rcases (show j = 0 ∨ j = 1 ∨ j = 2 ∨ j = 3 ∨ j = 4 ∨ j = 5 ∨ j = 6 ∨ j = 7 by omega) with z | z | z | z | z | z | z | z <;> subst z
  · exact a0
  · exact a1
  · exact a2
  · exact a3
  · exact a4
  · exact a5
  · exact a6
  · exact a7
section
variable {h g : PH} {b : Nat → Nat} {sz lim m i N P : Nat} {tk : Nat → TK} {R : Nat → Int32}
theorem mrest_ok (sh : Shp h) (x : Tx b sz lim m tk) (r : RW h g b sz lim m tk P i R) (hP : P + 8 ≤ 768) (hN8 : 8 ≤ N) (hN : N ≤ 48) {kk pin w : Nat} (hkk : kk < 5) (R0 : R 0 = nI kk) (R1 : R 1 = nI pin) (R2 : R 2 = nI w) (Rm : ∀ j, 3 ≤ j → j < 8 → R j = -1) {Q : Int32 → PH → Prop}
    (q1 : ∀ g1 i' D, pRest tk N kk pin w i = .inr (i', D) → RF gF h g1 P → MS g1 b sz lim m tk i' → (∀ j, j < 8 → qI g1 75 (P + j) = mRow D j) → Q 1 g1)
    (q0 : ∀ g1 f j, pRest tk N kk pin w i = .inl (f, j) → FL h g1 tk P f j → Q 0 g1) : ((¬ nI kk = 0 → ((nI kk = 1 → (wp_X12_readPart_217 70 (nI P) (nI (N - 1)) g Q)) ∧ (¬ (nI kk = 1) → ((¬ nI kk = 3 → ((¬ nI kk = 4 → (wp_X12_at g (fun r67 h66 => (wp_X12_readKey 70 r67 h66 (fun r69 h68 => ((r69 = 0 → Q 0 h68) ∧ (¬ (r69 = 0) → (wp_X12_readNumber 70 0 (nI (N - 1)) h68 (fun r72 h71 => ((¬ r72 = 0 → (∃ b74, qR h71 70 17 = some b74 ∧ (vp_in (nI P + 7) (qL h71 b74) ∧ ∀ h76, h76 = qsI h71 b74 (nI P + 7).toNatClampNeg (qI h71 70 13) → (wp_X12_isShut 70 h76 (fun r79 h78 => ((¬ r79 = 0 → (wp_X12_go 70 h78 (fun h81 => (wp_X12_readSpan 70 (nI P) (nI (N - 1)) h81 (fun r84 h83 => ((r84 = 0 ∨ r84 = 1) ∧ Q r84 h83)))))) ∧ (r79 = 0 → Q 1 h78))))))) ∧ (r72 = 0 → Q 0 h71))))))))))) ∧ (nI kk = 4 → Q 1 g))) ∧ (nI kk = 3 → (wp_X12_readPart_217 70 (nI P) (nI (N - 1)) g Q)))))) ∧ (nI kk = 0 → (wp_X12_readWeight 70 (nI P) (nI (N - 1)) g (fun r87 h86 => ((r87 = 0 ∨ r87 = 1) ∧ Q r87 h86))))) := by
  have fin : ∀ {g1 : PH} {i' : Nat} {D : PD} {R' : Nat → Int32}, pRest tk N kk pin w i = .inr (i', D) → RW h g1 b sz lim m tk P i' R' → (∀ j, j < 8 → R' j = mRow D j) → Q 1 g1 := fun e rw' er => q1 _ _ _ e rw'.1 rw'.2.1 (fun j hj => (rw'.2.2 j hj).trans (er j hj))
  have rng : (kk = 1 ∨ kk = 3) → wp_X12_readPart_217 70 (nI P) (nI (N - 1)) g Q := by
    intro z
    have pr : pRest tk N kk pin w i = bnd (pRg tk N (cw 9) i) fun i r => .inr (i, (kk, pin, w, 0, 0, 0, r.1, r.2, true)) := by
      unfold pRest
      rw [if_neg (by omega), if_neg (by omega), if_neg (by omega)]
    refine rFrom_ok x r.2.1 (fun h1 e1 o1 => ⟨fun y => absurd y (by decide), fun _ => ?_⟩) (fun h1 e1 c1 => ⟨fun _ => q0 h1 1 _ (by rw [pr]; exact bnd_l (bnd_l e1)) (r.fl c1), fun y => absurd rfl y⟩)
    refine mspan_ok sh x (r.st o1) hP hN8 hN (fun g1 i' lo hi e2 r2 => ⟨fun y => absurd y (by decide), fun _ => fin (by rw [pr]; exact bnd_r ((bnd_r e1).trans e2)) r2 ?_⟩) (fun g1 f j e2 c2 => ⟨fun _ => q0 g1 f j (by rw [pr]; exact bnd_l ((bnd_r e1).trans e2)) c2, fun y => absurd rfl y⟩)
    rcases z with z | z <;> subst z
    all_goals refine mRow_of ?_ ?_ ?_ ?_ ?_ ?_ ?_ ?_ <;> simp only [up_at] <;> simp
    all_goals first | exact R0 | exact R1 | exact R2 | exact Rm 3 (by decide) (by decide) | exact Rm 4 (by decide) (by decide) | exact Rm 7 (by decide) (by decide) | rfl
  refine n_eq kk 0 (fun k0 => pk_eq kk 1 (fun k1 => rng (Or.inl k1)) (fun k1 => n_eq kk 3 (fun k3 => n_eq kk 4 (fun k4 => ?_) (fun k4 => ?_)) (fun k3 => rng (Or.inr k3)))) (fun k0 => ?_)
  · have k2 : kk = 2 := by omega
    subst k2
    have pr : pRest tk N 2 pin w i = pDoor tk N pin w i := by unfold pRest; rw [if_neg (by decide), if_pos rfl]
    refine sp_at (rK_ok x r.2.1 (cw_c 11 (by decide)).2 (fun h1 e1 o1 => ⟨fun y => absurd y (by decide), fun _ => ?_⟩) (fun h1 e1 c1 => ⟨fun _ => q0 h1 1 _ (by rw [pr]; exact bnd_l e1) (r.fl c1), fun y => absurd rfl y⟩))
    have r1 := r.st o1
    refine rN_ok x r1.2.1 (lo := 0) (hi := N - 1) (by decide) (by omega) (fun h2 a e2 l0 l1 o2 v2 => ⟨fun _ => ?_, fun z => absurd z (by decide)⟩) (fun h2 f e2 c2 => ⟨fun z => absurd rfl z, fun _ => q0 h2 f _ (by rw [pr]; exact (bnd_r e1).trans (bnd_l e2)) (r1.fl c2)⟩)
    have r2 := r1.st o2
    refine wr75 (c := 7) (r2.sh sh) (by omega) ?_
    rw [v2]
    have r3 := r2.wr (c := 7) (v := nI a) (by decide)
    refine isShut_ok x r3.2.1 (fun zo => ⟨fun _ => goM_ok x r3.2.1 (x.lt r3.2.1.2.2 (by rw [zo.1]; decide)) (fun h4 f4 s4 => ?_), fun y => absurd y (by decide)⟩) (fun zo => ⟨fun y => absurd rfl y, fun _ => fin (D := (2, pin, w, 0, 0, a, 0, 0, false)) (by rw [pr]; exact (bnd_r e1).trans ((bnd_r e2).trans (if_neg zo))) r3 ?_⟩)
    · have e4 : pDoor tk N pin w i = bnd (pRg tk N (cw 12) (i + 1 + 1)) fun i r => .inr (i, (2, pin, w, 0, 0, a, r.1, r.2, true)) := (bnd_r e1).trans ((bnd_r e2).trans (if_pos zo))
      have w4 : pW tk (cw 12) (i + 1 + 1) = .inr (i + 1 + 1 + 1, ()) := if_pos zo
      have r4 := r3.st ⟨f4.mono rfl, s4⟩
      refine mspan_ok sh x r4 hP hN8 hN (fun g1 i' lo hi e5 r5 => ⟨Or.inr rfl, fin (by rw [pr, e4]; exact bnd_r ((bnd_r w4).trans e5)) r5 ?_⟩) (fun g1 f j e5 c5 => ⟨Or.inl rfl, q0 g1 f j (by rw [pr, e4]; exact bnd_l ((bnd_r w4).trans e5)) c5⟩)
      refine mRow_of ?_ ?_ ?_ ?_ ?_ ?_ ?_ ?_ <;> simp only [up_at] <;> simp
      all_goals first | exact R0 | exact R1 | exact R2 | exact Rm 3 (by decide) (by decide) | exact Rm 4 (by decide) (by decide) | rfl
    · refine mRow_of ?_ ?_ ?_ ?_ ?_ ?_ ?_ ?_ <;> simp only [up_at] <;> simp
      all_goals first | exact R0 | exact R1 | exact R2 | exact Rm 3 (by decide) (by decide) | exact Rm 4 (by decide) (by decide) | exact Rm 5 (by decide) (by decide) | exact Rm 6 (by decide) (by decide) | rfl
  · subst k4
    refine fin (D := (4, pin, w, 0, 0, 0, 0, 0, false)) ?_ r (mRow_of R0 R1 R2 (Rm 3 (by decide) (by decide)) (Rm 4 (by decide) (by decide)) (Rm 5 (by decide) (by decide)) (Rm 6 (by decide) (by decide)) (Rm 7 (by decide) (by decide)))
    unfold pRest
    rw [if_neg (by decide), if_neg (by decide), if_pos rfl]
  · subst k0
    have pr : pRest tk N 0 pin w i = pArm2 tk N pin w i := by unfold pRest; rw [if_pos rfl]
    refine sp_arm (rK_ok x r.2.1 (cw_c 7 (by decide)).2 (fun h1 e1 o1 => ⟨fun y => absurd y (by decide), fun _ => ?_⟩) (fun h1 e1 c1 => ⟨fun _ => ⟨Or.inl rfl, q0 h1 1 _ (by rw [pr]; exact bnd_l e1) (r.fl c1)⟩, fun y => absurd rfl y⟩))
    have r1 := r.st o1
    refine rN_ok x r1.2.1 (lo := 0) (hi := 20) (by decide) (by decide) (fun h2 a e2 l0 l1 o2 v2 => ⟨fun _ => ?_, fun z => absurd z (by decide)⟩) (fun h2 f e2 c2 => ⟨fun z => absurd rfl z, fun _ => ⟨Or.inl rfl, q0 h2 f _ (by rw [pr]; exact (bnd_r e1).trans (bnd_l e2)) (r1.fl c2)⟩⟩)
    have r2 := r1.st o2
    refine wr75 (c := 3) (r2.sh sh) (by omega) ?_
    rw [v2]
    have r3 := r2.wr (c := 3) (v := nI a) (by decide)
    refine isOut_ok x r3.2.1 (fun zo => ⟨fun _ => goM_ok x r3.2.1 (x.lt r3.2.1.2.2 (by rw [zo.1]; decide)) (fun h4 f4 s4 => ?_), fun y => absurd y (by decide)⟩) (fun zo => ⟨fun y => absurd rfl y, fun _ => ⟨Or.inr rfl, fin (D := (0, pin, w, a, 0, 0, 0, 0, false)) (by rw [pr]; exact (bnd_r e1).trans ((bnd_r e2).trans (if_neg zo))) r3 ?_⟩⟩)
    · have e4 : pArm2 tk N pin w i = bnd (pN tk 0 20 (i + 1 + 1 + 1)) fun i o => bnd (pRg tk N (cw 9) i) fun i r => .inr (i, (0, pin, w, a, o, 0, r.1, r.2, true)) := (bnd_r e1).trans ((bnd_r e2).trans (if_pos zo))
      have r4 := r3.st ⟨f4.mono rfl, s4⟩
      refine rN_ok x r4.2.1 (lo := 0) (hi := 20) (by decide) (by decide) (fun h5 o e5 _ _ o5 v5 => ⟨fun _ => ?_, fun z => absurd z (by decide)⟩) (fun h5 f e5 c5 => ⟨fun z => absurd rfl z, fun _ => ⟨Or.inl rfl, q0 h5 f _ (by rw [pr, e4]; exact bnd_l e5) (r4.fl c5)⟩⟩)
      have r5 := r4.st o5
      refine wr75 (c := 4) (r5.sh sh) (by omega) ?_
      rw [v5]
      have r6 := r5.wr (c := 4) (v := nI o) (by decide)
      refine rFrom_ok x r6.2.1 (fun h7 e7 o7 => ⟨fun y => absurd y (by decide), fun _ => ?_⟩) (fun h7 e7 c7 => ⟨fun _ => ⟨Or.inl rfl, q0 h7 1 _ (by rw [pr, e4]; exact (bnd_r e5).trans (bnd_l (bnd_l e7))) (r6.fl c7)⟩, fun y => absurd rfl y⟩)
      refine mspan_ok sh x (r6.st o7) hP hN8 hN (fun g1 i' lo hi e8 r8 => ⟨fun y => absurd y (by decide), fun _ => ⟨Or.inr rfl, fin (by rw [pr, e4]; exact (bnd_r e5).trans (bnd_r ((bnd_r e7).trans e8))) r8 ?_⟩⟩) (fun g1 f j e8 c8 => ⟨fun _ => ⟨Or.inl rfl, q0 g1 f j (by rw [pr, e4]; exact (bnd_r e5).trans (bnd_l ((bnd_r e7).trans e8))) c8⟩, fun y => absurd rfl y⟩)
      refine mRow_of ?_ ?_ ?_ ?_ ?_ ?_ ?_ ?_ <;> simp only [up_at] <;> simp
      all_goals first | exact R0 | exact R1 | exact R2 | exact Rm 7 (by decide) (by decide) | rfl
    · refine mRow_of ?_ ?_ ?_ ?_ ?_ ?_ ?_ ?_ <;> simp only [up_at] <;> simp
      all_goals first | exact R0 | exact R1 | exact R2 | exact Rm 4 (by decide) (by decide) | exact Rm 5 (by decide) (by decide) | exact Rm 6 (by decide) (by decide) | exact Rm 7 (by decide) (by decide) | rfl
/-! the model's drawing 1, while it is read -/
def MFr (F : List (Nat × Nat)) (h g : PH) : Prop := Fg [75, 76] ((72, 1) :: (73, 1) :: (74, 1) :: F) h g ∧ ∀ j, ¬ (96 ≤ j ∧ j < 192) → qI g 75 j = qI h 75 j
def rbM (o : Option Nat) : Int32 := match o with
  | none => -1
  | some v => nI v
def DMl (h : PH) (N : Nat) (d : DD) : Prop := (qI h 72 1 = nI N ∧ qI h 73 1 = rbM (drb d) ∧ qI h 74 1 = nI (dn d)) ∧ dn d ≤ 12 ∧ ∀ k, k < dn d → (∀ j, j < 8 → qI h 75 (96 + 8 * k + j) = mRow (dp d k) j) ∧ qJ h 76 k = lN (dnm d k) ∧ dnm d k < 400000000
theorem MFr.tr {F G V : List (Nat × Nat)} {h h1 h2 : PH} (a : MFr F h h1) (c : MFr G h1 h2) (c1 : fsub [75, 76] ((72, 1) :: (73, 1) :: (74, 1) :: F) [75, 76] ((72, 1) :: (73, 1) :: (74, 1) :: V) = true) (c2 : fsub [75, 76] ((72, 1) :: (73, 1) :: (74, 1) :: G) [75, 76] ((72, 1) :: (73, 1) :: (74, 1) :: V) = true) : MFr V h h2 := ⟨a.1.tr c.1 c1 c2, fun j hj => (c.2 j hj).trans (a.2 j hj)⟩
theorem MFr.k {F : List (Nat × Nat)} {h h1 : PH} (f : Fg [] F h h1) (c1 : fsub [] F [75, 76] ((72, 1) :: (73, 1) :: (74, 1) :: F) = true) (c2 : fag [] F [75] [] = true) : MFr F h h1 := ⟨f.mono c1, fun j _ => (f.ag (C := [75]) (G := []) c2).I rfl j⟩
theorem MFr.r {F : List (Nat × Nat)} {h h1 : PH} {P : Nat} (f : RF F h h1 P) (hP : 96 ≤ P ∧ P + 8 ≤ 192) (c1 : fsub [75] F [75, 76] ((72, 1) :: (73, 1) :: (74, 1) :: F) = true) : MFr F h h1 := ⟨f.1.mono c1, fun j hj => f.2 j (by omega)⟩
theorem DMl.ag {h h1 : PH} {N : Nat} {d : DD} (c : DMl h N d) (f : Ag [75, 76] [(72, 1), (73, 1), (74, 1)] h h1) : DMl h1 N d := by
  obtain ⟨⟨a1, a2, a3⟩, c1, c2⟩ := c
  exact ⟨⟨by rw [f.i rfl]; exact a1, by rw [f.i rfl]; exact a2, by rw [f.i rfl]; exact a3⟩, c1, fun k hk => ⟨fun j hj => by rw [f.I rfl]; exact (c2 k hk).1 j hj, by rw [f.J rfl]; exact (c2 k hk).2.1, (c2 k hk).2.2⟩⟩
theorem mpart_ok {d : DD} (sh : Shp h) (x : Tx b sz lim m tk) (s : MS h b sz lim m tk i) (c : DMl h N d) (hN8 : 8 ≤ N) (hN : N ≤ 48) {kk : Nat} (ek : kcO tk i = some kk) (hkk : kk < 5) {Q : Int32 → PH → Prop}
    (q1 : ∀ h1 i' d2, pPart tk N d i = .inr (i', d2) → MFr gF h h1 → MS h1 b sz lim m tk i' → DMl h1 N d2 → drb d2 = drb d → Q 1 h1)
    (q0 : ∀ h1 f j, pPart tk N d i = .inl (f, j) → MFr mF h h1 → qI h1 70 10 = nI f → qI h1 70 11 = nI (stT (tk j)) → Q 0 h1) : wp_X12_readPart 70 (nI kk) h Q := by
  have k1 : kdT (tk i) = 1 := by
    unfold kcO at ek
    split at ek
    · assumption
    · cases ek
  have lt := x.lt s.2.2 (show ¬ kdT (tk i) = 0 by rw [k1]; decide)
  have c' := c
  obtain ⟨⟨a1, a2, a3⟩, c1, c2⟩ := c
  refine ⟨74, sh.R 70 16 74 (by decide), by rw [sh.L 74 (n := 8) (by decide) rfl]; exact vp_in_nI (n := 1) (by decide) (by decide), fun v4 e4 => ?_⟩
  rw [c1_n', a3] at e4
  subst e4
  refine n_eq (dn d) 12 (fun ne => ?_) (fun e12 => bad_ok (f := 4) x s (Or.inr ⟨lt, by rw [k1]; decide⟩) (fun h1 f1 w1 w2 => ⟨Or.inl rfl, q0 h1 4 i (pPart_4 ek (by omega)) (MFr.k (F := mF) (f1.mono rfl) rfl rfl) w1 w2⟩))
  have n12 : dn d < 12 := by omega
  have pp := pPart_s (N := N) (d := d) ek (by omega)
  have eP : (96 : Int32) * 1 + 8 * nI (dn d) = nI (96 + 8 * dn d) := by
    rw [show (96 : Int32) * 1 = nI 96 from rfl, show (8 : Int32) = nI 8 from rfl, pk_mul, nI_add]
  rw [eP]
  generalize hn : dn d = n at *
  have hP : 96 + 8 * n + 8 ≤ 192 := by omega
  generalize hPP : 96 + 8 * n = P at *
  refine goM_ok x s lt (fun h1 f1 s1 => ?_)
  have c1' := c'.ag (f1.ag rfl)
  have sh1 := sh.fg f1 rfl
  have M1 : MFr gF h h1 := MFr.k (F := gF) (f1.mono rfl) rfl rfl
  refine mname_ok x s1 (fun zn => ⟨fun _ => ?_, fun y => absurd y (by decide)⟩) (fun zn => ⟨fun y => absurd rfl y, fun _ => bad_ok (f := 1) x s1 (Or.inl rfl) (fun h2 f2 w1 w2 => ⟨Or.inl rfl, q0 h2 1 (i + 1) (by rw [pp]; exact bnd_l (if_neg zn)) (M1.tr (MFr.k (F := mF) (f2.mono rfl) rfl rfl) rfl rfl) w1 w2⟩)⟩)
  have bd := x.bd s1.2.2
  have ej := (s1.ct x).1 zn.1
  have lt1 := x.lt s1.2.2 (show ¬ kdT (tk (i + 1)) = 0 by rw [zn.1]; decide)
  have r18 := sh1.R 70 18 76 (by decide)
  have l76 : qL h1 76 = 12 := sh1.L 76 (by decide) rfl
  obtain ⟨⟨b1, b2, b3⟩, _, b5⟩ := c1'
  refine loopR n (fun k st => st = (nI k, h1) ∧ ∀ j, j < k → ¬ dnm d j = ctT (tk (i + 1))) (fun st => st.1.toNatClampNeg) ⟨rfl, fun j hj => absurd hj (Nat.not_lt_zero j)⟩ (fun k st hk p => by rw [p.1]; exact nI_clamp (by omega)) ?_ ?_
  · rintro k st hk ⟨ps, ih⟩ back hb
    subst ps
    obtain ⟨_, cn, cl⟩ := b5 k (by omega)
    refine ⟨fun y => absurd y (nI_ge hk (by omega)), fun _ => ⟨76, r18, by rw [l76]; exact vp_in_nI (by omega) (by decide), ?_⟩⟩
    dsimp only
    rw [nI_clamp (by omega), cn, ej]
    refine ⟨fun y w ew => hb _ ⟨by rw [ew, nI_1], fun j hj => ?_⟩, fun y => bad_ok (f := 3) x s1 (Or.inr ⟨lt1, by rw [zn.1]; decide⟩) (fun h2 f2 w1 w2 => ⟨Or.inl rfl, q0 h2 3 (i + 1) ?_ (M1.tr (MFr.k (F := mF) (f2.mono rfl) rfl rfl) rfl rfl) w1 w2⟩)⟩
    · rcases (show j < k ∨ j = k by omega) with u | u
      · exact ih j u
      · rw [u]
        exact fun v => y (lgc.mpr (by rw [v]))
    · rw [pp]
      refine bnd_l ?_
      unfold pNm
      rw [if_pos zn]
      exact if_pos ⟨k, by omega, (pk_lEQ (by omega) (by omega)).mp (lgc.mp y)⟩
  · rintro st ⟨ps, ih⟩ back
    subst ps
    have en : pNm tk d (i + 1) = .inr (i + 1 + 1, ctT (tk (i + 1))) := by
      unfold pNm
      rw [if_pos zn]
      exact if_neg (fun ⟨j, hj, y⟩ => ih j (by omega) y)
    refine ⟨fun _ => ⟨76, r18, by rw [l76]; exact vp_in_nI n12 (by decide), fun h2 e2 => ?_⟩, fun y => absurd (nI_le (Nat.le_refl _) (by omega)) y⟩
    dsimp only at e2
    rw [nI_clamp (by omega), ej] at e2
    have f2 : Fg [76] [] h1 h2 := by rw [e2]; exact Fg.cJ _ _ _ _
    have s2 := s1.ag (f2.ag rfl)
    have M2 : MFr gF h h2 := M1.tr (G := gF) ⟨f2.mono rfl, fun j _ => (f2.ne (by decide) j).1⟩ rfl rfl
    have sh2 := sh1.fg f2 rfl
    refine goM_ok x s2 lt1 (fun h3 f3 s3 => ?_)
    have M3 : MFr gF h h3 := M2.tr (MFr.k (F := gF) (f3.mono rfl) rfl rfl) rfl rfl
    have sh3 := sh2.fg f3 rfl
    refine ⟨72, sh3.R 70 14 72 (by decide), by rw [sh3.L 72 (n := 8) (by decide) rfl]; exact vp_in_nI (n := 1) (by decide) (by decide), fun v29 e29 => ?_⟩
    have e29' : v29 = nI (N - 1) := by
      rw [e29, c1_n', f3.I rfl, f2.I rfl, b1]
      obtain ⟨M, eM⟩ : ∃ M, N = M + 1 := ⟨N - 1, by omega⟩
      rw [eM, nI_pred]; rfl
    subst e29'
    have rw3 : RW h3 h3 b sz lim m tk P (i + 1 + 1) (fun j => qI h3 75 (P + j)) := ⟨⟨Fg.rf _ _ _, fun _ _ => rfl⟩, s3, fun _ _ => rfl⟩
    have inP : 96 ≤ P ∧ P + 8 ≤ 192 := by omega
    have flt : ∀ {h4 : PH} {f j : Nat}, pPart2 tk N kk d (i + 1) = .inl (f, j) → FL h3 h4 tk P f j → Q 0 h4 := fun e c => q0 _ _ _ (by rw [pp]; exact e) (M3.tr (MFr.r c.1 inP rfl) rfl rfl) c.2.1 c.2.2
    refine rN_ok x s3 (lo := 0) (hi := N - 1) (by decide) (by omega) (fun h4 pin e4 l0 l1 o4 v4 => ⟨fun _ => ?_, fun z => absurd z (by decide)⟩) (fun h4 f e4 c4 => ⟨fun z => absurd rfl z, fun _ => flt ((bnd_r en).trans (bnd_l e4)) (rw3.fl c4)⟩)
    have rw4 := rw3.st o4
    refine wr75 (c := 1) (rw4.sh sh3) (by omega) ?_
    rw [v4]
    have rw5 := rw4.wr (c := 1) (v := nI pin) (by decide)
    refine rN_ok x rw5.2.1 (lo := 1) (hi := 99) (by decide) (by decide) (fun h6 w e6 w0 w9 o6 v6 => ⟨fun _ => ?_, fun z => absurd z (by decide)⟩) (fun h6 f e6 c6 => ⟨fun z => absurd rfl z, fun _ => flt ((bnd_r en).trans ((bnd_r e4).trans (bnd_l e6))) (rw5.fl c6)⟩)
    have rw6 := rw5.st o6
    refine wr75 (c := 0) (rw6.sh sh3) (by omega) ?_
    have rw7 := rw6.wr (c := 0) (v := nI kk) (by decide)
    refine wr75 (c := 2) (rw7.sh sh3) (by omega) ?_
    rw [show qI (qsI h6 75 (P + 0) (nI kk)) 70 13 = nI w by rw [rI_ne _ _ _ (by decide)]; exact v6]
    have rw8 := rw7.wr (c := 2) (v := nI w) (by decide)
    -- the rest of the row is cleared
    refine loopR 5 (fun k st => st.1 = nI (3 + k) ∧ ∃ R, RW h3 st.2 b sz lim m tk P (i + 1 + 1 + 1 + 1) R ∧ R 0 = nI kk ∧ R 1 = nI pin ∧ R 2 = nI w ∧ ∀ j, 3 ≤ j → j < 3 + k → R j = -1) (fun st => st.1.toNatClampNeg - 3) ⟨rfl, _, rw8, by simp only [up_at]; simp, by simp only [up_at]; simp, by simp only [up_at]; simp, fun j u v => by omega⟩ (fun k st hk p => by rw [p.1, nI_clamp (by omega)]; omega) ?_ ?_
    · rintro k ⟨k', g⟩ hk ⟨ps, R, r, r0, r1, r2, rm⟩ back hb
      dsimp only at ps r
      subst ps
      refine pk_lt 7 (3 + k) (fun y => by omega) (fun _ => ?_)
      refine wr75 (c := 3 + k) (r.sh sh3) (by omega) (fun v ev => hb _ ⟨by rw [ev, nI_1, Nat.add_assoc], _, r.wr (c := 3 + k) (v := -1) (by omega), ?_, ?_, ?_, fun j u w => ?_⟩)
      · rw [up_ne _ _ (by omega)]; exact r0
      · rw [up_ne _ _ (by omega)]; exact r1
      · rw [up_ne _ _ (by omega)]; exact r2
      · rw [up_at]
        by_cases y : j = 3 + k
        · rw [if_pos y]
        · rw [if_neg y]; exact rm j u (by omega)
    · rintro ⟨k', g⟩ ⟨ps, R, r, r0, r1, r2, rm⟩ back
      dsimp only at ps r
      subst ps
      refine pk_lt 7 (3 + 5) (fun _ => ?_) (fun y => by omega)
      have shg := r.sh sh3
      have in74 : vp_in 1 (qL g 74) := by rw [shg.L 74 (n := 8) (by decide) rfl]; exact vp_in_nI (n := 1) (by decide) (by decide)
      refine ⟨74, shg.R 70 16 74 (by decide), in74, in74, fun h9 e9 => ?_⟩
      dsimp only at e9
      rw [c1_n', r.1.1.I rfl, f3.I rfl, f2.I rfl, b3, nI_1] at e9
      have f9 : Fg [] [(74, 1)] g h9 := by rw [e9]; exact Fg.sI _ _ _ _
      have k75 : ∀ j, qI h9 75 j = qI g 75 j := fun j => by rw [e9, rI_ne _ _ _ (by decide)]
      have r9 : RW h9 h9 b sz lim m tk P (i + 1 + 1 + 1 + 1) R := ⟨⟨Fg.rf _ _ _, fun _ _ => rfl⟩, r.2.1.ag (f9.ag rfl), fun j hj => by rw [k75]; exact r.2.2 j hj⟩
      have M9 : MFr gF h h9 := (M3.tr (MFr.r r.1 inP rfl) (V := gF) rfl rfl).tr (G := gF) ⟨f9.mono rfl, fun j _ => k75 j⟩ rfl rfl
      have sh9 := shg.fg f9 rfl
      refine mrest_ok sh9 x r9 (by omega) hN8 hN hkk r0 r1 r2 (fun j u v => rm j u v) (fun g1 i' D e10 rf s10 rD => q1 g1 i' (addP d D (ctT (tk (i + 1)))) ?_ (M9.tr (MFr.r rf inP rfl) rfl rfl) s10 ?_ rfl) (fun g1 f j e10 c10 => q0 g1 f j ?_ (M9.tr (MFr.r c10.1 inP rfl) rfl rfl) c10.2.1 c10.2.2)
      · rw [pp]; exact (bnd_r en).trans ((bnd_r e4).trans ((bnd_r e6).trans (bnd_r e10)))
      · have J : ∀ k, qJ g1 76 k = if k = n then lN (ctT (tk (i + 1))) else qJ h1 76 k := fun k => by
          rw [(rf.1.ag (C := [76]) (G := []) rfl).J rfl, (f9.ag (C := [76]) (G := []) rfl).J rfl, (r.1.1.ag (C := [76]) (G := []) rfl).J rfl, (f3.ag (C := [76]) (G := []) rfl).J rfl, e2, uJ_at]
        have I : ∀ k, k < n → ∀ j, j < 8 → qI g1 75 (96 + 8 * k + j) = qI h1 75 (96 + 8 * k + j) := fun k hk j hj => by
          rw [rf.2 _ (by omega), k75, r.1.2 _ (by omega), (f3.ag (C := [75]) (G := []) rfl).I rfl, (f2.ne (by decide) _).1]
        refine ⟨⟨?_, ?_, ?_⟩, ?_, fun k hk => ?_⟩
        · rw [rf.1.I rfl, f9.I rfl, r.1.1.I rfl, f3.I rfl, f2.I rfl]; exact b1
        · rw [rf.1.I rfl, f9.I rfl, r.1.1.I rfl, f3.I rfl, f2.I rfl]; exact b2
        · rw [rf.1.I rfl, e9, rI_sI, if_pos rfl, up_eq]; rfl
        · show dn d + 1 ≤ 12; omega
        · have hk : k < dn d + 1 := hk
          show (∀ j, j < 8 → qI g1 75 (96 + 8 * k + j) = mRow (if k = dn d then D else dp d k) j) ∧ qJ g1 76 k = lN (if k = dn d then ctT (tk (i + 1)) else dnm d k) ∧ (if k = dn d then ctT (tk (i + 1)) else dnm d k) < 400000000
          rw [J]
          by_cases y : k = n
          · have yd : k = dn d := by omega
            rw [if_pos yd, if_pos y, if_pos yd]
            exact ⟨fun j hj => by rw [y, hPP]; exact rD j hj, rfl, bd.2.1⟩
          · have yd : ¬ k = dn d := by omega
            rw [if_neg yd, if_neg y, if_neg yd]
            obtain ⟨z1, z2, z3⟩ := b5 k (by omega)
            exact ⟨fun j hj => by rw [I k (by omega) j hj]; exact z1 j hj, z2, z3⟩
      · rw [pp]; exact (bnd_r en).trans ((bnd_r e4).trans ((bnd_r e6).trans (bnd_l e10)))
end

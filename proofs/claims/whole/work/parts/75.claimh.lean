/-! ===== PURE: the model's call claim ===== -/
def xF : List (Nat × Nat) := (70, 0) :: (70, 2) :: (70, 3) :: (70, 4) :: (70, 46) :: (nL ++ mF)
section
variable {h : PH} {b : Nat → Nat} {sz m : Nat} {tk : Nat → TK}
theorem pClm_n {too : Prop} (h : kiO tk 0 = none) : pClm tk m too = .inl (1, 0) := by unfold pClm; rw [h]
theorem pClm_s {too : Prop} {kd : Nat} (h : kiO tk 0 = some kd) : pClm tk m too = bnd (pCn tk (pOf tk 12 1) 1 dd0) fun i x => @ite _ (i = m ∧ ¬ too) (Classical.propDecidable _) (.inr (i, (kd, x))) (.inl (1, i)) := by unfold pClm; rw [h]
theorem mclaim_ok (sh : Shp h) (x : Tx b sz 200 m tk) (v2 : qI h 70 2 = nI sz) (v71 : ∀ j, j < 640 → qI h 71 j = nI (b j)) {Q : Int32 → PH → Prop}
    (q1 : ∀ g i kd d t, pClm tk m (200 < sz) = .inr (i, (kd, (d, t))) → Fg [81, 82, 83, 84] ((70, 44) :: (70, 45) :: xF) h g → qI g 70 44 = nI kd → qI g 70 45 = nI t → CLM g 0 (xn d) (xd d) → qI g 70 10 = 0 → qI g 70 2 = 0 → Q (nI (xc d)) g)
    (q0 : ∀ g f j, pClm tk m (200 < sz) = .inl (f, j) → Fg [81, 82, 83, 84] xF h g → (∀ a, (a = 81 ∨ a = 82 ∨ a = 83 ∨ a = 84) → ∀ j, j < 60 → qI g a j = qI h a j) → qI g 70 10 = nI f → qI g 70 2 = 0 → Q (-1 - nI (stT (tk j))) g) : wp_X12_claim 70 h Q := by
  intro g0 e0 v1 ev1 g1 e1 g2 e2 g3 e3 g4 e4 g5 e5 g6 e6 g7 e7 g8 e8
  have evs : v1 = nI sz := by rw [ev1, e0, rI_sI, if_pos rfl, up_ne _ _ (by decide)]; exact v2
  have f8 : Fg [] xF h g8 := by
    rw [e8, e7, e6, e5, e4, e3, e2, e1, e0]
    exact ((((((((Fg.sI _ _ _ _).tr (Fg.sI _ _ _ _) (U := []) (V := xF) rfl rfl).tr (Fg.sI _ _ _ _) (U := []) (V := xF) rfl rfl).tr (Fg.sI _ _ _ _) (U := []) (V := xF) rfl rfl).tr (Fg.sI _ _ _ _) (U := []) (V := xF) rfl rfl).tr (Fg.sI _ _ _ _) (U := []) (V := xF) rfl rfl).tr (Fg.sI _ _ _ _) (U := []) (V := xF) rfl rfl).tr (Fg.sI _ _ _ _) (U := []) (V := xF) rfl rfl).tr (Fg.sI _ _ _ _) rfl rfl
  have sh8 := sh.fg f8 rfl
  have w3 : qI g8 70 3 = nI sz := by rw [e8, e7, e6, e5, e4, e3, e2]; simp only [qI_sI]; simp; exact evs
  have w4 : qI g8 70 4 = nI 200 := by rw [e8, e7, e6, e5, e4, e3]; simp only [qI_sI]; simp; rfl
  have w10 : qI g8 70 10 = 0 := by rw [e8, e7, e6, e5, e4]; simp only [qI_sI]; simp
  have w2 : qI g8 70 2 = 0 := by rw [e8, e7, e6, e5, e4, e3, e2, e1]; simp only [qI_sI]; simp
  have w41 : qI g8 70 41 = nI 0 := by rw [e8, e7, e6, e5]; simp only [qI_sI]; simp; rfl
  have w42 : qI g8 70 42 = nI 0 := by rw [e8, e7, e6]; simp only [qI_sI]; simp; rfl
  have w43 : qI g8 70 43 = nI 0 := by rw [e8, e7]; simp only [qI_sI]; simp; rfl
  have w5 : qI g8 70 5 = 0 := by rw [e8]; simp only [qI_sI]; simp
  have k8 : ∀ a, (a = 81 ∨ a = 82 ∨ a = 83 ∨ a = 84) → ∀ j, qI g8 a j = qI h a j := fun a ha j => by
    have A := f8.ag (C := [81, 82, 83, 84]) (G := []) rfl
    rcases ha with z | z | z | z <;> (rw [z]; exact A.I rfl j)
  have mx : MX g8 b sz 200 := ⟨w3, w4, sh8.R 70 1 71 (by decide), sh8.L 71 (by decide) rfl, fun j hj => ⟨by rw [(f8.ag (C := [71]) (G := []) rfl).I rfl]; exact v71 j hj, x.2.2.2 j hj⟩⟩
  refine go0_ok x mx w5 (fun ga fa sa => ?_)
  have Na : NFr gF g8 ga := NFr.k (F := gF) (fa.mono rfl) rfl rfl
  have flt : ∀ {g : PH} {f j : Nat}, pClm tk m (200 < sz) = .inl (f, j) → (∃ g9 v, g9 = qsI ga 70 46 v ∧ NFr mF g9 g) → qI g 70 10 = nI f → qI g 70 11 = nI (stT (tk j)) → Q (-1 - qI g 70 11) g := by
    rintro g f j io ⟨g9, v, e9, N⟩ a10 a11
    rw [a11]
    have f9 : Fg [] [(70, 46)] ga g9 := by rw [e9]; exact Fg.sI _ _ _ _
    have fA : Fg [81, 82, 83, 84] xF h g9 := (f8.tr fa (U := [81, 82, 83, 84]) (V := xF) rfl rfl).tr f9 rfl rfl
    refine q0 g f j io (fA.tr N.1 rfl rfl) (fun a ha j hj => ?_) a10 ?_
    · rw [N.2 a ha j hj, e9, rI_ne _ _ _ (by omega), Na.2 a ha j hj]; exact k8 a ha j
    · rw [N.1.I rfl, f9.I rfl, fa.I rfl]; exact w2
  have none119 : kiO tk 0 = none → wp_X12_claim_119 70 0 70 ga Q := by
    intro ek h28 e28
    have f28 : Fg [] [(70, 46)] ga h28 := by rw [e28]; exact Fg.sI _ _ _ _
    have v28 : qI h28 70 46 = 0 := by rw [e28, rI_sI, if_pos rfl, up_eq]
    exact ⟨fun z => absurd v28 z, fun _ => bad_ok (f := 1) x (sa.ag (f28.ag rfl)) (Or.inl rfl) (fun h1 f1 y1 y2 => flt (pClm_n ek) ⟨h28, _, e28, NFr.k (F := mF) (f1.mono rfl) rfl rfl⟩ y1 y2)⟩
  have main : ∀ kk, kiO tk 0 = some kk → 1 ≤ kk → kk < 4 → ∀ z : Int32, z = nI kk → wp_X12_claim_119 70 z 70 ga Q := by
    intro kk ek k1 k4 z ez h28 e28
    subst ez
    have f28 : Fg [] [(70, 46)] ga h28 := by rw [e28]; exact Fg.sI _ _ _ _
    have v28 : qI h28 70 46 = nI kk := by rw [e28, rI_sI, if_pos rfl, up_eq]
    have s28 := sa.ag (f28.ag rfl)
    have kd1 : kdT (tk 0) = 1 := by
      unfold kiO at ek
      split at ek
      · assumption
      · cases ek
    have pp := pClm_s (tk := tk) (m := m) (too := 200 < sz) ek
    refine ⟨fun _ => ?_, fun y => ?_⟩
    · refine goM_ok x s28 (x.lt s28.2.2 (by rw [kd1]; decide)) (fun h30 f30 s30 => ?_)
      have fA : Fg [81, 82, 83, 84] xF h h30 := ((f8.tr fa (U := [81, 82, 83, 84]) (V := xF) rfl rfl).tr f28 (U := [81, 82, 83, 84]) (V := xF) rfl rfl).tr f30 rfl rfl
      have sh30 := sh.fg fA rfl
      have fz : ∀ {j : Nat}, fno [] goF 70 j = true → fno [] [(70, 46)] 70 j = true → qI h30 70 j = qI g8 70 j := fun c1 c2 => by rw [f30.I c1, f28.I c2, fa.I c1]
      have c30 : CMl h30 dd0 1 := ⟨by rw [fz rfl rfl]; exact w41, by rw [fz rfl rfl]; exact w42, by rw [fz rfl rfl]; exact w43, fun k hk => absurd hk (Nat.not_lt_zero k)⟩
      have o1 := pOf_ok x 12 1
      have CA : MR1 b sz 200 m tk (rg_X12 39).1 (pAl tk (pOf tk 12 1)) 1 := MR_and x o1 (MR_one x 12 38 1 (by decide) (by decide) (by decide) (by decide))
      have CC : MR1 b sz 200 m tk (rg_X12 40).2.2 (pCn tk (pOf tk 12 1)) 1 := MR_or x (pAl_ok x o1) CA
      have N30 : NFr gF h28 h30 := NFr.k (F := gF) (f30.mono rfl) rfl rfl
      refine CC h30 (0 + 1) dd0 _ sh30 s30 c30 bd0 (fun h32 i' d' t' e32 N32 s32 c32 w47 => ⟨fun _ => ?_, fun y => absurd y (by decide)⟩) (fun h32 f j e32 N32 y1 y2 => ⟨fun y => absurd rfl y, fun _ => flt (by rw [pp]; exact bnd_l e32) ⟨h28, _, e28, N30.tr N32 rfl rfl⟩ y1 y2⟩)
      have g32 := (pCn_ok x o1 _ _ _ _ _ s30.2.2 bd0 e32).2.2
      have sh32 : Shp h32 := sh30.fg N32.1 rfl
      obtain ⟨c7, hc7, e7', _, _, _, i0', _⟩ := s32.k x
      refine pk_eq c7 0 (fun z h36 e36 h37 e37 => ?_) (fun z => bad_ok (f := 1) x s32 (Or.inl rfl) (fun h38 f38 y1 y2 => flt (by rw [pp]; exact (bnd_r e32).trans (if_neg (fun u => z (i0'.mpr u)))) ⟨h28, _, e28, (N30.tr N32 (V := gF) rfl rfl).tr (NFr.k (F := mF) (f38.mono rfl) rfl rfl) rfl rfl⟩ y1 y2)) e7'
      have um := i0'.mp z
      have io : pClm tk m (200 < sz) = .inr (i', (kk, (d', t'))) := by rw [pp]; exact (bnd_r e32).trans (if_pos um)
      have f36 : Fg [] [(70, 44)] h32 h36 := by rw [e36]; exact Fg.sI _ _ _ _
      have f37 : Fg [] [(70, 45)] h36 h37 := by rw [e37]; exact Fg.sI _ _ _ _
      have f27 : Fg [] [(70, 44), (70, 45)] h32 h37 := f36.tr f37 rfl rfl
      have sh37 := sh32.fg f27 rfl
      have v44 : qI h37 70 44 = nI kk := by rw [f37.I rfl, e36, rI_sI, if_pos rfl, up_eq, N32.1.I rfl, f30.I rfl]; exact v28
      have v45 : qI h37 70 45 = nI t' := by rw [e37, rI_sI, if_pos rfl, up_eq, f36.I rfl]; exact w47
      have v42 : qI h37 70 42 = nI (xc d') := by rw [f27.I rfl]; exact c32.2.1
      have v10 : qI h37 70 10 = 0 := by rw [f27.I rfl, N32.1.I rfl, fz rfl rfl]; exact w10
      have v22 : qI h37 70 2 = 0 := by rw [f27.I rfl, N32.1.I rfl, fz rfl rfl]; exact w2
      have cl37 : CLM h37 60 (xn d') (xd d') := fun k hk => by
        have A := f27.ag (C := [81, 82, 83, 84]) (G := []) rfl
        rw [A.I rfl, A.I rfl, A.I rfl, A.I rfl]; exact c32.2.2.2 k hk
      have fB : Fg [81, 82, 83, 84] ((70, 44) :: (70, 45) :: xF) h h37 := (fA.tr N32.1 (U := [81, 82, 83, 84]) (V := ((70, 44) :: (70, 45) :: xF)) rfl rfl).tr f27 rfl rfl
      have n40 : xn d' ≤ 40 := by
        have a1 : xn d' + 1 + 2 * 0 ≤ 0 + 2 * xc d' := g32.2.2.2.2
        have a2 := g32.2.2.2.1
        omega
      refine loopR 60 (fun k st => st.1 = nI k ∧ Fg [81, 82, 83, 84] [] h37 st.2 ∧ ∀ a, (a = 81 ∨ a = 82 ∨ a = 83 ∨ a = 84) → (∀ j, j < k → qI st.2 a j = qI h37 a (60 + j)) ∧ ∀ j, 60 ≤ j → qI st.2 a j = qI h37 a j) (fun st => st.1.toNatClampNeg) ⟨rfl, Fg.rf _ _ _, fun a _ => ⟨fun j hj => absurd hj (Nat.not_lt_zero j), fun _ _ => rfl⟩⟩ (fun k st hk p => by rw [p.1]; exact nI_clamp (by omega)) ?_ ?_
      · rintro k ⟨k', a0⟩ hk ⟨p1, p2, p3⟩ back hb
        dsimp only at p1 p2 p3
        subst p1
        refine pk_le 60 k (fun y => by omega) (fun _ => ?_)
        dsimp only
        rw [show (60 : Int32) + nI k = nI (60 + k) by rw [show (60 : Int32) = nI 60 from rfl, nI_add], nI_clamp (by omega), nI_clamp (by omega)]
        have in1 : ∀ {g : PH} (a : Nat), qL g a = 120 → vp_in (nI (60 + k)) (qL g a) := fun a e => by rw [e]; exact vp_in_nI (by omega) (by decide)
        have in2 : ∀ {g : PH} (a : Nat), qL g a = 120 → vp_in (nI k) (qL g a) := fun a e => by rw [e]; exact vp_in_nI (by omega) (by decide)
        have sa0 := sh37.fg p2 rfl
        refine ⟨81, sa0.R 70 37 81 (by decide), 81, sa0.R 70 37 81 (by decide), in1 81 (sa0.L 81 (by decide) rfl), in2 81 (sa0.L 81 (by decide) rfl), fun a1 y1 => ?_⟩
        have q1' : Fg [81] [] a0 a1 := by rw [y1]; exact Fg.cI _ _ _ _
        have sa1 := sa0.fg q1' rfl
        refine ⟨82, sa1.R 70 38 82 (by decide), 82, sa1.R 70 38 82 (by decide), in1 82 (sa1.L 82 (by decide) rfl), in2 82 (sa1.L 82 (by decide) rfl), fun a2 y2 => ?_⟩
        have q2' : Fg [82] [] a1 a2 := by rw [y2]; exact Fg.cI _ _ _ _
        have sa2 := sa1.fg q2' rfl
        refine ⟨83, sa2.R 70 39 83 (by decide), 83, sa2.R 70 39 83 (by decide), in1 83 (sa2.L 83 (by decide) rfl), in2 83 (sa2.L 83 (by decide) rfl), fun a3 y3 => ?_⟩
        have q3' : Fg [83] [] a2 a3 := by rw [y3]; exact Fg.cI _ _ _ _
        have sa3 := sa2.fg q3' rfl
        refine ⟨84, sa3.R 70 40 84 (by decide), 84, sa3.R 70 40 84 (by decide), in1 84 (sa3.L 84 (by decide) rfl), in2 84 (sa3.L 84 (by decide) rfl), fun a4 y4 w ew => hb _ ?_⟩
        have q4' : Fg [84] [] a3 a4 := by rw [y4]; exact Fg.cI _ _ _ _
        have u1 : ∀ j, qI a4 81 j = if j = k then qI a0 81 (60 + k) else qI a0 81 j := fun j => by
          rw [(q4'.ne (by decide) j).1, (q3'.ne (by decide) j).1, (q2'.ne (by decide) j).1, y1, rI_sI, if_pos rfl, up_at]
        have u2 : ∀ j, qI a4 82 j = if j = k then qI a0 82 (60 + k) else qI a0 82 j := fun j => by
          rw [(q4'.ne (by decide) j).1, (q3'.ne (by decide) j).1, y2, rI_sI, if_pos rfl, up_at, (q1'.ne (by decide) j).1, (q1'.ne (by decide) _).1]
        have u3 : ∀ j, qI a4 83 j = if j = k then qI a0 83 (60 + k) else qI a0 83 j := fun j => by
          rw [(q4'.ne (by decide) j).1, y3, rI_sI, if_pos rfl, up_at, (q2'.ne (by decide) j).1, (q1'.ne (by decide) j).1, (q2'.ne (by decide) _).1, (q1'.ne (by decide) _).1]
        have u4 : ∀ j, qI a4 84 j = if j = k then qI a0 84 (60 + k) else qI a0 84 j := fun j => by
          rw [y4, rI_sI, if_pos rfl, up_at, (q3'.ne (by decide) j).1, (q2'.ne (by decide) j).1, (q1'.ne (by decide) j).1, (q3'.ne (by decide) _).1, (q2'.ne (by decide) _).1, (q1'.ne (by decide) _).1]
        have uA : ∀ a, (a = 81 ∨ a = 82 ∨ a = 83 ∨ a = 84) → ∀ j, qI a4 a j = if j = k then qI a0 a (60 + k) else qI a0 a j := fun a ha => by
          rcases ha with z | z | z | z <;> subst z
          · exact u1
          · exact u2
          · exact u3
          · exact u4
        refine ⟨by rw [ew]; exact nI_1 k, (((p2.tr q1' (U := [81, 82, 83, 84]) (V := []) rfl rfl).tr q2' (U := [81, 82, 83, 84]) (V := []) rfl rfl).tr q3' (U := [81, 82, 83, 84]) (V := []) rfl rfl).tr q4' rfl rfl, fun a ha => ⟨fun j hj => ?_, fun j hj => ?_⟩⟩
        · show qI a4 a j = _
          rw [uA a ha]
          by_cases y : j = k
          · rw [if_pos y, (p3 a ha).2 _ (by omega), y]
          · rw [if_neg y]; exact (p3 a ha).1 j (by omega)
        · show qI a4 a j = _
          rw [uA a ha, if_neg (by omega)]; exact (p3 a ha).2 j hj
      · rintro ⟨k', a0⟩ ⟨p1, p2, p3⟩ back
        dsimp only at p1 p2 p3
        subst p1
        refine pk_le 60 60 (fun _ => ?_) (fun y => by omega)
        dsimp only
        have K : ∀ j, qI a0 70 j = qI h37 70 j := fun j => (p2.ne (by decide) j).1
        rw [K, v42]
        refine q1 a0 i' kk d' t' io (fB.tr p2 rfl rfl) (by rw [K]; exact v44) (by rw [K]; exact v45) (fun k hk => ?_) (by rw [K]; exact v10) (by rw [K]; exact v22)
        rw [Nat.zero_add, (p3 81 (by omega)).1 k (by omega), (p3 82 (by omega)).1 k (by omega), (p3 83 (by omega)).1 k (by omega), (p3 84 (by omega)).1 k (by omega)]
        exact cl37 k hk
    · exfalso
      rw [v28] at y
      exact absurd (nI_inj (b := 0) (by omega) (by decide) y) (by omega)
  have ki : ∀ k kk, k < 34 → kiC (cw k) = some kk → kdT (tk 0) = 1 ∧ ctT (tk 0) = cw k → kiO tk 0 = some kk := fun k kk _ a c => by unfold kiO; rw [if_pos c.1, c.2, a]
  refine sp_each (isKw_ok x sa (by decide) (fun z => ⟨fun y => absurd y (by decide), fun _ => main 1 (ki 13 1 (by decide) (by decide +kernel) z) (by decide) (by decide) _ rfl⟩) (fun n1 => ⟨fun _ => ?_, fun y => absurd rfl y⟩))
  refine sp_some (isKw_ok x sa (by decide) (fun z => ⟨fun y => absurd y (by decide), fun _ => main 2 (ki 14 2 (by decide) (by decide +kernel) z) (by decide) (by decide) _ rfl⟩) (fun n2 => ⟨fun _ => ?_, fun y => absurd rfl y⟩))
  refine sp_all (isKw_ok x sa (by decide) (fun z => ⟨fun y => absurd y (by decide), fun _ => main 3 (ki 15 3 (by decide) (by decide +kernel) z) (by decide) (by decide) _ rfl⟩) (fun n3 => ⟨fun _ => none119 ?_, fun y => absurd rfl y⟩))
  unfold kiO
  by_cases k1 : kdT (tk 0) = 1
  · rw [if_pos k1]
    unfold kiC
    rw [if_neg (fun y => n1 ⟨k1, y⟩), if_neg (fun y => n2 ⟨k1, y⟩), if_neg (fun y => n3 ⟨k1, y⟩)]
  · rw [if_neg k1]
end

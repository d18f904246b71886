/-! ===== PURE: a DRAWING's parts, as the model reads them ===== -/
theorem kc_some {c k : Nat} (h : kcC c = some k) : ∃ j, j < 13 ∧ c = cw j := by
  unfold kcC at h
  split at h
  · exact ⟨2, by decide, by assumption⟩
  · split at h
    · exact ⟨3, by decide, by assumption⟩
    · split at h
      · exact ⟨4, by decide, by assumption⟩
      · split at h
        · exact ⟨5, by decide, by assumption⟩
        · split at h
          · exact ⟨6, by decide, by assumption⟩
          · cases h
theorem kc_none {c : Nat} (h : kcC c = none) : ∀ k, 2 ≤ k → k < 7 → c ≠ cw k := by
  intro k h2 h7 e
  rw [e, kc_c k (by omega)] at h
  rcases (show k = 2 ∨ k = 3 ∨ k = 4 ∨ k = 5 ∨ k = 6 by omega) with y | y | y | y | y <;> subst y <;> cases h
def pSp (tk : Nat → TK) (N i : Nat) : PR (Nat × Nat) := bnd (pN tk 0 (N - 1) i) fun i lo => bnd (pW tk (cw 10) i) fun i _ => bnd (pN tk 0 (N - 1) i) fun i hi => .inr (i, (lo, hi))
theorem wr75 {h : PH} {P c : Nat} {v : Int32} {Q : PH → Prop} (sh : Shp h) (hP : P + c < 768) (q : Q (qsI h 75 (P + c) v)) : ∃ b, qR h 70 17 = some b ∧ (vp_in (nI P + nI c) (qL h b) ∧ ∀ h1, h1 = qsI h b (nI P + nI c).toNatClampNeg v → Q h1) := by
  refine ⟨75, sh.R 70 17 75 (by decide), ?_⟩
  rw [nI_add, nI_clamp (by omega), sh.L 75 (n := 768) (by decide) rfl]
  exact ⟨vp_in_nI hP (by decide), fun h1 e => by rw [e]; exact q⟩
section
variable {h g : PH} {b : Nat → Nat} {sz lim m i N P : Nat} {tk : Nat → TK} {R : Nat → Int32}
def RF (F : List (Nat × Nat)) (h g : PH) (P : Nat) : Prop := Fg [75] F h g ∧ ∀ j, ¬ (P ≤ j ∧ j < P + 8) → qI g 75 j = qI h 75 j
def RW (h g : PH) (b : Nat → Nat) (sz lim m : Nat) (tk : Nat → TK) (P i : Nat) (R : Nat → Int32) : Prop := RF gF h g P ∧ MS g b sz lim m tk i ∧ ∀ j, j < 8 → qI g 75 (P + j) = R j
def FL (h g : PH) (tk : Nat → TK) (P f j : Nat) : Prop := RF mF h g P ∧ qI g 70 10 = nI f ∧ qI g 70 11 = nI (stT (tk j))
theorem RW.st {g1 : PH} {i2 : Nat} (r : RW h g b sz lim m tk P i R) (o : okM g g1 b sz lim m tk i2) : RW h g1 b sz lim m tk P i2 R := by
  obtain ⟨⟨f1, f2⟩, s, rr⟩ := r
  have k : ∀ j, qI g1 75 j = qI g 75 j := fun j => (o.1.ag (C := [75]) (G := []) rfl).I rfl j
  exact ⟨⟨f1.tr o.1 rfl rfl, fun j hj => by rw [k]; exact f2 j hj⟩, o.2, fun j hj => by rw [k]; exact rr j hj⟩
theorem RW.wr {c : Nat} {v : Int32} (r : RW h g b sz lim m tk P i R) (hc : c < 8) : RW h (qsI g 75 (P + c) v) b sz lim m tk P i (upd R c v) := by
  obtain ⟨⟨f1, f2⟩, s, rr⟩ := r
  have f : Fg [75] [] g (qsI g 75 (P + c) v) := Fg.cI _ _ _ _
  refine ⟨⟨f1.tr f rfl rfl, fun j hj => ?_⟩, s.ag (f.ag rfl), fun j hj => ?_⟩
  · rw [rI_sI, if_pos rfl, up_ne _ _ (by omega)]; exact f2 j hj
  · rw [rI_sI, if_pos rfl, up_at, up_at]
    by_cases z : j = c
    · rw [if_pos (by omega), if_pos z]
    · rw [if_neg (by omega), if_neg z]; exact rr j hj
theorem RW.fl {g1 : PH} {f j : Nat} (r : RW h g b sz lim m tk P i R) (o : flM g g1 tk f j) : FL h g1 tk P f j := by
  obtain ⟨⟨f1, f2⟩, s, rr⟩ := r
  exact ⟨⟨f1.tr o.1 rfl rfl, fun j hj => by rw [(o.1.ag (C := [75]) (G := []) rfl).I rfl]; exact f2 j hj⟩, o.2⟩
theorem RW.sh (r : RW h g b sz lim m tk P i R) (s : Shp h) : Shp g := s.fg r.1.1 rfl
theorem mspan_ok (sh : Shp h) (x : Tx b sz lim m tk) (r : RW h g b sz lim m tk P i R) (hP : P + 8 ≤ 768) (hN8 : 8 ≤ N) (hN : N ≤ 48) {Q : Int32 → PH → Prop}
    (q1 : ∀ g1 i' lo hi, pSp tk N i = .inr (i', (lo, hi)) → RW h g1 b sz lim m tk P i' (upd (upd R 5 (nI lo)) 6 (nI hi)) → Q 1 g1)
    (q0 : ∀ g1 f j, pSp tk N i = .inl (f, j) → FL h g1 tk P f j → Q 0 g1) : wp_X12_readSpan 70 (nI P) (nI (N - 1)) g Q := by
  refine rN_ok x r.2.1 (lo := 0) (hi := N - 1) (by decide) (by omega) (fun h1 lo e1 l0 l1 o1 v1 => ⟨fun _ => ?_, fun z => absurd z (by decide)⟩) (fun h1 f e1 c1 => ⟨fun z => absurd rfl z, fun _ => q0 h1 f _ (bnd_l e1) (r.fl c1)⟩)
  have r1 := r.st o1
  refine wr75 (c := 5) (r1.sh sh) (by omega) ?_
  rw [v1]
  have r2 := r1.wr (c := 5) (v := nI lo) (by decide)
  refine rTo_ok x r2.2.1 (fun h3 e3 o3 => ⟨fun z => absurd z (by decide), fun _ => ?_⟩) (fun h3 e3 c3 => ⟨fun _ => q0 h3 1 _ ((bnd_r e1).trans (bnd_l e3)) (r2.fl c3), fun z => absurd rfl z⟩)
  have r3 := r2.st o3
  refine rN_ok x r3.2.1 (lo := 0) (hi := N - 1) (by decide) (by omega) (fun h4 hi e4 l0' l1' o4 v4 => ⟨fun _ => ?_, fun z => absurd z (by decide)⟩) (fun h4 f e4 c4 => ⟨fun z => absurd rfl z, fun _ => q0 h4 f _ ((bnd_r e1).trans ((bnd_r e3).trans (bnd_l e4))) (r3.fl c4)⟩)
  have r4 := r3.st o4
  refine wr75 (c := 6) (r4.sh sh) (by omega) ?_
  rw [v4]
  exact q1 _ _ lo hi ((bnd_r e1).trans ((bnd_r e3).trans (bnd_r e4))) (r4.wr (by decide))
theorem mkind_ok {h : PH} {Q : Int32 → PH → Prop} (x : Tx b sz lim m tk) (s : MS h b sz lim m tk i) (q1 : ∀ kk, kcO tk i = some kk → kk < 5 → Q (nI kk) h) (q0 : kcO tk i = none → Q (-1) h) : wp_X12_partAtHand 70 h Q := by
  have one : ∀ k kk, k < 34 → kcC (cw k) = some kk → True → kdT (tk i) = 1 ∧ ctT (tk i) = cw k → ∀ z : Int32, z = nI kk → Q z h := fun k kk hk a _ c z e => by
    rw [e]
    have ek : kcO tk i = some kk := by unfold kcO; rw [if_pos c.1, c.2, a]
    exact q1 kk ek (by unfold kcO at ek; rw [if_pos c.1] at ek; exact kc_lt ek)
  refine sp_weight (isKw_ok x s (by decide) (fun z => ⟨fun y => absurd y (by decide), fun _ => one 2 0 (by decide) (by decide +kernel) trivial z _ rfl⟩) (fun n0 => ⟨fun _ => ?_, fun y => absurd rfl y⟩))
  refine sp_float (isKw_ok x s (by decide) (fun z => ⟨fun y => absurd y (by decide), fun _ => one 3 1 (by decide) (by decide +kernel) trivial z _ rfl⟩) (fun n1 => ⟨fun _ => ?_, fun y => absurd rfl y⟩))
  refine sp_magnet (isKw_ok x s (by decide) (fun z => ⟨fun y => absurd y (by decide), fun _ => one 4 2 (by decide) (by decide +kernel) trivial z _ rfl⟩) (fun n2 => ⟨fun _ => ?_, fun y => absurd rfl y⟩))
  refine sp_spring (isKw_ok x s (by decide) (fun z => ⟨fun y => absurd y (by decide), fun _ => one 5 3 (by decide) (by decide +kernel) trivial z _ rfl⟩) (fun n3 => ⟨fun _ => ?_, fun y => absurd rfl y⟩))
  refine sp_fed (isKw_ok x s (by decide) (fun z => ⟨fun y => absurd y (by decide), fun _ => one 6 4 (by decide) (by decide +kernel) trivial z _ rfl⟩) (fun n4 => ⟨fun _ => q0 ?_, fun y => absurd rfl y⟩))
  unfold kcO
  by_cases k1 : kdT (tk i) = 1
  · rw [if_pos k1]
    unfold kcC
    rw [if_neg (fun y => n0 ⟨k1, y⟩), if_neg (fun y => n1 ⟨k1, y⟩), if_neg (fun y => n2 ⟨k1, y⟩), if_neg (fun y => n3 ⟨k1, y⟩), if_neg (fun y => n4 ⟨k1, y⟩)]
  · rw [if_neg k1]
theorem mname_ok {h : PH} {Q : Int32 → PH → Prop} (x : Tx b sz lim m tk) (s : MS h b sz lim m tk i) (q1 : kdT (tk i) = 1 ∧ isNm (ctT (tk i)) → Q 1 h) (q0 : ¬ (kdT (tk i) = 1 ∧ isNm (ctT (tk i))) → Q 0 h) : wp_X12_isName 70 h Q := by
  obtain ⟨c7, hc7, e7, i1, _⟩ := s.k x
  have bad : ∀ k, k < 13 → kdT (tk i) = 1 ∧ ctT (tk i) = cw k → ¬ (kdT (tk i) = 1 ∧ isNm (ctT (tk i))) := fun k hk z u => u.2 k hk z.2
  refine n_eq c7 2 (fun z => q0 (fun y => z (i1.mpr y.1))) (fun z => ?_) e7
  have k1 := i1.mp z
  refine mkind_ok x s (fun kk ek k5 => ⟨fun _ => q0 ?_, fun y => absurd y (nI_m1 (by omega))⟩) (fun ek => ⟨fun y => absurd rfl y, fun _ => ?_⟩)
  · unfold kcO at ek
    rw [if_pos k1] at ek
    obtain ⟨j, hj, ej⟩ := kc_some ek
    exact bad j hj ⟨k1, ej⟩
  · unfold kcO at ek
    rw [if_pos k1] at ek
    have nk := kc_none ek
    refine isTurn_ok x s (fun z => ⟨fun _ => q0 (bad 0 (by decide) z), fun y => absurd y (by decide)⟩) (fun n0 => ⟨fun y => absurd rfl y, fun _ => ?_⟩)
    refine isRub_ok x s (fun z => ⟨fun _ => q0 (bad 1 (by decide) z), fun y => absurd y (by decide)⟩) (fun n1 => ⟨fun y => absurd rfl y, fun _ => ?_⟩)
    refine isOut_ok x s (fun z => ⟨fun _ => q0 (bad 8 (by decide) z), fun y => absurd y (by decide)⟩) (fun n8 => ⟨fun y => absurd rfl y, fun _ => ?_⟩)
    refine isShut_ok x s (fun z => ⟨fun y => absurd y (by decide), fun _ => q0 (bad 12 (by decide) z)⟩) (fun n12 => ⟨fun _ => ?_, fun y => absurd rfl y⟩)
    refine sp_arm (isKw_ok x s (by decide) (fun z => ⟨fun _ => q0 (bad 7 (by decide) z), fun y => absurd y (by decide)⟩) (fun n7 => ⟨fun y => absurd rfl y, fun _ => ?_⟩))
    refine sp_from (isKw_ok x s (by decide) (fun z => ⟨fun _ => q0 (bad 9 (by decide) z), fun y => absurd y (by decide)⟩) (fun n9 => ⟨fun y => absurd rfl y, fun _ => ?_⟩))
    refine sp_to (isKw_ok x s (by decide) (fun z => ⟨fun _ => q0 (bad 10 (by decide) z), fun y => absurd y (by decide)⟩) (fun n10 => ⟨fun y => absurd rfl y, fun _ => ?_⟩))
    refine sp_at (isKw_ok x s (by decide) (fun z => ⟨fun _ => q0 (bad 11 (by decide) z), fun y => absurd y (by decide)⟩) (fun n11 => ⟨fun y => absurd rfl y, fun _ => q1 ⟨k1, fun k hk e => ?_⟩⟩))
    by_cases u : 2 ≤ k ∧ k < 7
    · exact nk k u.1 u.2 e
    · rcases (show k = 0 ∨ k = 1 ∨ k = 7 ∨ k = 8 ∨ k = 9 ∨ k = 10 ∨ k = 11 ∨ k = 12 by omega) with y | y | y | y | y | y | y | y <;> rw [y] at e
      · exact n0 ⟨k1, e⟩
      · exact n1 ⟨k1, e⟩
      · exact n7 ⟨k1, e⟩
      · exact n8 ⟨k1, e⟩
      · exact n9 ⟨k1, e⟩
      · exact n10 ⟨k1, e⟩
      · exact n11 ⟨k1, e⟩
      · exact n12 ⟨k1, e⟩
end

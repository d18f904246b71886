/-! ===== PURE: the model's call drawing ===== -/
theorem lay3 {h : PH} {Q : PH → Prop} (sh : Shp h) (q : ∀ h1, Fg [] [(70, 20), (72, 0)] h h1 → ¬ qI h1 70 20 = 0 → (¬ qI h 70 20 = 0 → qI h1 72 0 = qI h 72 0) → (qI h 70 20 = 0 → qI h1 72 0 = nI 24) → Q h1) : wp_X12_lay 70 h Q := by
  refine ⟨fun z h2 e2 => ⟨72, by rw [e2]; exact sh.R 70 14 72 (by decide), by rw [e2]; exact in0 (sh.L 72 (n := 8) (by decide) rfl) (by decide) (by decide), fun h3 e3 => q h3 ?_ ?_ (fun y => absurd z y) (fun _ => ?_)⟩, fun z => q h (Fg.rf _ _ _) z (fun _ => rfl) (fun y => absurd y z)⟩
  · rw [e3, e2, c0_n]; exact (Fg.sI _ _ _ _).tr (Fg.sI _ _ _ _) rfl rfl
  · rw [e3, rI_ne _ _ _ (by decide), e2, rI_sI, if_pos rfl, up_eq]; decide
  · rw [e3, c0_n, rI_sI, if_pos rfl, up_eq]; rfl
def dF : List (Nat × Nat) := (70, 0) :: (70, 2) :: (70, 3) :: (70, 4) :: (70, 20) :: mF
def MG (h g : PH) : Prop := Fg [72, 73, 74, 75, 76] dF h g ∧ (∀ j, 2 ≤ j → qI g 72 j = qI h 72 j ∧ qI g 73 j = qI h 73 j ∧ qI g 74 j = qI h 74 j) ∧ (∀ j, 192 ≤ j → qI g 75 j = qI h 75 j) ∧ qI g 70 2 = 0 ∧ ¬ qI g 70 20 = 0
section
variable {h : PH} {b : Nat → Nat} {sz m : Nat} {tk : Nat → TK}
theorem mdraw_ok (sh : Shp h) (x : Tx b sz 600 m tk) (v2 : qI h 70 2 = nI sz) (v71 : ∀ j, j < 640 → qI h 71 j = nI (b j)) {Q : Int32 → PH → Prop}
    (q1 : ∀ g l N d, DO tk m (600 < sz) (.inr (l, (N, d))) → MG h g → qI g 72 0 = nI N → qI g 73 0 = nI ((drb d).getD 0) → qI g 74 0 = nI (dn d) → (∀ k, k < dn d → ∀ j, j < 8 → qI g 75 (8 * k + j) = mRow (dp d k) j) → qI g 70 10 = 0 → Q (nI (dn d)) g)
    (q0 : ∀ g f j, DO tk m (600 < sz) (.inl (f, j)) → MG h g → (¬ qI h 70 20 = 0 → qI g 72 0 = qI h 72 0) → (qI h 70 20 = 0 → qI g 72 0 = nI 24) → qI g 73 0 = qI h 73 0 → qI g 74 0 = qI h 74 0 → (∀ j, j < 96 → qI g 75 j = qI h 75 j) → qI g 70 10 = nI f → Q (-1 - nI (stT (tk j))) g) : wp_X12_drawing 70 h Q := by
  intro g0 e0
  have f0 : Fg [] [(70, 0)] h g0 := by rw [e0]; exact Fg.sI _ _ _ _
  have sh0 := sh.fg f0 rfl
  refine lay3 sh0 (fun g1 f1 n20 old new v1 ev1 g2 e2 g3 e3 g4 e4 g5 e5 => ?_)
  have sh1 := sh0.fg f1 rfl
  have evs : v1 = nI sz := by rw [ev1, f1.I rfl, f0.I rfl]; exact v2
  have f5 : Fg [] [(70, 2), (70, 3), (70, 4), (70, 10)] g1 g5 := by
    rw [e5, e4, e3, e2]
    exact (((Fg.sI _ _ _ _).tr (Fg.sI _ _ _ _) (U := []) (V := [(70, 2), (70, 3), (70, 4), (70, 10)]) rfl rfl).tr (Fg.sI _ _ _ _) (U := []) (V := [(70, 2), (70, 3), (70, 4), (70, 10)]) rfl rfl).tr (Fg.sI _ _ _ _) rfl rfl
  have sh5 := sh1.fg f5 rfl
  have in8 : ∀ {g : PH} (a : Nat), qL g a = 8 → vp_in 1 (qL g a) := fun a e => by rw [e]; exact vp_in_nI (n := 1) (by decide) (by decide)
  refine ⟨72, sh5.R 70 14 72 (by decide), in8 72 (sh5.L 72 (by decide) rfl), fun g6 e6 => ?_⟩
  have f6 : Fg [] [(72, 1)] g5 g6 := by rw [e6, c1_n']; exact Fg.sI _ _ _ _
  have sh6 := sh5.fg f6 rfl
  refine ⟨73, sh6.R 70 15 73 (by decide), in8 73 (sh6.L 73 (by decide) rfl), fun g7 e7 => ?_⟩
  have f7 : Fg [] [(73, 1)] g6 g7 := by rw [e7, c1_n']; exact Fg.sI _ _ _ _
  have sh7 := sh6.fg f7 rfl
  refine ⟨74, sh7.R 70 16 74 (by decide), in8 74 (sh7.L 74 (by decide) rfl), fun g8 e8 g9 e9 => ?_⟩
  have f8 : Fg [] [(74, 1)] g7 g8 := by rw [e8, c1_n']; exact Fg.sI _ _ _ _
  have f9 : Fg [] [(70, 5)] g8 g9 := by rw [e9]; exact Fg.sI _ _ _ _
  have f59 : Fg [] [(72, 1), (73, 1), (74, 1), (70, 5)] g5 g9 := ((f6.tr f7 (U := []) (V := [(72, 1), (73, 1), (74, 1), (70, 5)]) rfl rfl).tr f8 (U := []) (V := [(72, 1), (73, 1), (74, 1), (70, 5)]) rfl rfl).tr f9 rfl rfl
  have f19 : Fg [] [(70, 2), (70, 3), (70, 4), (70, 10), (72, 1), (73, 1), (74, 1), (70, 5)] g1 g9 := f5.tr f59 rfl rfl
  have fh9 : Fg [] [(70, 0), (70, 20), (72, 0), (70, 2), (70, 3), (70, 4), (70, 10), (72, 1), (73, 1), (74, 1), (70, 5)] h g9 := (f0.tr f1 (U := []) (V := [(70, 0), (70, 20), (72, 0)]) rfl rfl).tr f19 rfl rfl
  have sh9 := sh.fg fh9 rfl
  have w3 : qI g9 70 3 = nI sz := by rw [f59.I rfl, e5, e4, e3]; simp only [qI_sI]; simp; exact evs
  have w4 : qI g9 70 4 = nI 600 := by rw [f59.I rfl, e5, e4]; simp only [qI_sI]; simp; rfl
  have w10 : qI g9 70 10 = 0 := by rw [f59.I rfl, e5]; simp only [qI_sI]; simp
  have w2 : qI g9 70 2 = 0 := by rw [f59.I rfl, e5, e4, e3, e2]; simp only [qI_sI]; simp
  have w20 : ¬ qI g9 70 20 = 0 := by rw [f19.I rfl]; exact n20
  have a72 : qI g9 72 1 = nI 24 := by rw [f9.I rfl, f8.I rfl, f7.I rfl, e6, c1_n', rI_sI, if_pos rfl, up_eq]; rfl
  have a73 : qI g9 73 1 = -1 := by rw [f9.I rfl, f8.I rfl, e7, c1_n', rI_sI, if_pos rfl, up_eq]
  have a74 : qI g9 74 1 = nI 0 := by rw [f9.I rfl, e8, c1_n', rI_sI, if_pos rfl, up_eq]; rfl
  have z72 : (¬ qI h 70 20 = 0 → qI g9 72 0 = qI h 72 0) ∧ (qI h 70 20 = 0 → qI g9 72 0 = nI 24) := by
    rw [f19.I rfl]
    have u : qI g0 70 20 = qI h 70 20 := f0.I rfl
    rw [u] at old new
    exact ⟨fun y => by rw [old y]; exact f0.I rfl, new⟩
  have mx : MX g9 b sz 600 := ⟨w3, w4, sh9.R 70 1 71 (by decide), sh9.L 71 (by decide) rfl, fun j hj => ⟨by rw [(fh9.ag (C := [71]) (G := []) rfl).I rfl]; exact v71 j hj, x.2.2.2 j hj⟩⟩
  refine go0_ok x mx (by rw [e9, rI_sI, if_pos rfl, up_eq]) (fun ga fa sa => ?_)
  have c0 : DMl ga 24 d00 := by
    have A := fa.ag (C := [75, 76]) (G := [(72, 1), (73, 1), (74, 1)]) rfl
    exact ⟨⟨by rw [A.i rfl]; exact a72, by rw [A.i rfl]; exact a73, by rw [A.i rfl]; exact a74⟩, Nat.zero_le _, fun k hk => absurd hk (Nat.not_lt_zero k)⟩
  have Ma : MFr gF g9 ga := MFr.k (F := gF) (fa.mono rfl) rfl rfl
  -- what stays
  have mg : ∀ {g : PH} {F : List (Nat × Nat)}, Fg [72, 73, 74, 75, 76] F g9 g → fsub [72, 73, 74, 75, 76] F [72, 73, 74, 75, 76] mF = true → (∀ j, 2 ≤ j → qI g 72 j = qI g9 72 j ∧ qI g 73 j = qI g9 73 j ∧ qI g 74 j = qI g9 74 j) → (∀ j, 192 ≤ j → qI g 75 j = qI g9 75 j) → MG h g := by
    intro g F f c k1 k2
    have f' : Fg [72, 73, 74, 75, 76] mF g9 g := f.mono c
    refine ⟨fh9.tr f' rfl rfl, fun j hj => ?_, fun j hj => ?_, by rw [f'.I rfl]; exact w2, by rw [f'.I rfl]; exact w20⟩
    · obtain ⟨y1, y2, y3⟩ := k1 j hj
      rw [y1, y2, y3]
      exact ⟨(fh9.2 72 List.not_mem_nil j (by simp; omega)).1, (fh9.2 73 List.not_mem_nil j (by simp; omega)).1, (fh9.2 74 List.not_mem_nil j (by simp; omega)).1⟩
    · rw [k2 j hj]; exact (fh9.ag (C := [75]) (G := []) rfl).I rfl j
  have flt : ∀ {g : PH} {f j : Nat}, DO tk m (600 < sz) (.inl (f, j)) → MFr mF g9 g → qI g 70 10 = nI f → qI g 70 11 = nI (stT (tk j)) → Q (-1 - qI g 70 11) g := by
    intro g f j io M w10' w11
    rw [w11]
    have o : ∀ a j, (a = 72 ∨ a = 73 ∨ a = 74) → j ≠ 1 → qI g a j = qI g9 a j := fun a j ha hj => (M.1.2 a (by simp; omega) j (by simp [mF]; omega)).1
    refine q0 g f j io (mg (F := mF) (M.1.mono rfl) rfl (fun j hj => ⟨o 72 j (by omega) (by omega), o 73 j (by omega) (by omega), o 74 j (by omega) (by omega)⟩) (fun j hj => M.2 j (by omega))) (fun y => by rw [o 72 0 (by omega) (by omega)]; exact z72.1 y) (fun y => by rw [o 72 0 (by omega) (by omega)]; exact z72.2 y) (by rw [o 73 0 (by omega) (by omega)]; exact fh9.I rfl) (by rw [o 74 0 (by omega) (by omega)]; exact fh9.I rfl) (fun j hj => by rw [M.2 j (by omega)]; exact (fh9.ag (C := [75]) (G := []) rfl).I rfl j) w10'
  -- the lines
  have lines : ∀ (g : PH) (i0 N : Nat), pT tk 0 = .inr (i0, N) → 8 ≤ N → N ≤ 48 → MFr gF g9 g → MS g b sz 600 m tk i0 → DMl g N d00 → qLoop (wp_X12_drawing_144 70 Q) g := by
    intro g i0 N pt n8 n48 M s c
    have shg := sh9.fg M.1 rfl
    refine mlines_ok shg x s c n8 n48 (fun g1 l d io f1' y72 y73 y74 y75 k1 k2 => q1 g1 l N d (Or.inr ⟨i0, N, pt, Or.inr ⟨l, d, io, rfl⟩⟩) (mg (F := gF) ?_ rfl (fun j hj => ?_) (fun j hj => ?_)) y72 y73 y74 y75 ?_) (fun g1 f j io M1 w1 w2' => ?_)
    · exact (M.1.mono (U := [72, 73, 74, 75, 76]) (V := gF) rfl).tr f1' rfl rfl
    · obtain ⟨y1, y2, y3⟩ := k1 j hj
      rw [y1, y2, y3]
      exact ⟨(M.1.2 72 (by decide) j (by simp [gF]; omega)).1, (M.1.2 73 (by decide) j (by simp [gF]; omega)).1, (M.1.2 74 (by decide) j (by simp [gF]; omega)).1⟩
    · rw [k2 j hj]; exact M.2 j (by omega)
    · rw [f1'.I rfl, M.1.I rfl]; exact w10
    · have := flt (Or.inr ⟨i0, N, pt, Or.inl ⟨_, io, rfl⟩⟩) (M.tr M1 rfl rfl) w1 w2'
      rw [w2'] at this
      exact this
  refine isTurn_ok x sa (fun zt => ⟨fun y => absurd y (by decide), fun _ => ?_⟩) (fun zt => ⟨fun _ => lines ga 0 24 (if_neg zt) (by decide) (by decide) Ma sa c0, fun y => absurd rfl y⟩)
  have pt : pT tk 0 = pT2 tk (0 + 1) := if_pos zt
  have flT : ∀ {g1 g : PH} {f j : Nat}, pT2 tk (0 + 1) = .inl (f, j) → MFr gF g9 g1 → flM g1 g tk f j → Q (-1 - qI g 70 11) g := fun e M c => flt (Or.inl ⟨_, by rw [pt]; exact e, rfl⟩) (M.tr (MFr.k (F := mF) c.1 rfl rfl) rfl rfl) c.2.1 c.2.2
  refine goM_ok x sa (x.lt sa.2.2 (by rw [zt.1]; decide)) (fun gb fb sb => ?_)
  have Mb : MFr gF g9 gb := Ma.tr (MFr.k (F := gF) (fb.mono rfl) rfl rfl) rfl rfl
  have cb := c0.ag (fb.ag rfl)
  have shb := sh9.fg Mb.1 rfl
  -- behind the odd
  have go : ¬ (kdT (tk (0 + 1)) = 2 ∧ ctT (tk (0 + 1)) % 2 = 1) → wp_X12_drawing_102 70 gb Q := by
    intro no
    have pp : pT2 tk (0 + 1) = bnd (pN tk 8 48 (0 + 1)) fun i v => bnd (pS tk 59 i) fun i _ => .inr (i, v) := if_neg no
    refine rN_ok x sb (lo := 8) (hi := 48) (by decide) (by decide) (fun gc v ec l0 l1 oc vc => ⟨fun _ => ?_, fun z => absurd z (by decide)⟩) (fun gc f ec cc => ⟨fun z => absurd rfl z, fun _ => flT (by rw [pp]; exact bnd_l ec) Mb cc⟩)
    have shc := shb.fg oc.1 rfl
    refine ⟨72, shc.R 70 14 72 (by decide), in8 72 (shc.L 72 (by decide) rfl), fun gd ed => ?_⟩
    rw [c1_n', vc] at ed
    have fd : Fg [] [(72, 1)] gc gd := by rw [ed]; exact Fg.sI _ _ _ _
    have Md : MFr gF g9 gd := (Mb.tr (MFr.k (F := gF) oc.1 rfl rfl) (V := gF) rfl rfl).tr (G := gF) ⟨fd.mono rfl, fun j _ => by rw [ed, rI_ne _ _ _ (by decide)]⟩ rfl rfl
    have sd := oc.2.ag (fd.ag rfl)
    have cd : DMl gd v d00 := by
      obtain ⟨⟨a1, a2, a3⟩, _, _⟩ := cb.ag (oc.1.ag rfl)
      exact ⟨⟨by rw [ed, rI_sI, if_pos rfl, up_eq], by rw [fd.I rfl]; exact a2, by rw [fd.I rfl]; exact a3⟩, Nat.zero_le _, fun k hk => absurd hk (Nat.not_lt_zero k)⟩
    refine rE_ok x sd (fun ge ee oe => ⟨fun _ => lines ge _ v (by rw [pt, pp]; exact (bnd_r ec).trans (bnd_r ee)) l0 l1 (Md.tr (MFr.k (F := gF) oe.1 rfl rfl) rfl rfl) oe.2 (cd.ag (oe.1.ag rfl)), fun y => absurd y (by decide)⟩) (fun ge ee ce => ⟨fun y => absurd rfl y, fun _ => flT (by rw [pp]; exact (bnd_r ec).trans (bnd_l ee)) Md ce⟩)
  obtain ⟨c7, hc7, e7', _, i2, _⟩ := sb.k x
  refine n_eq c7 3 (fun z => go (fun y => z (i2.mpr y.1))) (fun z => ?_) e7'
  have k2 := i2.mp z
  rw [(sb.ct x).2.1 k2, odd_ok _ (x.bd sb.2.2).2.1]
  refine n_eq (ctT (tk (0 + 1)) % 2) 1 (fun y => go (fun u => y u.2)) (fun y => bad_ok (f := 2) x sb (Or.inr ⟨x.lt sb.2.2 (by rw [k2]; decide), by rw [k2]; decide⟩) (fun gc fc w1 w2' => flT (if_pos ⟨k2, y⟩) Mb ⟨fc.mono rfl, w1, w2'⟩))
end

/-! ===== PURE: the calls run and stands ===== -/
theorem prev_succ {N t : Nat} (ht : t < N) : ((t + N - 1) % N + 1) % N = t := by
  rcases Nat.eq_zero_or_pos t with z | z
  · rw [z, show 0 + N - 1 = N - 1 by omega, Nat.mod_eq_of_lt (by omega : N - 1 < N), show N - 1 + 1 = N by omega, Nat.mod_self]
  · rw [show t + N - 1 = t - 1 + N by omega, Nat.add_mod_right, Nat.mod_eq_of_lt (by omega : t - 1 < N), show t - 1 + 1 = t by omega, Nat.mod_eq_of_lt ht]
def bwB (N rb n : Nat) (Ds : Nat → PD) (L : Nat) : Nat → Int32 := fun t => bwd N rb n Ds L ((t + N - 1) % N)
theorem WC.wf {h : PH} {N rb n L : Nat} {Ds : Nat → PD} (w : WC h N rb n Ds L) (h8 : 8 ≤ N) (hN : N ≤ 48) : WF h N (fwd N rb n Ds L) (bwB N rb n Ds L) := ⟨w.1, ⟨w.2.1.1, w.2.1.2.1, fun t ht => by
  have := w.2.1.2.2 ((t + N - 1) % N) (Nat.mod_lt _ (by omega))
  rw [prev_succ ht] at this
  exact this⟩, w.2.2, h8, hN⟩
theorem WM.mf {h : PH} {N rb n L : Nat} {Ds : Nat → PD} (w : WM h N rb n Ds L) (m : Mo h N) : MF h N (fwd N rb n Ds L) (bwB N rb n Ds L) := ⟨m, w.1, w.2.1, w.2.2.1, fun t ht => w.2.2.2 _ (Nat.mod_lt _ (by omega))⟩
def rs0 (t : Nat) (push : Int32) : RS := (true, 0, t, push, 0, 0, push)
theorem start_ok {h : PH} {r t : Nat} {push : Int32} {Q : PH → Prop} (q : ∀ h1, Fg [r] [] h h1 → qI h1 r 0 = 1 → RC h1 r (rs0 t push) → Q h1) : wp_X5_start r (nI t) push h Q := by
  intro h1 e1 h2 e2 h3 e3 h4 e4 h5 e5 h6 e6 h7 e7
  refine q h7 ?_ ?_ ⟨?_, ?_, ?_, ?_, ?_, ?_⟩
  · rw [e7, e6, e5, e4, e3, e2, e1]
    exact (((((((Fg.rf _ _ _).push _ _).push _ _).push _ _).push _ _).push _ _).push _ _).push _ _
  all_goals (rw [e7, e6, e5, e4, e3, e2, e1]; simp only [qI_sI]; simp) <;> first | rfl | (show ¬ 0 = 2; decide)
theorem rok0 {N t : Nat} {push : Int32} (ht : t < N) : rok N 0 (rs0 t push) := ⟨ht, by show 0 ≤ 2; omega, by show 0 ≤ 20000; omega, by show 0 ≤ 0 + 0; omega, rfl⟩
def rnF : List (Nat × Nat) := [(13, 2), (70, 0), (70, 20), (72, 0), (70, 23), (70, 24), (70, 25), (70, 26), (70, 27), (70, 28), (70, 29), (70, 30), (70, 31), (70, 32), (70, 33), (70, 34)]
theorem op_run {h : PH} (i : Inv h) (x y z : Int32) : wp_X11_run 0 x y z h (fun r h1 => wp_X12_run 70 x y z h1 (Both h r)) := by
  obtain ⟨N, rb, n, Ds, d, e, id⟩ := i.2.2.1
  have sh := i.1
  have hN8 := id.2.2.1.1.2.2.1
  have hN := id.2.2.1.1.2.2.2.1
  -- what fails changes nothing but the laying
  have bad : ∀ h2, Fg [] [(70, 0), (70, 20), (72, 0)] h h2 → DrL h2 N rb n Ds → Both h (-1) (-1) h2 := fun h2 f2 dl => by
    obtain ⟨i0, i1, i2, i3, i4, i5, i6, i7, i8, i9, i10⟩ := i
    exact ⟨rfl, ⟨i0.fg f2 rfl, i1.ag (f2.ag rfl), ⟨N, rb, n, Ds, d, e, id.re (f2.ag rfl) dl⟩, i3.ag (f2.ag rfl), i4.ag (f2.ag rfl), i5.ag (f2.ag rfl), i6.ag (f2.ag rfl), i7.fg f2 rfl, i8.ag (f2.ag rfl), i9.ag (f2.ag rfl), i10.ag (f2.ag rfl)⟩, f2.rm⟩
  have dl1 : ∀ h1, h1 = qsI h 70 0 0 → DrL h1 N rb n Ds := fun h1 e1 => by rw [e1]; exact id.2.2.1.ag ((Fg.sI _ _ _ _).ag rfl)
  have nb : ¬ ((1 : Int32) = 0) := by decide
  refine isPlace_ok id (fun t ht ex => ⟨fun z => absurd z nb, fun _ => ?_⟩) (fun no => ⟨fun _ h1 e1 => ?_, fun z => absurd rfl z⟩)
  · refine isPush_ok (fun p hp ey => ⟨fun z => absurd z nb, fun _ => ?_⟩) (fun no => ⟨fun _ h1 e1 => ?_, fun z => absurd rfl z⟩)
    · refine isLaw_ok (fun L hL ez => ⟨fun _ => ?_, fun z => absurd z nb⟩) (fun no => ⟨fun z => absurd rfl z, fun _ h1 e1 => ?_⟩)
      · subst ex ey ez
        refine ⟨13, sh.R 0 3 13 (by decide), 7, sh.R 0 2 7 (by decide), prepare_g id.2.2.2.1 hL (sh.R 13 0 14 (by decide)) (sh.R 13 1 15 (by decide)) (sh.L 14 (by decide) rfl) (sh.L 15 (by decide) rfl) (fun h1 f1 wc => ⟨16, by rw [f1.R rfl]; exact sh.R 0 4 16 (by decide), start_ok (fun h2 f2 s2 rc2 => ?_)⟩)⟩
        have f12 : Fg [14, 15, 16] [(13, 2)] h h2 := f1.tr f2 rfl rfl
        have wf2 := (wc.wf hN8 hN).ag (f2.ag rfl)
        refine ⟨16, by rw [f12.R rfl]; exact sh.R 0 4 16 (by decide), 13, by rw [f12.R rfl]; exact sh.R 0 3 13 (by decide), turn_ok wf2 (Or.inl rfl) (rok0 ht) rfl rfl rc2 (fun h3 k f3 s3 rk rc3 => ?_)⟩
        have f13 : Fg [14, 15, 16] [(13, 2)] h h3 := f12.tr f3 rfl rfl
        refine ⟨16, by rw [f13.R rfl]; exact sh.R 0 4 16 (by decide), fun g0 e0 => ?_⟩
        have k0 : Fg [14, 15, 16] [(13, 2), (70, 0)] h g0 := by rw [e0]; exact f13.tr (Fg.sI _ _ _ _) rfl rfl
        have k0' : Fg [] [(70, 0)] h3 g0 := by rw [e0]; exact Fg.sI _ _ _ _
        refine isTime_ok (id.2.2.1.ag (k0.ag rfl)) (fun g1 k1 dm dl => ⟨fun j hj ej => ⟨fun z => absurd z nb, fun _ => ?_⟩, fun no => absurd rfl (no t ht)⟩)
        refine misPush_ok (fun p2 hp2 ep2 => ⟨fun z => absurd z nb, fun _ => ?_⟩) (fun no => absurd rfl (no p hp))
        refine isWorld_ok (fun L2 hL2 eL2 => ⟨fun _ => ?_, fun z => absurd z nb⟩) (fun no => absurd rfl (no L hL))
        have k01 : Fg [14, 15, 16] [(13, 2), (70, 0), (70, 20), (72, 0)] h g1 := k0.tr k1 rfl rfl
        have k01' : Fg [] [(70, 0), (70, 20), (72, 0)] h3 g1 := k0'.tr k1 rfl rfl
        refine layWorld_ok dl hL (by rw [k01.R rfl]; exact sh.R 70 21 78 (by decide)) (by rw [k01.R rfl]; exact sh.R 70 22 79 (by decide)) (by rw [k01.L]; exact sh.L 78 (by decide) rfl) (by rw [k01.L]; exact sh.L 79 (by decide) rfl) (fun g2 k2 dm2 dl2 wm => ?_)
        refine play_ok (wm.mf dm2.1) ht (fun g3 k' k3 rk' rm3 rs3 => ?_)
        have ek : k' = k := rend_uniq rk' rk
        subst ek
        intro g4 e4 g5 e5 g6 e6 g7 e7 g8 e8
        have rz : qI g8 70 28 = (if rr (rgo N (fwd N rb n Ds L) (bwB N rb n Ds L) (rs0 t (nI p)) k') = 2 then 1 else 0) := by rw [e8, e7, e6, e5, e4]; simp only [qI_sI]; simp; exact rs3
        refine ⟨?_, fun g9 e9 => ?_⟩
        · rw [rz]; split
          · exact Or.inr rfl
          · exact Or.inl rfl
        · have k49 : Fg [] [(70, 29), (70, 30), (70, 31), (70, 32), (70, 33), (70, 34)] g3 g9 := by
            rw [e9, e8, e7, e6, e5, e4]
            exact (((((Fg.sI _ _ _ _).tr (Fg.sI _ _ _ _) (U := []) (V := [(70, 29), (70, 30), (70, 31), (70, 32), (70, 33), (70, 34)]) rfl rfl).tr (Fg.sI _ _ _ _) (U := []) (V := [(70, 29), (70, 30), (70, 31), (70, 32), (70, 33), (70, 34)]) rfl rfl).tr (Fg.sI _ _ _ _) (U := []) (V := [(70, 29), (70, 30), (70, 31), (70, 32), (70, 33), (70, 34)]) rfl rfl).tr (Fg.sI _ _ _ _) (U := []) (V := [(70, 29), (70, 30), (70, 31), (70, 32), (70, 33), (70, 34)]) rfl rfl).tr (Fg.sI _ _ _ _) rfl rfl
          have kA : Fg [78, 79] ([(70, 0), (70, 20), (72, 0)] ++ mfF ++ [(70, 29), (70, 30), (70, 31), (70, 32), (70, 33), (70, 34)]) h3 g9 := ((k01'.tr k2 (U := [78, 79]) (V := [(70, 0), (70, 20), (72, 0)] ++ mfF) rfl rfl).tr k3 (U := [78, 79]) (V := [(70, 0), (70, 20), (72, 0)] ++ mfF) rfl rfl).tr k49 rfl rfl
          have kB : Fg [14, 15, 16, 78, 79] rnF h g9 := f13.tr kA rfl rfl
          have d9 : DrL g9 N rb n Ds := (dl2.ag (k3.ag rfl)).ag (k49.ag rfl)
          have c16 : ∀ j, qI g9 16 j = qI h3 16 j := fun j => (kA.ag (C := [16]) (G := []) rfl).I rfl j
          obtain ⟨a1, a2, a3, a4, a5, a6⟩ := rc3
          obtain ⟨b1, b2, b3, b4, b5⟩ := rm3
          have v33 : qI g9 70 33 = 1 := by rw [e9, e8, e7, e6, e5, e4]; simp only [qI_sI]; simp
          obtain ⟨i0, i1, i2, i3, i4, i5, i6, i7, i8, i9, i10⟩ := i
          refine ⟨?_, ⟨i0.fg kB rfl, i1.ag (kB.ag rfl), ⟨N, rb, n, Ds, d, e, id.re (kB.ag rfl) d9⟩, ⟨?_, fun _ => ⟨?_, ?_, ?_, ?_, ?_⟩⟩, i4.ag (kB.ag rfl), i5.ag (kB.ag rfl), i6.ag (kB.ag rfl), i7.fg kB rfl, i8.ag (kB.ag rfl), i9.ag (kB.ag rfl), i10.ag (kB.ag rfl)⟩, kB.rm⟩
          · rw [a3, e9, e8, e7, e6, e5, e4]; simp only [qI_sI]; simp; rw [b5]; rfl
          · rw [c16, s3, s2, v33]
          · rw [c16, a1, e9, e8, e7, e6, e5, e4]; simp only [qI_sI]; simp; rw [b1]; rfl
          · rw [c16, a2, e9, e8, e7, e6, e5, e4]; simp only [qI_sI]; simp; rw [b2]; rfl
          · rw [c16, a4, e9, e8, e7, e6, e5, e4]; simp only [qI_sI]; simp; rw [b3]; rfl
          · rw [c16, a5, e9, e8, e7, e6, e5, e4]; simp only [qI_sI]; simp; rw [b4]; rfl
          · rw [c16, a6, e9, e8, e7, e6, e5, e4]; simp only [qI_sI]; simp; rw [rs3]; rfl
      · have f1 : Fg [] [(70, 0)] h h1 := by rw [e1]; exact Fg.sI _ _ _ _
        refine isTime_ok (dl1 h1 e1) (fun h2 f2 dm dl => ⟨fun j hj ej => ⟨fun z => absurd z nb, fun _ => misPush_ok (fun p2 hp2 ep2 => ⟨fun z => absurd z nb, fun _ => isWorld_ok (fun L hL eL => absurd eL (no L hL)) (fun _ => ⟨fun z => absurd rfl z, fun _ => bad h2 (f1.tr f2 rfl rfl) dl⟩)⟩) (fun _ => ⟨fun _ => bad h2 (f1.tr f2 rfl rfl) dl, fun z => absurd rfl z⟩)⟩, fun _ => ⟨fun _ => bad h2 (f1.tr f2 rfl rfl) dl, fun z => absurd rfl z⟩⟩)
    · have f1 : Fg [] [(70, 0)] h h1 := by rw [e1]; exact Fg.sI _ _ _ _
      refine isTime_ok (dl1 h1 e1) (fun h2 f2 dm dl => ⟨fun j hj ej => ⟨fun z => absurd z nb, fun _ => misPush_ok (fun p hp ep => absurd ep (no p hp)) (fun _ => ⟨fun _ => bad h2 (f1.tr f2 rfl rfl) dl, fun z => absurd rfl z⟩)⟩, fun _ => ⟨fun _ => bad h2 (f1.tr f2 rfl rfl) dl, fun z => absurd rfl z⟩⟩)
  · have f1 : Fg [] [(70, 0)] h h1 := by rw [e1]; exact Fg.sI _ _ _ _
    refine isTime_ok (dl1 h1 e1) (fun h2 f2 dm dl => ⟨fun j hj ej => absurd ej (no j hj), fun _ => ⟨fun _ => bad h2 (f1.tr f2 rfl rfl) dl, fun z => absurd rfl z⟩⟩)
/-- the places at which it stands: how many of the first t, and which -/
def stC (F B : Nat → Int32) : Nat → List Nat
  | 0 => []
  | t + 1 => if F t < 0 ∧ B t < 0 then stC F B t ++ [t] else stC F B t
theorem stC_len (F B : Nat → Int32) : ∀ t, (stC F B t).length ≤ t
  | 0 => Nat.le_refl 0
  | t + 1 => by
    unfold stC
    have := stC_len F B t
    split
    · rw [List.length_append]; show _ + 1 ≤ _; omega
    · omega
/-- the row a holds the list -/
def hasL (h : PH) (a : Nat) (l : List Nat) : Prop := ∀ j (hj : j < l.length), qI h a j = nI (l[j])
theorem hasL_push {h : PH} {a t : Nat} {l : List Nat} {v : Int32} (hl : hasL h a l) (ev : v = nI t) : hasL (qsI h a l.length v) a (l ++ [t]) := by
  intro j hj
  rw [List.length_append] at hj
  rw [rI_sI, if_pos rfl, up_at]
  by_cases c : j = l.length
  · subst c
    rw [if_pos rfl, List.getElem_append_right (Nat.le_refl _), ev]
    simp
  · rw [if_neg c]
    have : j < l.length := by
      have : j < l.length + 1 := hj
      omega
    rw [List.getElem_append_left this]
    exact hl j this
theorem hasL_ag {h h1 : PH} {a : Nat} {l : List Nat} (hl : hasL h a l) (e : ∀ j, qI h1 a j = qI h a j) : hasL h1 a l := fun j hj => by rw [e]; exact hl j hj
theorem op_stands {h : PH} (i : Inv h) (z : Int32) : wp_X11_stands 0 z h (fun r h1 => wp_X12_stands 70 z h1 (Both h r)) := by
  obtain ⟨N, rb, n, Ds, d, e, id⟩ := i.2.2.1
  have sh := i.1
  have hN8 := id.2.2.1.1.2.2.1
  have hN := id.2.2.1.1.2.2.2.1
  have nb : ¬ ((1 : Int32) = 0) := by decide
  refine isLaw_ok (fun L hL ez => ⟨fun _ => ?_, fun z => absurd z nb⟩) (fun no => ⟨fun z => absurd rfl z, fun _ h1 e1 => isWorld_ok (fun L hL eL => absurd eL (no L hL)) (fun _ => ⟨fun z => absurd rfl z, fun _ => ⟨rfl, by rw [e1]; exact i.thr 0, by rw [e1]; exact (Fg.sI _ _ _ _).rm⟩⟩)⟩)
  subst ez
  refine ⟨13, sh.R 0 3 13 (by decide), 7, sh.R 0 2 7 (by decide), prepare_g id.2.2.2.1 hL (sh.R 13 0 14 (by decide)) (sh.R 13 1 15 (by decide)) (sh.L 14 (by decide) rfl) (sh.L 15 (by decide) rfl) (fun h1 f1 wc h2 e2 => ?_)⟩
  have f2 : Fg [14, 15, 24] [(13, 2), (0, 16)] h h2 := by rw [e2]; exact f1.tr (Fg.sI _ _ _ _) rfl rfl
  have wf1 := wc.wf hN8 hN
  have wf2 : WF h2 N (fwd N rb n Ds L) (bwB N rb n Ds L) := by rw [e2]; exact wf1.ag ((Fg.sI _ _ _ _).ag rfl)
  generalize hF : fwd N rb n Ds L = F at *
  generalize hB : bwB N rb n Ds L = B at *
  refine loopR N (fun t s => s.1 = nI t ∧ Fg [24] [(0, 16)] h2 s.2 ∧ qI s.2 0 16 = nI (stC F B t).length ∧ hasL s.2 24 (stC F B t)) (fun s => s.1.toNatClampNeg) ⟨rfl, Fg.rf _ _ _, by show qI h2 0 16 = _; rw [e2]; simp only [qI_sI]; simp; rfl, fun j hj => absurd hj (Nat.not_lt_zero j)⟩ (fun t s ht p => by rw [p.1]; exact nI_clamp (by omega)) ?_ ?_
  · rintro t ⟨t', h3⟩ ht ⟨b1, f3, b3, b4⟩ back hb
    dsimp only at b1 f3 b3 b4
    subst b1
    have f03 : Fg [14, 15, 24] [(13, 2), (0, 16)] h h3 := f2.tr f3 rfl rfl
    have id3 := id.ag (f03.ag rfl)
    have wf3 := wf2.ag (f3.ag rfl)
    have hl := stC_len F B t
    refine ⟨d, id3.1.1, fun c => ?_, fun c => ⟨13, by rw [f03.R rfl]; exact sh.R 0 3 13 (by decide), 14, wf3.1.1, by rw [wf3.1.2.1]; exact vp_in_nI (by omega) (by omega), fun cF v ev => hb _ ?_, fun cF => ⟨13, by rw [f03.R rfl]; exact sh.R 0 3 13 (by decide), 15, wf3.2.1.1, by rw [wf3.2.1.2.1]; exact vp_in_nI (by omega) (by omega), fun cB v ev => hb _ ?_, fun cB => ⟨24, by rw [f03.R rfl]; exact sh.R 0 8 24 (by decide), ?_, fun h4 e4 h5 e5 v ev => hb _ ?_⟩⟩⟩⟩
    · rw [id3.2.1.2.1] at c
      exact absurd c (nI_ge ht (by omega))
    · rw [nI_clamp (by omega), wf3.1.2.2 t ht] at cF
      have : stC F B (t + 1) = stC F B t := by
        show (if F t < 0 ∧ B t < 0 then _ else _) = _
        rw [if_neg (fun z => absurd z.1 (i_nlt.mpr cF))]
      exact ⟨by rw [ev]; exact nI_1 t, f3, by rw [this]; exact b3, by rw [this]; exact b4⟩
    · rw [nI_clamp (by omega), wf3.2.1.2.2 t ht] at cB
      have : stC F B (t + 1) = stC F B t := by
        show (if F t < 0 ∧ B t < 0 then _ else _) = _
        rw [if_neg (fun z => absurd z.2 (i_nlt.mpr cB))]
      exact ⟨by rw [ev]; exact nI_1 t, f3, by rw [this]; exact b3, by rw [this]; exact b4⟩
    · rw [b3, f03.L, sh.L 24 (n := 48) (by decide) rfl]; exact vp_in_nI (by omega) (by omega)
    · rw [nI_clamp (by omega), wf3.1.2.2 t ht] at cF
      rw [nI_clamp (by omega), wf3.2.1.2.2 t ht] at cB
      have : stC F B (t + 1) = stC F B t ++ [t] := by
        show (if F t < 0 ∧ B t < 0 then _ else _) = _
        rw [if_pos ⟨i_nle.mp cF, i_nle.mp cB⟩]
      rw [b3, nI_clamp (by omega)] at e4
      refine ⟨by rw [ev]; exact nI_1 t, ?_, ?_, ?_⟩
      · show Fg _ _ h2 h5
        rw [e5, e4]; exact (f3.tr (Fg.cI _ _ _ _) (U := [24]) (V := [(0, 16)]) rfl rfl).tr (Fg.sI _ _ _ _) rfl rfl
      · show qI h5 0 16 = _
        rw [e5, e4, this, List.length_append]; simp only [qI_sI]; simp; rw [b3]; exact nI_1 _
      · show hasL h5 24 _
        rw [this, e5, e4]
        exact hasL_ag (hasL_push b4 rfl) (fun j => by rw [qI_sI, if_neg (by simp)])
  · rintro ⟨t', h3⟩ ⟨b1, f3, b3, b4⟩ back
    dsimp only at b1 f3 b3 b4
    subst b1
    have f03 : Fg [14, 15, 24] [(13, 2), (0, 16)] h h3 := f2.tr f3 rfl rfl
    have id3 := id.ag (f03.ag rfl)
    refine ⟨d, id3.1.1, fun c g0 e0 => isWorld_ok (fun L2 hL2 eL2 => ⟨fun _ => ?_, fun z => absurd z nb⟩) (fun no => absurd rfl (no L hL)), fun c => ?_⟩
    · have k0 : Fg [] [(70, 0)] h3 g0 := by rw [e0]; exact Fg.sI _ _ _ _
      have k00 : Fg [14, 15, 24] [(13, 2), (0, 16), (70, 0)] h g0 := f03.tr k0 rfl rfl
      refine layWorld_ok (id3.2.2.1.ag (k0.ag rfl)) hL (by rw [k00.R rfl]; exact sh.R 70 21 78 (by decide)) (by rw [k00.R rfl]; exact sh.R 70 22 79 (by decide)) (by rw [k00.L]; exact sh.L 78 (by decide) rfl) (by rw [k00.L]; exact sh.L 79 (by decide) rfl) (fun g1 k1 dm dl wm g2 e2' => ?_)
      have k2 : Fg [80] [(70, 36)] g1 g2 := by rw [e2']; exact (Fg.sI _ _ _ _).mono rfl
      have mf1 := wm.mf dm.1
      rw [hF, hB] at mf1
      have mf2 := mf1.ag (k2.ag rfl)
      have k02 : Fg [78, 79, 80] [(70, 0), (70, 20), (72, 0), (70, 36)] h3 g2 := (k0.tr k1 (U := [78, 79, 80]) (V := [(70, 0), (70, 20), (72, 0), (70, 36)]) rfl rfl).tr k2 rfl rfl
      refine loopR N (fun t s => s.1 = nI t ∧ Fg [80] [(70, 36)] g2 s.2 ∧ qI s.2 70 36 = nI (stC F B t).length ∧ hasL s.2 80 (stC F B t)) (fun s => s.1.toNatClampNeg) ⟨rfl, Fg.rf _ _ _, by show qI g2 70 36 = _; rw [e2']; simp only [qI_sI]; simp; rfl, fun j hj => absurd hj (Nat.not_lt_zero j)⟩ (fun t s ht p => by rw [p.1]; exact nI_clamp (by omega)) ?_ ?_
      · rintro t ⟨t', g3⟩ ht ⟨c1, k3, c3, c4⟩ back hb
        dsimp only at c1 k3 c3 c4
        subst c1
        have mf3 := mf2.ag (k3.ag rfl)
        have hl := stC_len F B t
        have hm : (t + N - 1) % N < N := Nat.mod_lt _ (by omega)
        have er : rnd (nI t - 1) (nI N) = nI ((t + N - 1) % N) := rnd_sub (p := 1) ht (by omega) (by omega)
        have s80 : qR g3 70 35 = some 80 := by rw [k3.R rfl, k02.R rfl, f03.R rfl]; exact sh.R 70 35 80 (by decide)
        have l80 : qL g3 80 = 48 := by rw [k3.L, k02.L, f03.L]; exact sh.L 80 (by decide) rfl
        refine ⟨72, mf3.1.1, in08 mf3.1, fun c => ?_, fun c => ⟨78, mf3.2.1.1, by rw [mf3.2.1.2.1]; exact vp_in_nI (by omega) (by omega), fun cF v ev => hb _ ?_, fun cF => ⟨79, mf3.2.2.1, round_ok mf3.1 ?_⟩⟩⟩
        · rw [c0_n, mf3.1.2.2.1] at c
          exact absurd c (nI_ge ht (by omega))
        · rw [nI_clamp (by omega), mf3.2.1.2.2 t ht] at cF
          have : stC F B (t + 1) = stC F B t := by
            show (if F t < 0 ∧ B t < 0 then _ else _) = _
            rw [if_neg (fun z => absurd z.1 (i_nlt.mpr cF))]
          exact ⟨by rw [ev]; exact nI_1 t, k3, by rw [this]; exact c3, by rw [this]; exact c4⟩
        · rw [nI_clamp (by omega), mf3.2.1.2.2 t ht] at cF
          rw [er]
          refine ⟨by rw [mf3.2.2.2.1]; exact vp_in_nI (by omega) (by omega), fun cB => ⟨80, s80, by rw [c3, l80]; exact vp_in_nI (by omega) (by omega), fun g4 e4 g5 e5 v ev => hb _ ?_⟩, fun cB v ev => hb _ ?_⟩
          · rw [nI_clamp (by omega), mf3.2.2.2.2 t ht] at cB
            have : stC F B (t + 1) = stC F B t ++ [t] := by
              show (if F t < 0 ∧ B t < 0 then _ else _) = _
              rw [if_pos ⟨i_nle.mp cF, cB⟩]
            rw [c3, nI_clamp (by omega)] at e4
            refine ⟨by rw [ev]; exact nI_1 t, ?_, ?_, ?_⟩
            · show Fg _ _ g2 g5
              rw [e5, e4]; exact (k3.tr (Fg.cI _ _ _ _) (U := [80]) (V := [(70, 36)]) rfl rfl).tr (Fg.sI _ _ _ _) rfl rfl
            · show qI g5 70 36 = _
              rw [e5, e4, this, List.length_append]; simp only [qI_sI]; simp; rw [c3]; exact nI_1 _
            · show hasL g5 80 _
              rw [this, e5, e4]
              exact hasL_ag (hasL_push c4 rfl) (fun j => by rw [qI_sI, if_neg (by simp)])
          · rw [nI_clamp (by omega), mf3.2.2.2.2 t ht] at cB
            have : stC F B (t + 1) = stC F B t := by
              show (if F t < 0 ∧ B t < 0 then _ else _) = _
              rw [if_neg (fun z => cB z.2)]
            exact ⟨by rw [ev]; exact nI_1 t, k3, by rw [this]; exact c3, by rw [this]; exact c4⟩
      · rintro ⟨t', g3⟩ ⟨c1, k3, c3, c4⟩ back
        dsimp only at c1 k3 c3 c4
        subst c1
        have mf3 := mf2.ag (k3.ag rfl)
        refine ⟨72, mf3.1.1, in08 mf3.1, fun _ => ?_, fun c => ?_⟩
        · have kA : Fg [78, 79, 80] [(70, 0), (70, 20), (72, 0), (70, 36)] h3 g3 := k02.tr k3 rfl rfl
          have kB : Fg [14, 15, 24, 78, 79, 80] [(13, 2), (0, 16), (70, 0), (70, 20), (72, 0), (70, 36)] h g3 := f03.tr kA rfl rfl
          have d9 : DrL g3 N rb n Ds := (dl.ag (k2.ag rfl)).ag (k3.ag rfl)
          have hl := stC_len F B N
          obtain ⟨i0, i1, i2, i3, i4, i5, i6, i7, i8, i9, i10⟩ := i
          refine ⟨by rw [b3, c3], ⟨i0.fg kB rfl, i1.ag (kB.ag rfl), ⟨N, rb, n, Ds, d, e, id.re (kB.ag rfl) d9⟩, i3.ag (kB.ag rfl), ⟨(stC F B N).length, by omega, by rw [kA.I rfl]; exact b3, c3, fun j hj => ?_⟩, i5.ag (kB.ag rfl), i6.ag (kB.ag rfl), i7.fg kB rfl, i8.ag (kB.ag rfl), i9.ag (kB.ag rfl), i10.ag (kB.ag rfl)⟩, kB.rm⟩
          rw [(kA.ag (C := [24]) (G := []) rfl).I rfl, b4 j hj]
          exact (c4 j hj).symm
        · rw [c0_n, mf3.1.2.2.1] at c
          exact absurd (nI_le (Nat.le_refl N) (by omega)) c
    · rw [id3.2.1.2.1] at c
      exact absurd (nI_le (Nat.le_refl N) (by omega)) c

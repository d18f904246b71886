/-! ===== PURE: the calls: end, fault, stand, answerAt, hiddenAt, lookSet, ran ===== -/
theorem qmin_n {a b : Nat} (ha : a < 2 ^ 31) (hb : b < 2 ^ 31) : qmin (nI a) (nI b) = nI (min a b) := by
  unfold qmin
  by_cases z : b < a
  · rw [if_pos ((nI_ltI hb ha).mpr z), Nat.min_eq_right (by omega)]
  · rw [if_neg (fun y => z ((nI_ltI hb ha).mp y)), Nat.min_eq_left (by omega)]
theorem qmax_n {a b : Nat} (ha : a < 2 ^ 31) (hb : b < 2 ^ 31) : qmax (nI a) (nI b) = nI (max a b) := by
  unfold qmax
  by_cases z : a < b
  · rw [if_pos ((nI_ltI ha hb).mpr z), Nat.max_eq_right (by omega)]
  · rw [if_neg (fun y => z ((nI_ltI ha hb).mp y)), Nat.max_eq_left (by omega)]
theorem op_end {h : PH} (i : Inv h) (n : Int32) : wp_X11_end 0 n h (fun r h1 => wp_X12_end 70 n h1 (Both h r)) := by
  obtain ⟨len, a, b, c, d⟩ := i.2.1
  have sh := i.1
  refine ⟨fun c1 h1 e1 => ⟨fun _ => ⟨rfl, by rw [e1]; exact i.thr 0, by rw [e1]; exact (Fg.sI _ _ _ _).rm⟩, fun z => absurd c1 z⟩, fun c1 => ⟨1, sh.R 0 0 1 (by decide), fun c2 => ⟨1, sh.R 0 0 1 (by decide), fun h1 e1 h2 e2 => ⟨fun z => absurd z c1, fun _ => ⟨fun _ h3 e3 => ?_, fun z => ?_⟩⟩⟩, fun c2 h2 e2 => ⟨fun z => absurd z c1, fun _ => ⟨fun z => ?_, fun z => ⟨rfl, by rw [e2]; exact i.thr 0, by rw [e2]; exact (Fg.sI _ _ _ _).rm⟩⟩⟩⟩⟩
  · have f3 : Fg [] [(1, 1), (70, 0), (70, 2)] h h3 := by
      rw [e3, e2, e1]
      exact ((Fg.sI _ _ _ _).tr (Fg.sI _ _ _ _) (U := []) (V := [(1, 1), (70, 0), (70, 2)]) rfl rfl).tr (Fg.sI _ _ _ _) rfl rfl
    obtain ⟨i0, i1, i2, i3, i4, i5, i6, i7, i8, i9, i10⟩ := i
    obtain ⟨m, hm, em⟩ := nI_of c1
    have hml : m ≤ len := by
      rw [b, em] at c2
      exact (nI_leI hm (by omega)).mp c2
    refine ⟨rfl, ⟨i0.fg f3 rfl, ⟨m, by omega, ?_, ?_, fun j hj => by rw [(f3.ag (C := [2, 71]) (G := []) rfl).I rfl, (f3.ag (C := [2, 71]) (G := []) rfl).I rfl]; exact d j hj⟩, i2.ag (f3.ag rfl), i3.ag (f3.ag rfl), i4.ag (f3.ag rfl), i5.ag (f3.ag rfl), i6.ag (f3.ag rfl), i7.fg f3 rfl, i8.ag (f3.ag rfl), i9.ag (f3.ag rfl), i10.ag (f3.ag rfl)⟩, f3.rm⟩
    · rw [e3, e2, e1]; simp only [qI_sI]; simp; exact em
    · rw [e3, e2, e1]; simp only [qI_sI]; simp; exact em
  · refine absurd ?_ z
    rw [e2, e1]; simp only [qI_sI]; simp
    rw [c, ← b]; exact c2
  · refine absurd ?_ c2
    rw [e2] at z; simp only [qI_sI] at z; simp at z
    rw [c] at z
    rw [b]; exact z
theorem op_fault {h : PH} (i : Inv h) : wp_X11_fault 0 h (fun r h1 => wp_X12_fault 70 h1 (Both h r)) := by
  refine ⟨3, i.1.R 0 1 3 (by decide), fun h1 e1 => ⟨?_, by rw [e1]; exact i.thr 0, by rw [e1]; exact (Fg.sI _ _ _ _).rm⟩⟩
  rw [e1]; simp only [qI_sI]; simp
  exact i.2.2.2.2.2.2.2.2.2.2
theorem op_lookSet {h : PH} (i : Inv h) : wp_X11_lookSet 0 h (fun r h1 => wp_X12_lookSet 70 h1 (Both h r)) := by
  refine ⟨18, i.1.R 0 6 18 (by decide), fun h1 e1 => ⟨?_, by rw [e1]; exact i.thr 0, by rw [e1]; exact (Fg.sI _ _ _ _).rm⟩⟩
  rw [e1]; simp only [qI_sI]; simp
  exact i.2.2.2.2.2.2.1.2.2.2
theorem op_stand {h : PH} (i : Inv h) (k : Int32) : wp_X11_stand 0 k h (fun r h1 => wp_X12_stand 70 k h1 (Both h r)) := by
  obtain ⟨c, a, b, d, e⟩ := i.2.2.2.2.1
  have done : ∀ r : Int32, ∀ h1, h1 = qsI h 70 0 0 → Both h r r h1 := fun r h1 e1 => ⟨rfl, by rw [e1]; exact i.thr 0, by rw [e1]; exact (Fg.sI _ _ _ _).rm⟩
  have j36 : ∀ h1, h1 = qsI h 70 0 0 → qI h1 70 36 = nI c := fun h1 e1 => by rw [e1]; simp only [qI_sI]; simp; exact d
  refine ⟨fun c1 h1 e1 => ⟨fun _ => done _ h1 e1, fun z => absurd c1 z⟩, fun c1 => ⟨fun c2 h1 e1 => ⟨fun _ => done _ h1 e1, fun _ => ⟨fun _ => done _ h1 e1, fun z => ?_⟩⟩, fun c2 => ⟨24, i.1.R 0 8 24 (by decide), ?_, fun h1 e1 => ⟨fun z => absurd z c1, fun _ => ⟨fun z => ?_, fun _ => ⟨80, by rw [e1]; exact i.1.R 70 35 80 (by decide), ?_, ?_, by rw [e1]; exact i.thr 0, by rw [e1]; exact (Fg.sI _ _ _ _).rm⟩⟩⟩⟩⟩⟩
  · exact absurd (by rw [j36 h1 e1]; rw [b] at c2; exact c2) z
  · obtain ⟨m, hm, em⟩ := nI_of c1
    rw [b, em] at c2
    have : m < c := by
      rcases Nat.lt_or_ge m c with z | z
      · exact z
      · exact absurd (nI_le z hm) c2
    rw [em, i.1.L 24 (n := 48) (by decide) rfl]; exact vp_in_nI (by omega) (by omega)
  · exact absurd (by rw [b]; rw [j36 h1 e1] at z; exact z) c2
  · obtain ⟨m, hm, em⟩ := nI_of c1
    rw [b, em] at c2
    have : m < c := by
      rcases Nat.lt_or_ge m c with z | z
      · exact z
      · exact absurd (nI_le z hm) c2
    rw [em, show qL h1 80 = 48 by rw [e1]; exact i.1.L 80 (by decide) rfl]; exact vp_in_nI (by omega) (by omega)
  · obtain ⟨m, hm, em⟩ := nI_of c1
    rw [b, em] at c2
    have : m < c := by
      rcases Nat.lt_or_ge m c with z | z
      · exact z
      · exact absurd (nI_le z hm) c2
    rw [em, nI_clamp hm, e m this, e1]; simp only [qI_sI]; simp
theorem op_answerAt {h : PH} (i : Inv h) (k : Int32) : wp_X11_answerAt 0 k h (fun r h1 => wp_X12_answerAt 70 k h1 (Both h r)) := by
  obtain ⟨c, a, b, d, e⟩ := i.2.2.2.2.2.2.2.2.2.1
  have done : ∀ r : Int32, ∀ h1, h1 = qsI h 70 0 0 → Both h r r h1 := fun r h1 e1 => ⟨rfl, by rw [e1]; exact i.thr 0, by rw [e1]; exact (Fg.sI _ _ _ _).rm⟩
  have j36 : ∀ h1, h1 = qsI h 70 0 0 → qI h1 70 61 = nI c := fun h1 e1 => by rw [e1]; simp only [qI_sI]; simp; exact d
  refine ⟨fun c1 h1 e1 => ⟨fun _ => done _ h1 e1, fun z => absurd c1 z⟩, fun c1 => ⟨fun c2 h1 e1 => ⟨fun _ => done _ h1 e1, fun _ => ⟨fun _ => done _ h1 e1, fun z => ?_⟩⟩, fun c2 => ⟨25, i.1.R 0 9 25 (by decide), ?_, fun h1 e1 => ⟨fun z => absurd z c1, fun _ => ⟨fun z => ?_, fun _ => ⟨91, by rw [e1]; exact i.1.R 70 60 91 (by decide), ?_, ?_, by rw [e1]; exact i.thr 0, by rw [e1]; exact (Fg.sI _ _ _ _).rm⟩⟩⟩⟩⟩⟩
  · exact absurd (by rw [j36 h1 e1]; rw [b] at c2; exact c2) z
  · obtain ⟨m, hm, em⟩ := nI_of c1
    rw [b, em] at c2
    have : m < c := by
      rcases Nat.lt_or_ge m c with z | z
      · exact z
      · exact absurd (nI_le z hm) c2
    rw [em, i.1.L 25 (n := 10) (by decide) rfl]; exact vp_in_nI (by omega) (by omega)
  · exact absurd (by rw [b]; rw [j36 h1 e1] at z; exact z) c2
  · obtain ⟨m, hm, em⟩ := nI_of c1
    rw [b, em] at c2
    have : m < c := by
      rcases Nat.lt_or_ge m c with z | z
      · exact z
      · exact absurd (nI_le z hm) c2
    rw [em, show qL h1 91 = 10 by rw [e1]; exact i.1.L 91 (by decide) rfl]; exact vp_in_nI (by omega) (by omega)
  · obtain ⟨m, hm, em⟩ := nI_of c1
    rw [b, em] at c2
    have : m < c := by
      rcases Nat.lt_or_ge m c with z | z
      · exact z
      · exact absurd (nI_le z hm) c2
    rw [em, nI_clamp hm, e m this, e1]; simp only [qI_sI]; simp
theorem op_ran {h : PH} (i : Inv h) (k : Int32) : wp_X11_ran 0 k h (fun r h1 => wp_X12_ran 70 k h1 (Both h r)) := by
  obtain ⟨a, b⟩ := i.2.2.2.1
  have done : ∀ r r2 : Int32, r = r2 → ∀ h1, h1 = qsI h 70 0 0 → Both h r r2 h1 := fun r r2 e h1 e1 => ⟨e, by rw [e1]; exact i.thr 0, by rw [e1]; exact (Fg.sI _ _ _ _).rm⟩
  have jj : ∀ h1, h1 = qsI h 70 0 0 → ∀ x, x ≠ 0 → qI h1 70 x = qI h 70 x := fun h1 e1 x hx => by rw [e1, qI_sI, if_neg (fun z => hx z.2)]
  have r4 : qR h 0 4 = some 16 := i.1.R 0 4 16 (by decide)
  refine ⟨16, r4, fun c1 => ?_, fun c1 h1 e1 => ?_⟩
  · have c33 : ¬ qI h 70 33 = 0 := fun z => c1 (a.mpr z)
    obtain ⟨b1, b2, b3, b4, b5⟩ := b c33
    have n33 : ∀ h1, h1 = qsI h 70 0 0 → ¬ qI h1 70 33 = 0 := fun h1 e1 => by rw [jj h1 e1 33 (by decide)]; exact c33
    refine ⟨fun k0 => ⟨16, r4, fun h1 e1 => ⟨fun _ => ⟨fun _ => done _ _ (by rw [jj h1 e1 29 (by decide)]; exact b1) h1 e1, ?_, ?_, ?_, ?_, ?_⟩, fun z => absurd z (n33 h1 e1)⟩⟩, fun k0 => ⟨16, r4, fun h1 e1 => ⟨fun _ => ⟨?_, fun _ => done _ _ (by rw [jj h1 e1 30 (by decide)]; exact b2) h1 e1, ?_, ?_, ?_, ?_⟩, fun z => absurd z (n33 h1 e1)⟩⟩, fun k0 => ⟨16, r4, fun h1 e1 => ⟨fun _ => ⟨?_, ?_, fun _ => done _ _ (by rw [jj h1 e1 31 (by decide)]; exact b3) h1 e1, ?_, ?_, ?_⟩, fun z => absurd z (n33 h1 e1)⟩⟩, fun k0 => ⟨16, r4, fun h1 e1 => ⟨fun _ => ⟨?_, ?_, ?_, fun _ => done _ _ (by rw [jj h1 e1 32 (by decide)]; exact b4) h1 e1, ?_, ?_⟩, fun z => absurd z (n33 h1 e1)⟩⟩, fun k0 => ⟨16, r4, fun cz h1 e1 => ⟨fun _ => ⟨?_, ?_, ?_, ?_, fun _ => ⟨fun y => done _ _ rfl h1 e1, fun y => absurd (by rw [jj h1 e1 34 (by decide), ← b5]; exact cz) y⟩, ?_⟩, fun z => absurd z (n33 h1 e1)⟩, fun cz h1 e1 => ⟨fun _ => ⟨?_, ?_, ?_, ?_, fun _ => ⟨fun y => absurd (by rw [b5, ← jj h1 e1 34 (by decide)]; exact y) cz, fun y => done _ _ rfl h1 e1⟩, ?_⟩, fun z => absurd z (n33 h1 e1)⟩⟩, fun k0 k1 k2 k3 k4 h1 e1 => ⟨fun _ => ⟨fun z => absurd z k0, fun z => absurd z k1, fun z => absurd z k2, fun z => absurd z k3, fun z => absurd z k4, fun _ _ _ _ _ => done _ _ rfl h1 e1⟩, fun z => absurd z (n33 h1 e1)⟩⟩
    all_goals (subst k0; first | (intro z; exact absurd z (by decide)) | (intro z0 z1; first | exact absurd rfl z0 | (intro z2; first | exact absurd rfl z1 | exact absurd rfl z2 | (intro z3; first | exact absurd rfl z3 | (intro z4; exact absurd rfl z4)))))
  · exact ⟨fun z => absurd (by rw [jj h1 e1 33 (by decide)]; exact a.mp c1) z, fun _ => done _ _ rfl h1 e1⟩
theorem op_hiddenAt {h : PH} (i : Inv h) (k w : Int32) : wp_X11_hiddenAt 0 k w h (fun r h1 => wp_X12_hiddenAt 70 k w h1 (Both h r)) := by
  obtain ⟨T, a, b, c, d⟩ := i.2.2.2.2.2.2.1.1
  have done : ∀ r r2 : Int32, r = r2 → ∀ h1, h1 = qsI h 70 0 0 → Both h r r2 h1 := fun r r2 e h1 e1 => ⟨e, by rw [e1]; exact i.thr 0, by rw [e1]; exact (Fg.sI _ _ _ _).rm⟩
  have jj : ∀ h1, h1 = qsI h 70 0 0 → qI h1 70 52 = nI (min T 200) := fun h1 e1 => by rw [e1, qI_sI, if_neg (by decide)]; exact c
  have mn : qmin (nI T) 200 = nI (min T 200) := qmin_n (b := 200) (by omega) (by decide)
  refine ⟨fun c1 h1 e1 => ⟨fun _ => done _ _ rfl h1 e1, fun z => absurd c1 z⟩, fun c1 => ⟨18, i.1.R 0 6 18 (by decide), min_ok ?_⟩⟩
  rw [b, mn]
  obtain ⟨m, hm, em⟩ := nI_of c1
  refine ⟨fun c2 => ?_, fun c2 h1 e1 => ⟨fun z => absurd z c1, fun _ => ⟨fun z => absurd (by rw [jj h1 e1] at z; exact z) c2, fun _ => done _ _ rfl h1 e1⟩⟩⟩
  have hm2 : m < min T 200 := by rw [em] at c2; exact (nI_ltI hm (by omega)).mp c2
  have cc : ∀ h1, h1 = qsI h 70 0 0 → k < qI h1 70 52 := fun h1 e1 => by rw [jj h1 e1]; exact c2
  obtain ⟨d1, d2⟩ := d m (by omega) (by omega)
  have rr : ∀ h1, h1 = qsI h 70 0 0 → ∀ x y, x ≠ 70 → qI h1 x y = qI h x y := fun h1 e1 x y hx => by rw [e1, qI_sI, if_neg (fun z => hx z.1)]
  refine ⟨fun w0 => ⟨18, i.1.R 0 6 18 (by decide), 20, i.1.R 18 1 20 (by decide), by rw [i.1.L 20 (n := 200) (by decide) rfl, em]; exact vp_in_nI (by omega) (by omega), fun h1 e1 => ⟨fun z => absurd z c1, fun _ => ⟨fun _ => ⟨fun z => absurd w0 z, fun _ => ⟨86, by rw [e1]; exact i.1.R 70 49 86 (by decide), by rw [show qL h1 86 = 200 by rw [e1]; exact i.1.L 86 (by decide) rfl, em]; exact vp_in_nI (by omega) (by omega), done _ _ ?_ h1 e1⟩⟩, fun z => absurd (cc h1 e1) z⟩⟩⟩, fun w1 => ⟨18, i.1.R 0 6 18 (by decide), 21, i.1.R 18 2 21 (by decide), by rw [i.1.L 21 (n := 200) (by decide) rfl, em]; exact vp_in_nI (by omega) (by omega), fun h1 e1 => ⟨fun z => absurd z c1, fun _ => ⟨fun _ => ⟨fun _ => ⟨fun z => absurd w1 z, fun _ => ⟨87, by rw [e1]; exact i.1.R 70 50 87 (by decide), by rw [show qL h1 87 = 200 by rw [e1]; exact i.1.L 87 (by decide) rfl, em]; exact vp_in_nI (by omega) (by omega), done _ _ ?_ h1 e1⟩⟩, fun z => by rw [w1] at z; exact absurd z (by decide)⟩, fun z => absurd (cc h1 e1) z⟩⟩⟩, fun w0 w1 h1 e1 => ⟨fun z => absurd z c1, fun _ => ⟨fun _ => ⟨fun _ => ⟨fun _ => done _ _ rfl h1 e1, fun z => absurd z w1⟩, fun z => absurd z w0⟩, fun z => absurd (cc h1 e1) z⟩⟩⟩
  · rw [rr h1 e1 86 _ (by decide), em, nI_clamp hm]; exact d1
  · rw [rr h1 e1 87 _ (by decide), em, nI_clamp hm]; exact d2

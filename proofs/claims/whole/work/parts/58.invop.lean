/-! ===== PURE: the call inventor ===== -/
theorem m_ans (a : Nat) : (-1 : Int32) - nI a = -1 - nI a := rfl
def txF : List (Nat × Nat) := [(1, 1), (3, 3), (3, 4), (3, 5), (3, 6)]
/-- the model's text, from the tape -/
theorem mtext {h h1 g : PH} {b : Nat → Nat} {sz lim m : Nat} {tk : Nat → TK} (sh : Shp h) (x : Tx b sz lim m tk) (v2 : qI h 70 2 = nI sz) (v71 : ∀ j, j < 640 → qI h 71 j = nI (b j)) (f : Ag [71] [(70, 1), (70, 2)] h h1) (e3 : qI g 70 3 = nI sz) (e4 : qI g 70 4 = nI lim) (fg : Ag [71] [(70, 1)] h1 g) : MX g b sz lim := by
  refine ⟨e3, e4, by rw [fg.r rfl, f.r rfl]; exact sh.R 70 1 71 (by decide), by rw [fg.L rfl, f.L rfl]; exact sh.L 71 (by decide) rfl, fun j hj => ⟨by rw [fg.I rfl, f.I rfl]; exact v71 j hj, x.2.2.2 j hj⟩⟩
theorem op_inventor {h : PH} (i : Inv h) : wp_X11_inventor 0 h (fun r h1 => wp_X12_inventor 70 h1 (Both h r)) := by
  obtain ⟨N, rb, n, Ds, d, e, id⟩ := i.2.2.1
  have sh := i.1
  obtain ⟨c, c2, ⟨c14, c15, cc⟩, iv⟩ := i.2.2.2.2.2.2.2.2.1
  have hc : c2 = 64 ∨ c2 = 67 := by omega
  refine cutT_ok (lim := 600) i (Nat.le_refl _) (fun h1 b sz m tk x hm f1 t1 tl z6 z1 v2 v71 => ?_)
  have s1 := sh.fg f1 rfl
  refine ⟨c2, by rw [f1.R rfl]; exact c15, 3, s1.R 0 1 3 (by decide), ?_⟩
  have r0 : qR h1 c2 0 = some (c2 + 1) := by
    rcases hc with z | z <;> subst z
    · exact s1.R 64 0 65 (by decide)
    · exact s1.R 67 0 68 (by decide)
  have l70 : qL h1 (c2 + 1) = 70 := by
    rcases hc with z | z <;> subst z
    · exact s1.L 65 (by decide) rfl
    · exact s1.L 68 (by decide) rfl
  -- the class's other inventor, the one that stays
  have keepC : ∀ {g : PH}, Fg [4, 5, 6, c2 + 1] ([(1, 1), (3, 3), (3, 5), (c2, 2), (0, 14), (0, 15), (3, 4), (3, 6)]) h g → ∀ j, qI g (c + 1) j = qI h (c + 1) j := fun f j => (f.2 (c + 1) (by simp; omega) j (by simp; omega)).1
  -- the model, from where the class has answered
  have mod : ∀ (h9 : PH) (r : Int32), Fg [4, 5, 6, 65, 68] [(1, 1), (3, 3), (3, 4), (3, 5), (3, 6), (64, 2), (67, 2), (0, 14), (0, 15)] h h9 → qI h9 1 1 = 0 →
      (∀ l L, IO (plI tk) 0 (fun _ => -1) m (600 < sz) (.inr (l, L)) → r = nI l ∧ qI h9 3 6 = 0 ∧ qR h9 0 14 = some c2 ∧ qR h9 0 15 = some c ∧ ∀ j, j < 70 → qI h9 (c2 + 1) j = L j) →
      (∀ f j, IO (plI tk) 0 (fun _ => -1) m (600 < sz) (.inl (f, j)) → r = -1 - nI (stT (tk j)) ∧ qI h9 3 6 = nI f ∧ qR h9 0 14 = some c ∧ qR h9 0 15 = some c2 ∧ ∀ j, j < 70 → qI h9 (c + 1) j = qI h (c + 1) j) → wp_X12_inventor 70 h9 (Both h r) := by
    intro h9 r f9 z9 a1 a0 g0 e0 v1 ev1 g1 e1 g2 e2 g3 e3 g4 e4
    have ag9 : Ag [71, 89] [(70, 1), (70, 2), (70, 57), (70, 58)] h h9 := f9.ag rfl
    have ev : v1 = nI sz := by rw [ev1, e0, rI_sI, if_pos rfl, up_ne _ _ (by decide), ag9.i rfl]; exact v2
    have k4 : Fg [] [(70, 0), (70, 2), (70, 3), (70, 4), (70, 10)] h9 g4 := by
      rw [e4, e3, e2, e1, e0]
      exact ((((Fg.sI _ _ _ _).tr (Fg.sI _ _ _ _) (U := []) (V := [(70, 0), (70, 2), (70, 3), (70, 4), (70, 10)]) rfl rfl).tr (Fg.sI _ _ _ _) (U := []) (V := [(70, 0), (70, 2), (70, 3), (70, 4), (70, 10)]) rfl rfl).tr (Fg.sI _ _ _ _) (U := []) (V := [(70, 0), (70, 2), (70, 3), (70, 4), (70, 10)]) rfl rfl).tr (Fg.sI _ _ _ _) rfl rfl
    have w3 : qI g4 70 3 = nI sz := by rw [e4, e3, e2]; simp only [qI_sI]; simp; exact ev
    have w4 : qI g4 70 4 = nI 600 := by rw [e4, e3]; simp only [qI_sI]; simp; rfl
    have w10 : qI g4 70 10 = 0 := by rw [e4]; simp only [qI_sI]; simp
    have w2 : qI g4 70 2 = 0 := by rw [e4, e3, e2, e1]; simp only [qI_sI]; simp
    have s9 := sh.fg f9 rfl
    have s4 := s9.fg k4 rfl
    refine invent_ok (b := 70) s4 (Or.inr rfl) (fun g5 k5 v5 g6 e6 => ?_)
    have k6 : Fg [89] [(70, 5)] g4 g6 := by rw [e6]; exact k5.tr (Fg.sI _ _ _ _) rfl rfl
    have k46 : Fg [89] [(70, 0), (70, 2), (70, 3), (70, 4), (70, 10), (70, 5)] h9 g6 := k4.tr k6 rfl rfl
    have mx : MX g6 b sz 600 := mtext sh x v2 v71 (ag9.sub rfl rfl) (by rw [k6.I rfl]; exact w3) (by rw [k6.I rfl]; exact w4) (k46.ag rfl)
    refine go0_ok x mx (by rw [e6, rI_sI, if_pos rfl, up_eq]) (fun g7 k7 s7 => ?_)
    have k67 : Fg [89] [(70, 0), (70, 2), (70, 3), (70, 4), (70, 5), (70, 6), (70, 7), (70, 8), (70, 9), (70, 12), (70, 10)] h9 g7 := k46.tr k7 rfl rfl
    have lo89 : ∀ j, j < 70 → qI g7 89 j = qI h 89 j := fun j hj => by
      rw [(k7.ag (C := [89]) (G := []) rfl).I rfl, e6, rI_ne _ _ _ (by decide), v5, if_neg (by omega), (k4.ag (C := [89]) (G := []) rfl).I rfl, ag9.I rfl]
    have ml : ML g7 (fun _ => -1) := fun j hj => by
      rw [(k7.ag (C := [89]) (G := []) rfl).I rfl, e6, rI_ne _ _ _ (by decide), v5, if_pos (by omega)]
    have t10 : qI g7 70 10 = 0 := by rw [k7.I rfl, k6.I rfl]; exact w10
    -- what is left behind
    have fin : ∀ (g8 : PH) (S : List Nat) (F : List (Nat × Nat)) (r2 : Int32), Fg S F g7 g8 → fsub S F [89] ((70, 58) :: (70, 10) :: (70, 11) :: gF) = true → r = r2 → IInv g8 → IFault g8 → Both h r r2 g8 := by
      intro g8 S F r2 k8 cs er iinv ifl
      have k78 : Fg [89] ([(70, 0), (70, 2), (70, 3), (70, 4), (70, 5), (70, 6), (70, 7), (70, 8), (70, 9), (70, 12), (70, 10), (70, 11), (70, 13), (70, 58)]) h9 g8 := by
        have k8' : Fg [89] ((70, 58) :: (70, 10) :: (70, 11) :: gF) g7 g8 := k8.mono cs
        exact k67.tr k8' rfl rfl
      have kA : Fg [4, 5, 6, 65, 68, 89] ([(1, 1), (3, 3), (3, 4), (3, 5), (3, 6), (64, 2), (67, 2), (0, 14), (0, 15), (70, 0), (70, 2), (70, 3), (70, 4), (70, 5), (70, 6), (70, 7), (70, 8), (70, 9), (70, 12), (70, 10), (70, 11), (70, 13), (70, 58)]) h g8 := f9.tr k78 rfl rfl
      have b2 : qI g8 70 2 = 0 := by
        have k8' : Fg [89] ((70, 58) :: (70, 10) :: (70, 11) :: gF) g7 g8 := k8.mono cs
        rw [k8'.I rfl, k7.I rfl, k6.I rfl]; exact w2
      have b1 : qI g8 1 1 = 0 := by rw [k78.I rfl]; exact z9
      obtain ⟨i0, ⟨len, t1', t2', t3', t4'⟩, i2, i3, i4, i5, i6, i7, i8, i9, i10⟩ := i
      refine ⟨er, ⟨i0.fg kA rfl, ⟨0, by omega, b1, b2, fun j hj => ?_⟩, ⟨N, rb, n, Ds, d, e, id.ag (kA.ag rfl)⟩, i3.ag (kA.ag rfl), i4.ag (kA.ag rfl), i5.ag (kA.ag rfl), i6.ag (kA.ag rfl), i7.fg kA rfl, iinv, i9.ag (kA.ag rfl), ifl⟩, kA.rm⟩
      rw [(kA.ag (C := [2, 71]) (G := []) rfl).I rfl, (kA.ag (C := [2, 71]) (G := []) rfl).I rfl]; exact t4' j hj
    refine mInv_ok (s9.fg k67 rfl) x s7 t10 ml (fun g8 l L io k8 l89 v58 => ?_) (fun g8 f j io k8 x10 x11 l89 => ?_)
    · obtain ⟨er, e36, q14, q15, lL⟩ := a1 l L io
      have k79 : Fg [89] [(70, 0), (70, 2), (70, 3), (70, 4), (70, 5), (70, 6), (70, 7), (70, 8), (70, 9), (70, 12), (70, 10), (70, 13), (70, 58)] h9 g8 := k67.tr k8 rfl rfl
      have hL : ∀ j, isLd (L j) := by
        obtain ⟨l', ⟨d', it, o⟩ | ⟨_, _, _, _, _, _, o⟩⟩ := io
        · rcases o with ⟨_, o⟩ | ⟨_, o⟩
          · cases o
          · cases o; exact itr_ld it
        · cases o
      refine fin g8 _ _ _ k8 rfl er ⟨c2, c, ⟨by rw [k79.R rfl]; exact q14, by rw [k79.R rfl]; exact q15, by omega⟩, fun j hj => ?_⟩ ?_
      · have ec : qI g8 (c2 + 1) j = L j := by
          rw [← lL j hj]
          rcases hc with z | z <;> (subst z; exact (k79.ag (C := [65, 68]) (G := []) rfl).I rfl j)
        rw [ec, v58, l89 j hj]
        exact ⟨hL j, fun z => absurd z (by decide), fun _ => rfl⟩
      · show qI g8 3 6 = qI g8 70 10
        rw [k79.I rfl, e36, k8.I rfl, t10]
    · obtain ⟨er, e36, q14, q15, lL⟩ := a0 f j io
      have k79 : Fg [89] [(70, 0), (70, 2), (70, 3), (70, 4), (70, 5), (70, 6), (70, 7), (70, 8), (70, 9), (70, 12), (70, 10), (70, 11), (70, 13)] h9 g8 := k67.tr k8 rfl rfl
      refine fin g8 _ _ _ k8 rfl er ⟨c, c2, ⟨by rw [k79.R rfl]; exact q14, by rw [k79.R rfl]; exact q15, cc⟩, fun j hj => ?_⟩ ?_
      · have ec : qI g8 (c + 1) j = qI h (c + 1) j := by
          rw [← lL j hj]
          have hc' : c = 64 ∨ c = 67 := by omega
          rcases hc' with z | z <;> (subst z; exact (k79.ag (C := [65, 68]) (G := []) rfl).I rfl j)
        have e58 : qI g8 70 58 = qI h 70 58 := by rw [k79.I rfl, ag9.i rfl]
        rw [ec, e58, l89 j hj, lo89 j hj]
        exact iv j hj
      · show qI g8 3 6 = qI g8 70 10
        rw [k79.I rfl, e36, x10]
  refine cInv_ok hc x hm t1 tl z6 r0 l70 (fun h2 l L io l6 f2 v2' w6 oth => ⟨fun _ => ?_, fun z => absurd z (by decide)⟩) (fun h2 f j io jm f2 t2 w6 oth => ⟨fun z => absurd rfl z, fun _ => ⟨3, ?_, fansC_ok x t2 ?_⟩⟩)
  · have f12 : Fg [4, 5, 6, 65, 68] [(1, 1), (3, 3), (3, 4), (3, 5), (3, 6), (64, 2), (67, 2)] h h2 := f1.tr f2 rfl rfl
    refine ⟨c2, by rw [f12.R rfl]; exact c15, c, by rw [f12.R rfl]; exact c14, fun h3 e3 h4 e4 => ⟨c2, ?_, ?_⟩⟩
    · rw [e4, rR_sR, if_pos rfl]; simp [va_up]
    · have f4 : Fg [] [(0, 14), (0, 15)] h2 h4 := by rw [e4, e3]; exact (Fg.sR _ _ _ _).tr (Fg.sR _ _ _ _) rfl rfl
      have q14 : qR h4 0 14 = some c2 := by rw [e4, rR_sR, if_pos rfl]; simp [va_up]
      have q15 : qR h4 0 15 = some c := by
        rw [e4, rR_sR, if_pos rfl, show va_up (qR h3 0) 14 (some c2) 15 = qR h3 0 15 by simp [va_up], e3, rR_sR, if_pos rfl]; simp [va_up]
      have hv : qI h4 c2 2 = nI l := by rw [e4, e3]; exact v2'.2.2.1
      rw [hv]
      refine mod h4 (nI l) (f12.tr f4 rfl rfl) (by rw [f4.I rfl, f2.I rfl]; exact z1) (fun l' L' io' => ?_) (fun f j io' => ?_)
      · have := IO_uniq (plI_m x) io io'
        cases this
        exact ⟨rfl, by rw [f4.I rfl]; exact w6, q14, q15, fun j hj => by rw [e4, e3]; exact v2'.2.2.2 j hj⟩
      · have := IO_uniq (plI_m x) io io'
        cases this
  · have f12 : Fg [4, 5, 6, 65, 68] [(1, 1), (3, 3), (3, 4), (3, 5), (3, 6), (64, 2), (67, 2)] h h2 := f1.tr f2 rfl rfl
    rw [f12.R rfl]; exact sh.R 0 1 3 (by decide)
  · have f12 : Fg [4, 5, 6, 65, 68] [(1, 1), (3, 3), (3, 4), (3, 5), (3, 6), (64, 2), (67, 2)] h h2 := f1.tr f2 rfl rfl
    refine mod h2 _ (f12.mono rfl) (by rw [f2.I rfl]; exact z1) (fun l' L' io' => ?_) (fun f' j' io' => ?_)
    · have := IO_uniq (plI_m x) io io'
      cases this
    · have := IO_uniq (plI_m x) io io'
      cases this
      refine ⟨rfl, w6, by rw [f12.R rfl]; exact c14, by rw [f12.R rfl]; exact c15, fun k hk => ?_⟩
      rw [show c + 1 = 132 - c2 by omega, oth, (f1.2 (132 - c2) (by simp; omega) k (by simp; omega)).1]

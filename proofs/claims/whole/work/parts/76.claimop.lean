/-! ===== PURE: the call claim ===== -/
def yS : List Nat := [55, 56, 57, 60, 61, 62]
def yF : List (Nat × Nat) := [(54, 4), (54, 5), (54, 6), (59, 4), (59, 5), (59, 6), (3, 4), (3, 6)]
theorem YFr.fg {e : Nat} {h h1 : PH} (f : YFr e h h1) (he : e = 54 ∨ e = 59) : Fg yS yF h h1 := by
  obtain ⟨h0, v, e0, f⟩ := f
  refine ⟨⟨by rw [f.1.1, e0]; rfl, by rw [f.1.2.1, e0]; rfl, by rw [f.1.2.2.1, e0]; rfl, by rw [f.1.2.2.2, e0]; rfl⟩, fun a ha j hj => ?_⟩
  have n : ¬ (a = 3 ∧ (j = 4 ∨ j = 6)) := fun z => hj (by
    rcases z with ⟨z1, z2 | z2⟩ <;> (rw [z1, z2]; decide))
  have q := f.2 a j n
  have hj' : ¬ (a = e ∧ (j = 4 ∨ j = 5 ∨ j = 6)) := fun z => hj (by
    obtain ⟨z1, z2⟩ := z
    rcases he with y | y <;> rcases z2 with w | w | w <;> (rw [z1, y, w]; decide))
  refine ⟨?_, by rw [q.2.1, e0]; rfl, by rw [q.2.2, e0]; rfl⟩
  rw [q.1 ?_, e0, qI_sI, if_neg (fun z => hj' ⟨z.1, Or.inl z.2⟩)]
  simp [yS] at ha
  omega
def c9F : List (Nat × Nat) := [(1, 1), (3, 3), (3, 5), (0, 12), (0, 13)] ++ yF
def c9S : List Nat := [4, 5, 6] ++ yS
theorem op_claim {h : PH} (i : Inv h) : wp_X11_claim 0 h (fun r h1 => wp_X12_claim 70 h1 (Both h r)) := by
  obtain ⟨N, rb, n, Ds, dd, ee, id⟩ := i.2.2.1
  obtain ⟨c, e, kd0, ⟨t12, t13, tt⟩, k4, k44, kl, kr0⟩ := i.2.2.2.2.2.1
  have kr := fun _ : Unit => kr0
  clear kr0
  have sh := i.1
  have he : e = 54 ∨ e = 59 := by omega
  refine cutT_ok (lim := 200) i (by decide) (fun h1 b sz m tk x hm f1 t1 tl z6 z1 v2 v71 => ?_)
  have s1 := sh.fg f1 rfl
  refine ⟨e, by rw [f1.R rfl]; exact t13, 3, s1.R 0 1 3 (by decide), ?_⟩
  have xr : XR h1 e := by
    rcases he with z | z <;> subst z
    · exact ⟨⟨s1.R 54 0 55 (by decide), s1.R 54 1 56 (by decide), s1.R 54 2 57 (by decide)⟩, s1.L 55 (by decide) rfl, s1.L 56 (by decide) rfl, s1.L 57 (by decide) rfl⟩
    · exact ⟨⟨s1.R 59 0 60 (by decide), s1.R 59 1 61 (by decide), s1.R 59 2 62 (by decide)⟩, s1.L 60 (by decide) rfl, s1.L 61 (by decide) rfl, s1.L 62 (by decide) rfl⟩
  -- the model, from where the class has answered
  have mod : ∀ (h9 : PH) (r : Int32), Fg c9S c9F h h9 → qI h9 1 1 = 0 →
      (∀ j kd d t, pClm tk m (200 < sz) = .inr (j, (kd, (d, t))) → r = nI (xc d) ∧ qI h9 3 6 = 0 ∧ qR h9 0 12 = some e ∧ qR h9 0 13 = some c ∧ qI h9 e 4 = nI kd ∧ kd < 4 ∧ GP dd0 d t ∧ qI h9 e 5 = nI (xn d) ∧ CLC h9 e (xn d) (xd d)) →
      (∀ f j, pClm tk m (200 < sz) = .inl (f, j) → r = -1 - nI (stT (tk j)) ∧ qI h9 3 6 = nI f ∧ qR h9 0 12 = some c ∧ qR h9 0 13 = some e ∧ ∀ a, (a = c ∨ c + 1 ≤ a ∧ a ≤ c + 3) → ∀ j, qI h9 a j = qI h a j) → wp_X12_claim 70 h9 (Both h r) := by
    intro h9 r F9 z9 a1 a0
    have ag9 : Ag [2, 71, 81, 82, 83, 84] [(70, 2), (70, 44), (70, 45)] h h9 := F9.ag rfl
    have s9 := sh.fg F9 rfl
    have fin : ∀ (g : PH) (r2 : Int32) (F : List (Nat × Nat)), Fg [81, 82, 83, 84] F h9 g → fsub [81, 82, 83, 84] F [81, 82, 83, 84] ((70, 44) :: (70, 45) :: xF) = true → qI g 70 2 = 0 → r = r2 → IClaim g → IFault g → Both h r r2 g := by
      intro g r2 F f0 cs b2 er icl ifl
      have f : Fg [81, 82, 83, 84] ((70, 44) :: (70, 45) :: xF) h9 g := f0.mono cs
      have kA : Fg (c9S ++ [81, 82, 83, 84]) (c9F ++ ((70, 44) :: (70, 45) :: xF)) h g := F9.tr f rfl rfl
      obtain ⟨i0, ⟨len, t1', t2', t3', t4'⟩, i2, i3, i4, i5, i6, i7, i8, i9, i10⟩ := i
      refine ⟨er, ⟨i0.fg kA rfl, ⟨0, by omega, by rw [f.I rfl]; exact z9, b2, fun j hj => ?_⟩, ⟨N, rb, n, Ds, dd, ee, id.ag (kA.ag rfl)⟩, i3.ag (kA.ag rfl), i4.ag (kA.ag rfl), icl, i6.ag (kA.ag rfl), i7.fg kA rfl, i8.ag (kA.ag rfl), i9.ag (kA.ag rfl), ifl⟩, kA.rm⟩
      rw [(kA.ag (C := [2, 71]) (G := []) rfl).I rfl, (kA.ag (C := [2, 71]) (G := []) rfl).I rfl]; exact t4' j hj
    have low : ∀ {g : PH} {F : List (Nat × Nat)}, Fg [81, 82, 83, 84] F h9 g → fsub [81, 82, 83, 84] F [81, 82, 83, 84] ((70, 44) :: (70, 45) :: xF) = true → ∀ a, 54 ≤ a → a < 64 → ∀ j, qI g a j = qI h9 a j := fun f0 cs a h54 h64 j => by
      have f := f0.mono cs
      exact (f.2 a (by simp; omega) j (by simp [xF, nL, mF]; omega)).1
    refine mclaim_ok s9 x (by rw [ag9.i rfl]; exact v2) (fun j hj => by rw [ag9.I rfl]; exact v71 j hj) (fun g j kd d t io f v44 v45 cl w10 w2 => ?_) (fun g f j io f0 keep w10 w2 => ?_)
    · obtain ⟨er, e36, q12, q13, e4, kl4, gp, e5, clc⟩ := a1 j kd d t io
      have lw := low f rfl
      have n40 : xn d ≤ 40 := by
        have b1 : xn d + 1 + 2 * 0 ≤ 0 + 2 * xc d := gp.2.2.2.2
        have b2 := gp.2.2.2.1
        omega
      refine fin g _ _ f rfl w2 er ⟨e, c, kd, ⟨by rw [f.R rfl]; exact q12, by rw [f.R rfl]; exact q13, by omega⟩, by rw [lw e (by omega) (by omega)]; exact e4, v44, kl4, Or.inr ⟨xn d, t, xd d, xS d, n40, by rw [lw e (by omega) (by omega)]; exact e5, v45, gp.1.1, gp.2.1, gp.1.2, fun k hk => ?_, cl⟩⟩ ?_
      · rw [lw (e + 1) (by omega) (by omega), lw (e + 2) (by omega) (by omega), lw (e + 3) (by omega) (by omega)]; exact clc k hk
      · show qI g 3 6 = qI g 70 10
        rw [f.I rfl, e36, w10]
    · obtain ⟨er, e36, q12, q13, kc⟩ := a0 f j io
      have lw := low f0 rfl
      have kc' : ∀ a, (a = c ∨ c + 1 ≤ a ∧ a ≤ c + 3) → ∀ j, qI g a j = qI h a j := fun a ha j => by rw [lw a (by omega) (by omega)]; exact kc a ha j
      refine fin g _ _ f0 rfl w2 er ⟨c, e, kd0, ⟨by rw [f0.R rfl]; exact q12, by rw [f0.R rfl]; exact q13, tt⟩, by rw [kc' c (Or.inl rfl)]; exact k4, by rw [f0.I rfl, ag9.i rfl]; exact k44, kl, ?_⟩ ?_
      · rcases kr () with z | ⟨sz', top, nd, S, y1, y2, y3, y4, y5, y6, y7, y8⟩
        · exact Or.inl z
        · refine Or.inr ⟨sz', top, nd, S, y1, by rw [kc' c (Or.inl rfl)]; exact y2, by rw [f0.I rfl, ag9.i rfl]; exact y3, y4, y5, y6, fun k hk => ?_, fun k hk => ?_⟩
          · rw [kc' (c + 1) (by omega), kc' (c + 2) (by omega), kc' (c + 3) (by omega)]; exact y7 k hk
          · rw [keep 81 (by omega) _ (by omega), keep 82 (by omega) _ (by omega), keep 83 (by omega) _ (by omega), keep 84 (by omega) _ (by omega), ag9.I rfl, ag9.I rfl, ag9.I rfl, ag9.I rfl]; exact y8 k hk
      · show qI g 3 6 = qI g 70 10
        rw [f0.I rfl, e36, w10]
  refine cclaim_ok x hm t1 tl z6 (by omega) xr (fun h7 j kd d t io k1 k4' gp Y7 c7 e4 w7 => ⟨fun _ => ?_, fun z => absurd z (by decide)⟩) (fun h7 f j io Y7 t7 w7 => ⟨fun z => absurd rfl z, fun _ => ⟨3, ?_, fansC_ok x t7 ?_⟩⟩)
  · have F7 := Y7.fg he
    have F17 : Fg c9S c9F h h7 := f1.tr F7 rfl rfl
    refine ⟨e, by rw [F7.R rfl, f1.R rfl]; exact t13, c, by rw [F7.R rfl, f1.R rfl]; exact t12, fun h14 e14 h15 e15 => ?_⟩
    have q12 : qR h15 0 12 = some e := by rw [e15, rR_sR, if_pos rfl]; simp [va_up]
    have q13 : qR h15 0 13 = some c := by
      rw [e15, rR_sR, if_pos rfl, show va_up (qR h14 0) 12 (some e) 13 = qR h14 0 13 by simp [va_up], e14, rR_sR, if_pos rfl]; simp [va_up]
    have f15 : Fg [] [(0, 12), (0, 13)] h7 h15 := by rw [e15, e14]; exact (Fg.sR _ _ _ _).tr (Fg.sR _ _ _ _) rfl rfl
    have I15 : ∀ a j, qI h15 a j = qI h7 a j := fun a j => by rw [e15, e14]; rfl
    refine ⟨e, q12, ?_⟩
    rw [I15, c7.2.2.1]
    refine mod h15 _ (F17.tr f15 rfl rfl) ?_ (fun j' kd' d' t' io' => ?_) (fun f j' io' => ?_)
    · rw [f15.I rfl, F7.I rfl]; exact z1
    · have := io.symm.trans io'
      cases this
      refine ⟨rfl, by rw [f15.I rfl]; exact w7, q12, q13, by rw [I15]; exact e4, k4', gp, by rw [I15]; exact c7.2.1, fun k hk => ?_⟩
      rw [I15, I15, I15]; exact c7.2.2.2 k hk
    · have := io.symm.trans io'
      cases this
  · have F7 := Y7.fg he
    rw [F7.R rfl, f1.R rfl]; exact sh.R 0 1 3 (by decide)
  · have F7 := Y7.fg he
    have F17 : Fg c9S c9F h h7 := f1.tr F7 rfl rfl
    refine mod h7 _ F17 (by rw [F7.I rfl]; exact z1) (fun j' kd' d' t' io' => ?_) (fun f' j' io' => ?_)
    · have := io.symm.trans io'
      cases this
    · have := io.symm.trans io'
      cases this
      refine ⟨rfl, w7, by rw [F7.R rfl, f1.R rfl]; exact t12, by rw [F7.R rfl, f1.R rfl]; exact t13, fun a ha k => ?_⟩
      obtain ⟨h0, v, e0, X⟩ := Y7
      rw [(X.2 a k (by omega)).1 (by omega), e0, rI_ne _ _ _ (by omega)]
      exact (f1.2 a (by simp; omega) k (by simp; omega)).1

/-! ===== PURE: the tape and the world with frames by fields; the calls feed, run, stands ===== -/
theorem append_g {h : PH} {w : Int32} {Q : PH → Prop} {len : Nat} (hR : qR h 1 0 = some 2) (hL : qL h 2 = 640) (hl : qI h 1 1 = nI len) (hb : len + 4 ≤ 640)
    (k : ∀ h1, Fg [2] [(1, 1)] h h1 → qI h1 1 1 = nI (len + 4) → (∀ j, qI h1 2 j = if len ≤ j ∧ j < len + 4 then cbt w (j - len) else qI h 2 j) → Q h1) : wp_X6_append 1 w h Q := by
  unfold wp_X6_append
  refine ⟨fun s => ∃ i, i ≤ 4 ∧ s.1 = shf i ∧ Fg [2] [(1, 1)] h s.2 ∧ qI s.2 1 1 = nI (len + i) ∧ ∀ j, qI s.2 2 j = if len ≤ j ∧ j < len + i then cbt w (j - len) else qI h 2 j, fun s => (s.1.toInt + 9).toNat, ⟨0, by omega, rfl, Fg.rf _ _ _, hl, fun j => by rw [if_neg (by omega)]⟩, ?_⟩
  rintro ⟨l2, h1⟩ ⟨i, hi, e1, fr, e2, e3⟩
  dsimp only at e1 fr e2 e3
  show wb_X6_append_3 1 w Q _ l2 h1
  unfold wb_X6_append_3
  have hR1 : qR h1 1 0 = some 2 := by rw [fr.R rfl]; exact hR
  have hL1 : qL h1 2 = 640 := by rw [fr.L]; exact hL
  refine ⟨fun c => ?_, fun c => ?_⟩
  · have : i = 4 := (shf_neg hi).mp (by rw [← e1]; exact c)
    subst this
    exact k h1 fr e2 e3
  · have hi4 : i < 4 := by
      rcases Nat.lt_or_ge i 4 with q | q
      · exact q
      · exact absurd (by rw [e1]; exact (shf_neg hi).mpr (by omega)) c
    rw [e2]
    refine ⟨fun c => absurd c (nI_pos (by omega)), fun _ => ⟨2, hR1, ?_, fun _ => ⟨2, hR1, ?_, ?_⟩⟩⟩
    · intro c
      rw [hL1] at c
      exact absurd c (nI_ge (by omega) (by omega))
    · rw [hL1]; exact vp_in_nI (by omega) (by omega)
    · intro h2 eh2 h3 eh3 v ev
      have eI2 : qI h2 1 1 = nI (len + i) := by rw [eh2, rI_sI, if_neg (by decide)]; exact e2
      refine ⟨⟨i + 1, by omega, by rw [ev, e1]; exact shf_step hi4, ?_, ?_, ?_⟩, ?_⟩
      · show Fg [2] [(1, 1)] h h3
        rw [eh3, eh2]
        exact (fr.tr (Fg.cI _ _ _ _) (U := [2]) (V := [(1, 1)]) rfl rfl).tr (Fg.sI _ _ _ _) rfl rfl
      · show qI h3 1 1 = nI (len + (i + 1))
        rw [eh3, rI_sI, if_pos rfl, up_eq, eI2, nI_1]; rfl
      · intro j
        show qI h3 2 j = _
        rw [eh3, rI_sI, if_neg (by decide), eh2, rI_sI, if_pos rfl, up_at, nI_clamp (by omega), e3 j]
        by_cases c1 : j = len + i
        · rw [if_pos c1, if_pos (by omega), pk_vb, c1, show len + i - len = i by omega, e1]
          unfold cbt shf
          rw [if_pos hi4]
        · rw [if_neg c1]
          by_cases c2 : len ≤ j ∧ j < len + i
          · rw [if_pos c2, if_pos (by omega)]
          · rw [if_neg c2, if_neg (by omega)]
      · show (v.toInt + 9).toNat < (l2.toInt + 9).toNat
        rw [ev, e1]
        rcases (show i = 0 ∨ i = 1 ∨ i = 2 ∨ i = 3 by omega) with rfl | rfl | rfl | rfl <;> decide
theorem come_g {h : PH} {w : Int32} {Q : PH → Prop} {len : Nat} (hR : qR h 70 1 = some 71) (hL : qL h 71 = 640) (hl : qI h 70 2 = nI len) (hb : len + 4 ≤ 640)
    (k : ∀ h1, Fg [71] [(70, 2)] h h1 → qI h1 70 2 = nI (len + 4) → (∀ j, qI h1 71 j = if len ≤ j ∧ j < len + 4 then mbt w (j - len) else qI h 71 j) → Q h1) : wp_X12_come 70 w h Q :=
  come_ok hR hL hl hb (fun h1 f r j i1 i2 => k h1 ⟨f.1, fun a ha x hx => by
    by_cases c : a = 70
    · subst c
      refine ⟨by rw [i1, if_neg (fun z => hx (by rw [z]; exact List.mem_singleton.mpr rfl))], by rw [j], by rw [r]⟩
    · have : a ∉ [70, 71] := fun z => by
        rcases List.mem_cons.mp z with y | y
        · exact c y
        · exact ha y
      exact ⟨by rw [f.I this], by rw [f.J this], by rw [f.R this]⟩⟩ (by rw [i1, if_pos rfl]) i2)
theorem prepare_g {h : PH} {N rb n L : Nat} {Ds : Nat → PD} {Q : PH → Prop} (g : TG h N rb n Ds) (hL : L < 32) (r0 : qR h 13 0 = some 14) (r1 : qR h 13 1 = some 15) (l0 : qL h 14 = 48) (l1 : qL h 15 = 48)
    (q : ∀ h1, Fg [14, 15] [(13, 2)] h h1 → WC h1 N rb n Ds L → Q h1) : wp_X10_prepare 13 7 (nI L) h Q := by
  have hN8 := g.2.2.2.2.2.1
  have hN := g.2.2.2.2.2.2.1
  intro h1 eh1
  have f1 : Fg [14, 15] [(13, 2)] h h1 := by rw [eh1]; exact (Fg.sI _ _ _ _).mono rfl
  have g1 : TG h1 N rb n Ds := g.ag (f1.ag rfl)
  refine rubW_ok g1 ?_
  refine loopR N (fun i s => s.1 = nI i ∧ Fg [14, 15] [(13, 2)] h s.2 ∧ qI s.2 13 2 = nI N ∧ (∀ t, t < i → qI s.2 14 t = fwd N rb n Ds L t) ∧ (∀ t, t < i → qI s.2 15 ((t + 1) % N) = bwd N rb n Ds L t)) (fun s => s.1.toNatClampNeg) ⟨rfl, f1, by rw [eh1, rI_sI, if_pos rfl, up_eq]; exact g.2.2.2.1, fun t ht => absurd ht (Nat.not_lt_zero t), fun t ht => absurd ht (Nat.not_lt_zero t)⟩ (fun i s hi p => by rw [p.1]; exact nI_clamp (by omega)) ?_ ?_
  · rintro i ⟨i', h2⟩ hi ⟨e1, f2, e2, e3, e4⟩ back hb
    dsimp only at e1 f2 e2 e3 e4
    subst e1
    have g2 := g.ag (f2.ag rfl)
    have rr0 : qR h2 13 0 = some 14 := by rw [f2.R rfl]; exact r0
    have rr1 : qR h2 13 1 = some 15 := by rw [f2.R rfl]; exact r1
    have ll0 : qL h2 14 = 48 := by rw [f2.L]; exact l0
    have ll1 : qL h2 15 = 48 := by rw [f2.L]; exact l1
    refine ⟨fun c => ?_, fun c => given_ok g2 hi hL ⟨14, rr0, by rw [ll0]; exact vp_in_nI (by omega) (by omega), fun h3 eh3 => ⟨15, by rw [eh3]; exact rr1, ?_⟩⟩⟩
    · rw [e2] at c
      exact absurd c (nI_ge hi (by omega))
    · have f3 : Fg [14, 15] [(13, 2)] h h3 := by rw [eh3]; exact f2.tr (Fg.cI _ _ _ _) rfl rfl
      have g3 := g.ag (f3.ag rfl)
      refine after_ok (by rw [eh3, rI_sI, if_neg (by decide)]; exact e2) hN hi ⟨9, g3.2.1.1, by rw [g3.2.1.2.1]; exact vp_in_nI (by omega) (by omega), ?_, fun h4 eh4 v ev => hb _ ?_⟩
      · rw [f3.L, l1]; exact vp_in_nI (by have := Nat.mod_lt (i + 1) (show 0 < N by omega); omega) (by have := Nat.mod_lt (i + 1) (show 0 < N by omega); omega)
      · have hm : (i + 1) % N < N := Nat.mod_lt _ (by omega)
        rw [nI_clamp (by omega), nI_clamp (by omega), g3.2.1.2.2 i hi] at eh4
        rw [nI_clamp (by omega)] at eh3
        refine ⟨by rw [ev]; exact nI_1 i, ?_, ?_, ?_, ?_⟩
        · show Fg [14, 15] [(13, 2)] h h4
          rw [eh4]; exact f3.tr (Fg.cI _ _ _ _) rfl rfl
        · show qI h4 13 2 = nI N
          rw [eh4, rI_sI, if_neg (by decide), eh3, rI_sI, if_neg (by decide)]; exact e2
        · intro t ht
          show qI h4 14 t = _
          rw [eh4, rI_sI, if_neg (by decide), eh3, rI_sI, if_pos rfl, up_at]
          by_cases c1 : t = i
          · rw [if_pos c1, c1]; rfl
          · rw [if_neg c1]; exact e3 t (by omega)
        · intro t ht
          show qI h4 15 ((t + 1) % N) = _
          rw [eh4, rI_sI, if_pos rfl, up_at]
          by_cases c1 : t = i
          · rw [if_pos (by rw [c1]), c1]; rfl
          · rw [if_neg (fun z => c1 (succ_mod_inj (by omega) hi z)), eh3, rI_sI, if_neg (by decide)]
            exact e4 t (by omega)
  · rintro ⟨i', h2⟩ ⟨e1, f2, e2, e3, e4⟩ back
    dsimp only at e1 f2 e2 e3 e4
    subst e1
    refine ⟨fun c => q h2 f2 ⟨⟨by rw [f2.R rfl]; exact r0, by rw [f2.L]; exact l0, e3⟩, ⟨by rw [f2.R rfl]; exact r1, by rw [f2.L]; exact l1, e4⟩, e2⟩, fun c => ?_⟩
    rw [e2] at c
    exact absurd (nI_le (Nat.le_refl N) (by omega)) c
theorem b255 (i : Nat) (h : i < 32) : (255#32)[i] = decide (i < 8) := by
  revert i; decide
theorem cm_bt (w : Int32) (i : Nat) : mbt w i = cbt w i &&& 255 := by
  unfold mbt cbt
  generalize q_ushr w (nI (24 - 8 * i)) = x
  apply Int32.toBitVec_inj.mp
  rw [Int32.toBitVec_and, Int32.toBitVec_and, Int8.toBitVec_toInt32, Int32.toBitVec_toInt8]
  apply BitVec.eq_of_getElem_eq
  intro i hi
  rw [BitVec.getElem_and, BitVec.getElem_and]
  have e : (255 : Int32).toBitVec = 255#32 := rfl
  simp only [e, b255 i hi]
  by_cases c : i < 8
  · rw [BitVec.getElem_signExtend, dif_pos c, BitVec.getElem_signExtend, dif_pos hi]
  · simp [c]
theorem op_feed {h : PH} (i : Inv h) (a b c d e : Int32) : wp_X11_feed 0 a b c d e h (fun r h1 => wp_X12_feed 70 a b c d e h1 (Both h r)) := by
  obtain ⟨len, hl, l1, l2, tp⟩ := i.2.1
  have sh := i.1
  have r0 : ∀ {S F h1}, Fg S F h h1 → fno S F 0 0 = true → qR h1 0 0 = some 1 := fun f z => by rw [f.R z]; exact sh.R 0 0 1 (by decide)
  refine ⟨1, sh.R 0 0 1 (by decide), fun c1 => ?_, fun c1 h1 e1 => ⟨fun z => ?_, fun _ => ⟨rfl, by rw [e1]; exact i.thr 0, by rw [e1]; exact (Fg.sI _ _ _ _).rm⟩⟩⟩
  · have hlen : len + 20 ≤ 640 := by
      rw [l1, show (20 : Int32) = nI 20 from rfl, nI_add] at c1
      exact (nI_leI (b := 640) (by omega) (by decide)).mp c1
    have R1 : ∀ {h1}, Fg [2] [(1, 1)] h h1 → qR h1 1 0 = some 2 := fun f => by rw [f.R rfl]; exact sh.R 1 0 2 (by decide)
    have L1 : ∀ {h1}, Fg [2] [(1, 1)] h h1 → qL h1 2 = 640 := fun f => by rw [f.L]; exact sh.L 2 (by decide) rfl
    have ff := Fg.rf [2] [(1, 1)] h
    refine ⟨1, r0 ff rfl, append_g (R1 ff) (L1 ff) l1 (by omega) (fun h1 f1 i1 j1 => ?_)⟩
    refine ⟨1, r0 f1 rfl, append_g (R1 f1) (L1 f1) i1 (by omega) (fun h2 f2 i2 j2 => ?_)⟩
    replace f2 : Fg [2] [(1, 1)] h h2 := f1.tr f2 rfl rfl
    refine ⟨1, r0 f2 rfl, append_g (R1 f2) (L1 f2) i2 (by omega) (fun h3 f3 i3 j3 => ?_)⟩
    replace f3 : Fg [2] [(1, 1)] h h3 := f2.tr f3 rfl rfl
    refine ⟨1, r0 f3 rfl, append_g (R1 f3) (L1 f3) i3 (by omega) (fun h4 f4 i4 j4 => ?_)⟩
    replace f4 : Fg [2] [(1, 1)] h h4 := f3.tr f4 rfl rfl
    refine ⟨1, r0 f4 rfl, append_g (R1 f4) (L1 f4) i4 (by omega) (fun h5 f5 i5 j5 => ?_)⟩
    replace f5 : Fg [2] [(1, 1)] h h5 := f4.tr f5 rfl rfl
    refine ⟨1, r0 f5 rfl, fun g0 eg0 => ?_⟩
    have k0 : Fg [2, 71] [(1, 1), (70, 0), (70, 2)] h g0 := by rw [eg0]; exact f5.tr (Fg.sI _ _ _ _) rfl rfl
    have m0 : qI g0 70 2 = nI len := by rw [eg0]; simp only [qI_sI]; simp; rw [f5.I rfl]; exact l2
    have R2 : ∀ {h1}, Fg [2, 71] [(1, 1), (70, 0), (70, 2)] h h1 → qR h1 70 1 = some 71 := fun f => by rw [f.R rfl]; exact sh.R 70 1 71 (by decide)
    have L2 : ∀ {h1}, Fg [2, 71] [(1, 1), (70, 0), (70, 2)] h h1 → qL h1 71 = 640 := fun f => by rw [f.L]; exact sh.L 71 (by decide) rfl
    refine ⟨fun _ => ?_, fun z => absurd (by rw [m0, ← l1]; exact c1) z⟩
    refine come_g (R2 k0) (L2 k0) m0 (by omega) (fun g1 k1 m1 n1 => ?_)
    have k1' := k1
    replace k1 : Fg [2, 71] [(1, 1), (70, 0), (70, 2)] h g1 := k0.tr k1 rfl rfl
    refine come_g (R2 k1) (L2 k1) m1 (by omega) (fun g2 k2 m2 n2 => ?_)
    have k2' := k2
    replace k2 : Fg [2, 71] [(1, 1), (70, 0), (70, 2)] h g2 := k1.tr k2 rfl rfl
    refine come_g (R2 k2) (L2 k2) m2 (by omega) (fun g3 k3 m3 n3 => ?_)
    have k3' := k3
    replace k3 : Fg [2, 71] [(1, 1), (70, 0), (70, 2)] h g3 := k2.tr k3 rfl rfl
    refine come_g (R2 k3) (L2 k3) m3 (by omega) (fun g4 k4 m4 n4 => ?_)
    have k4' := k4
    replace k4 : Fg [2, 71] [(1, 1), (70, 0), (70, 2)] h g4 := k3.tr k4 rfl rfl
    refine come_g (R2 k4) (L2 k4) m4 (by omega) (fun g5 k5 m5 n5 => ?_)
    have k5' := k5
    replace k5 : Fg [2, 71] [(1, 1), (70, 0), (70, 2)] h g5 := k4.tr k5 rfl rfl
    have kk : Fg [71] [(70, 0), (70, 2)] h5 g5 := by
      have z1 : Fg [71] [(70, 0), (70, 2)] h5 g0 := by rw [eg0]; exact (Fg.sI _ _ _ _).mono rfl
      exact ((((z1.tr k1' (U := [71]) (V := [(70, 0), (70, 2)]) rfl rfl).tr k2' (U := [71]) (V := [(70, 0), (70, 2)]) rfl rfl).tr k3' (U := [71]) (V := [(70, 0), (70, 2)]) rfl rfl).tr k4' (U := [71]) (V := [(70, 0), (70, 2)]) rfl rfl).tr k5' rfl rfl
    have t1 : qI g5 1 1 = nI (len + 4 + 4 + 4 + 4 + 4) := by rw [kk.I rfl]; exact i5
    obtain ⟨x0, x1, x2, x3, x4, x5, x6, x7, x8, x9, x10⟩ := i
    refine ⟨by rw [i5, m5], ⟨x0.fg k5 rfl, ⟨len + 4 + 4 + 4 + 4 + 4, by omega, t1, m5, fun j hj => ?_⟩, x2.ag (k5.ag rfl), x3.ag (k5.ag rfl), x4.ag (k5.ag rfl), x5.ag (k5.ag rfl), x6.ag (k5.ag rfl), x7.fg k5 rfl, x8.ag (k5.ag rfl), x9.ag (k5.ag rfl), x10.ag (k5.ag rfl)⟩, k5.rm⟩
    have g71 : qI g0 71 j = qI h 71 j := by rw [eg0]; simp only [qI_sI]; simp; rw [f5.I rfl]
    have g2' : qI g5 2 j = qI h5 2 j := (kk.ag (C := [2]) (G := []) rfl).I rfl j
    rw [g2', n5, j5]
    by_cases q5 : len + 4 + 4 + 4 + 4 ≤ j ∧ j < len + 4 + 4 + 4 + 4 + 4
    · rw [if_pos q5, if_pos q5]; exact cm_bt _ _
    · rw [if_neg q5, if_neg q5, n4, j4]
      by_cases q4 : len + 4 + 4 + 4 ≤ j ∧ j < len + 4 + 4 + 4 + 4
      · rw [if_pos q4, if_pos q4]; exact cm_bt _ _
      · rw [if_neg q4, if_neg q4, n3, j3]
        by_cases q3 : len + 4 + 4 ≤ j ∧ j < len + 4 + 4 + 4
        · rw [if_pos q3, if_pos q3]; exact cm_bt _ _
        · rw [if_neg q3, if_neg q3, n2, j2]
          by_cases q2 : len + 4 ≤ j ∧ j < len + 4 + 4
          · rw [if_pos q2, if_pos q2]; exact cm_bt _ _
          · rw [if_neg q2, if_neg q2, n1, j1]
            by_cases q1 : len ≤ j ∧ j < len + 4
            · rw [if_pos q1, if_pos q1]; exact cm_bt _ _
            · rw [if_neg q1, if_neg q1, g71]; exact tp j hj
  · refine absurd ?_ c1
    rw [e1] at z; simp only [qI_sI] at z; simp at z
    rw [l2] at z; rw [l1]; exact z
/-! what is a place, a part, a set of laws, a push -/
theorem isPlace_ok {h : PH} {N rb n d e : Nat} {t : Int32} {Ds : Nat → PD} {Q : Int32 → PH → Prop} (i : IDd h N rb n Ds d e) (q1 : ∀ j, j < N → t = nI j → Q 1 h) (q0 : (∀ j, j < N → t ≠ nI j) → Q 0 h) : wp_X11_isPlace 0 t h Q := by
  have hN := i.2.2.1.1.2.2.2.1
  refine ⟨fun c => q0 (fun j hj e => nI_pos (n := j) (by omega) (by rw [← e]; exact c)), fun c => ⟨d, i.1.1, fun c2 => ?_, fun c2 => ?_⟩⟩
  · rw [i.2.1.2.1] at c2
    exact q0 (fun j hj e => nI_ge hj (by omega) (by rw [← e]; exact c2))
  · rw [i.2.1.2.1] at c2
    obtain ⟨j, hj, e⟩ := nI_of c
    have : j < N := by
      rcases Nat.lt_or_ge j N with z | z
      · exact z
      · exact absurd (by rw [e]; exact nI_le z hj) c2
    exact q1 j this e
theorem isPart_ok {h : PH} {N rb n d e : Nat} {t : Int32} {Ds : Nat → PD} {Q : Int32 → PH → Prop} (i : IDd h N rb n Ds d e) (q1 : ∀ j, j < n → t = nI j → Q 1 h) (q0 : (∀ j, j < n → t ≠ nI j) → Q 0 h) : wp_X11_isPart 0 t h Q := by
  have hN := i.2.2.1.2.2.2.1.1
  refine ⟨fun c => q0 (fun j hj e => nI_pos (n := j) (by omega) (by rw [← e]; exact c)), fun c => ⟨d, i.1.1, fun c2 => ?_, fun c2 => ?_⟩⟩
  · rw [i.2.1.1] at c2
    exact q0 (fun j hj e => nI_ge hj (by omega) (by rw [← e]; exact c2))
  · rw [i.2.1.1] at c2
    obtain ⟨j, hj, e⟩ := nI_of c
    have : j < n := by
      rcases Nat.lt_or_ge j n with z | z
      · exact z
      · exact absurd (by rw [e]; exact nI_le z hj) c2
    exact q1 j this e
theorem misPart_ok {h : PH} {N rb n : Nat} {t : Int32} {Ds : Nat → PD} {Q : Int32 → PH → Prop} (i : DrL h N rb n Ds) (q1 : ∀ j, j < n → t = nI j → Q 1 h) (q0 : (∀ j, j < n → t ≠ nI j) → Q 0 h) : wp_X12_isPart 70 t h Q := by
  have hN := i.2.2.2.1.1
  refine ⟨fun c => q0 (fun j hj e => nI_pos (n := j) (by omega) (by rw [← e]; exact c)), fun c => ⟨74, i.2.2.1.1, in0 i.2.2.1.2.1 (by decide) (by decide), fun c2 => ?_, fun c2 => ?_⟩⟩
  · rw [c0_n, i.2.2.1.2.2] at c2
    exact q0 (fun j hj e => nI_ge hj (by omega) (by rw [← e]; exact c2))
  · rw [c0_n, i.2.2.1.2.2] at c2
    obtain ⟨j, hj, e⟩ := nI_of c
    have : j < n := by
      rcases Nat.lt_or_ge j n with z | z
      · exact z
      · exact absurd (by rw [e]; exact nI_le z hj) c2
    exact q1 j this e
theorem isLaw_ok {h : PH} {x : Int32} {Q : Int32 → PH → Prop} (q1 : ∀ L, L < 32 → x = nI L → Q 1 h) (q0 : (∀ L, L < 32 → x ≠ nI L) → Q 0 h) : wp_X11_isLawSet x h Q := by
  refine ⟨fun c => q0 (fun j hj e => nI_pos (n := j) (by omega) (by rw [← e]; exact c)), fun c => ⟨fun c2 => ?_, fun c2 => ?_⟩⟩
  · exact q0 (fun j hj e => nI_ge (b := 32) hj (by decide) (by rw [← e]; exact c2))
  · obtain ⟨j, hj, e⟩ := nI_of c
    have : j < 32 := by
      rcases Nat.lt_or_ge j 32 with z | z
      · exact z
      · exact absurd (by rw [e]; exact nI_le (a := 32) z hj) c2
    exact q1 j this e
theorem isWorld_ok {h : PH} {x : Int32} {Q : Int32 → PH → Prop} (q1 : ∀ L, L < 32 → x = nI L → Q 1 h) (q0 : (∀ L, L < 32 → x ≠ nI L) → Q 0 h) : wp_X12_isWorld x h Q := isLaw_ok q1 q0
theorem isPush_ok {h : PH} {x : Int32} {Q : Int32 → PH → Prop} (q1 : ∀ L, L ≤ 100000 → x = nI L → Q 1 h) (q0 : (∀ L, L ≤ 100000 → x ≠ nI L) → Q 0 h) : wp_X11_isPush x h Q := by
  refine ⟨fun c => q0 (fun j hj e => nI_pos (n := j) (by omega) (by rw [← e]; exact c)), fun c => ⟨fun c2 => ?_, fun c2 => ?_⟩⟩
  · exact q0 (fun j hj e => by
      rw [e] at c2
      have := (nI_ltI (a := 100000) (by decide) (by omega)).mp c2
      omega)
  · obtain ⟨j, hj, e⟩ := nI_of c
    have : j ≤ 100000 := by
      rcases Nat.lt_or_ge 100000 j with z | z
      · exact absurd (by rw [e]; exact nI_lt (a := 100000) z hj) c2
      · exact z
    exact q1 j this e
theorem misPush_ok {h : PH} {x : Int32} {Q : Int32 → PH → Prop} (q1 : ∀ L, L ≤ 100000 → x = nI L → Q 1 h) (q0 : (∀ L, L ≤ 100000 → x ≠ nI L) → Q 0 h) : wp_X12_isIn x 0 100000 h Q := isPush_ok q1 q0
theorem DrC.ag {h h1 : PH} {N rb n d e : Nat} {Ds : Nat → PD} (a3 : d = 26 ∧ e = 40 ∨ d = 40 ∧ e = 26) (hn : n ≤ 12) (c : DrC h d N rb n Ds) (f : Ag drcL [] h h1) : DrC h1 d N rb n Ds := by
  obtain ⟨b1, b2, b3, b4⟩ := c
  have hd : ∀ x, x < 14 → x ≠ 1 → ∀ j, qI h1 (d + x) j = qI h (d + x) j := fun x hx h1' j => by
    rcases a3 with q | q <;> rw [q.1] <;> (rcases (show x = 0 ∨ x = 2 ∨ x = 3 ∨ x = 4 ∨ x = 5 ∨ x = 6 ∨ x = 7 ∨ x = 8 ∨ x = 9 ∨ x = 10 ∨ x = 11 ∨ x = 12 ∨ x = 13 by omega) with y | y | y | y | y | y | y | y | y | y | y | y | y <;> rw [y] <;> exact f.I rfl j)
  have hd0 := hd 0 (by decide) (by decide)
  refine ⟨(hd0 1).trans b1, (hd0 2).trans b2, (hd0 3).trans b3, fun k hk i hi hi1 => ?_⟩
  rw [Nat.add_assoc, hd (2 + k) (by omega) (by omega), ← Nat.add_assoc]
  exact b4 k hk i hi hi1
/-- the model may have laid its first drawing -/
theorem IDd.re {h h1 : PH} {N rb n d e : Nat} {Ds : Nat → PD} (i : IDd h N rb n Ds d e) (f : Ag (drcL ++ [8, 9, 10, 11, 12]) [(0, 10), (0, 11), (7, 0), (7, 1), (7, 2), (7, 3), (7, 4), (7, 5), (7, 6)] h h1) (dl : DrL h1 N rb n Ds) : IDd h1 N rb n Ds d e := by
  obtain ⟨⟨a1, a2, a3⟩, b, c1, c2, c3⟩ := i
  exact ⟨⟨by rw [f.r rfl]; exact a1, by rw [f.r rfl]; exact a2, a3⟩, b.ag a3 c1.2.2.2.1.1 (f.sub rfl rfl), dl, c2.ag (f.sub rfl rfl), c3.ag (f.sub rfl rfl)⟩

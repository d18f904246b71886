/-! ===== PURE: the call drawing ===== -/
theorem IKept.x {h h1 : PH} (i : IKept h) (hn : qn h1 = qn h) (hi : ∀ a, 93 ≤ a → ∀ j, qI h1 a j = qI h a j ∧ qR h1 a j = qR h a j) (hl : ∀ a, qL h1 a = qL h a) (r23 : ∀ j, qR h1 23 j = qR h 23 j) (v77 : ∀ j, qI h1 77 j = qI h 77 j) (v7 : ∀ j, 2 ≤ j → qI h1 72 j = qI h 72 j ∧ qI h1 73 j = qI h 73 j ∧ qI h1 74 j = qI h 74 j) (v75 : ∀ j, 192 ≤ j → qI h1 75 j = qI h 75 j) : IKept h1 := by
  obtain ⟨B, i1, i2⟩ := i
  refine ⟨B, fun k hk => ?_, fun k k2 hk hk2 hne a b => i2 k k2 hk hk2 hne (by rw [← r23]; exact a) (by rw [← r23]; exact b)⟩
  rw [r23, v77]
  rcases i1 k hk with z | ⟨z1, z2, z3, z4, N, rb, n, Ds, ⟨p1, p2, p3, p4, p5, p6, p7⟩, m1, m2, m3, m4, m5⟩
  · exact Or.inl z
  · refine Or.inr ⟨z1, z2, z3, by rw [hn]; exact z4, N, rb, n, Ds, ⟨by rw [(hi _ z3 _).2]; exact p1, by rw [hl]; exact p2, fun j hj => by rw [(hi _ (by omega) _).2]; exact p3 j hj, by rw [(hi _ z3 _).1]; exact p4, by rw [(hi _ z3 _).1]; exact p5, by rw [(hi _ z3 _).1]; exact p6, fun q hq x hx hx1 => by rw [(hi _ (by omega) _).1]; exact p7 q hq x hx hx1⟩, ?_⟩
    obtain ⟨y1, y2, y3⟩ := v7 (2 + k) (by omega)
    refine ⟨by rw [y1]; exact m1, by rw [y2]; exact m2, by rw [y3]; exact m3, m4, fun q hq => ⟨(m5 q hq).1, fun x hx => ?_⟩⟩
    show qI h1 75 (96 * (2 + k) + 8 * q + x) = _
    rw [v75 _ (by omega)]
    exact (m5 q hq).2 x hx
theorem DFr.fg {e : Nat} {h h1 : PH} (f : DFr e h h1) (he : e = 26 ∨ e = 40) : Fg drcL tF h h1 := ⟨f.1, fun a ha j hj => by
  have n : ¬ (a = 3 ∧ (j = 4 ∨ j = 6)) := fun z => hj (by
    rcases z with ⟨z1, z2 | z2⟩ <;> (rw [z1, z2]; decide))
  have q := f.2 a j n
  refine ⟨q.1 ?_, q.2.1, q.2.2⟩
  simp [drcL] at ha
  omega⟩
theorem rf36 : ∀ q ∈ rfL, ¬ (q.1 = 3 ∧ (q.2.1 = 4 ∨ q.2.1 = 6)) := by decide
theorem Shp.df {e : Nat} {h h1 : PH} (s : Shp h) (f : DFr e h h1) : Shp h1 := by
  obtain ⟨s1, s2, s3, s4⟩ := s
  refine ⟨by rw [f.1.1]; exact s1, fun a ha => ?_, fun q hq => ?_, fun j hj => ?_⟩
  · rw [f.1.2.2.1, f.1.2.2.2]; exact s2 a ha
  · rw [(f.2 q.1 q.2.1 (rf36 q hq)).2.2]; exact s3 q hq
  · rw [(f.2 27 j (by omega)).2.2, (f.2 41 j (by omega)).2.2]; exact s4 j hj
theorem DrC.x {h h1 : PH} {d N rb n : Nat} {Ds : Nat → PD} (c : DrC h d N rb n Ds) (hn : n ≤ 12) (f : ∀ a, (a = d ∨ d + 2 ≤ a ∧ a < d + 14) → ∀ j, qI h1 a j = qI h a j) : DrC h1 d N rb n Ds := by
  obtain ⟨a1, a2, a3, a4⟩ := c
  refine ⟨by rw [f d (Or.inl rfl)]; exact a1, by rw [f d (Or.inl rfl)]; exact a2, by rw [f d (Or.inl rfl)]; exact a3, fun k hk i hi hi1 => ?_⟩
  rw [f (d + 2 + k) (by omega)]; exact a4 k hk i hi hi1
theorem DrL.x {h h1 : PH} {N rb n : Nat} {Ds : Nat → PD} (c : DrL h N rb n Ds) (sh : Shp h1) (e73 : qI h1 73 0 = qI h 73 0) (e74 : qI h1 74 0 = qI h 74 0) (e75 : ∀ j, j < 96 → qI h1 75 j = qI h 75 j) (ne : ¬ qI h1 70 20 = 0) (e72 : qI h1 72 0 = nI N) : DrL h1 N rb n Ds := by
  obtain ⟨⟨a1, a2, a4, a5, a6, a7⟩, ⟨b1, b2, b3⟩, ⟨c1, c2, c3⟩, ⟨d1, d2, d3⟩, _⟩ := c
  refine ⟨⟨sh.R 70 14 72 (by decide), sh.L 72 (by decide) rfl, a4, a5, sh.R 70 17 75 (by decide), sh.L 75 (by decide) rfl⟩, ⟨sh.R 70 15 73 (by decide), sh.L 73 (by decide) rfl, by rw [e73]; exact b3⟩, ⟨sh.R 70 16 74 (by decide), sh.L 74 (by decide) rfl, by rw [e74]; exact c3⟩, ⟨d1, d2, fun k hk => ⟨(d3 k hk).1, fun i hi => ?_⟩⟩, Or.inr ⟨ne, e72⟩⟩
  show qI h1 75 (96 * 0 + 8 * k + i) = _
  rw [e75 _ (by omega)]
  exact (d3 k hk).2 i hi
def cF : List (Nat × Nat) := [(1, 1), (3, 3), (3, 4), (3, 5), (3, 6), (0, 10), (0, 11), (7, 5), (7, 6)]
def cS : List Nat := drcL ++ [4, 5, 6, 8, 9, 10, 11, 12]
theorem op_drawing {h : PH} (i : Inv h) : wp_X11_drawing 0 h (fun r h1 => wp_X12_drawing 70 h1 (Both h r)) := by
  obtain ⟨N, rb, n, Ds, d, e, ⟨t10, t11, tt⟩, dc, dl, tg, tv⟩ := i.2.2.1
  have sh := i.1
  have he : e = 26 ∨ e = 40 := by omega
  have hn : n ≤ 12 := dl.2.2.2.1.1
  refine cutT_ok (lim := 600) i (Nat.le_refl _) (fun h1 b sz m tk x hm f1 t1 tl z6 z1 v2 v71 => ?_)
  have s1 := sh.fg f1 rfl
  refine ⟨e, by rw [f1.R rfl]; exact t11, 3, s1.R 0 1 3 (by decide), ?_⟩
  have c0 : qR h1 e 0 = some (e + 1) ∧ qL h1 (e + 1) = 12 ∧ ∀ j, j < 12 → qR h1 (e + 1) j = some (e + 2 + j) := by
    rcases he with z | z <;> subst z
    · exact ⟨s1.R 26 0 27 (by decide), s1.L 27 (by decide) rfl, fun j hj => (s1.2.2.2 j hj).1⟩
    · exact ⟨s1.R 40 0 41 (by decide), s1.L 41 (by decide) rfl, fun j hj => (s1.2.2.2 j hj).2⟩
  -- the model, from where the class has answered
  have mod : ∀ (h9 : PH) (r : Int32), Fg cS cF h h9 → Shp h9 → qI h9 1 1 = 0 →
      (∀ l N2 d2, DO tk m (600 < sz) (.inr (l, (N2, d2))) → r = nI (dn d2) ∧ qI h9 3 6 = 0 ∧ qR h9 0 10 = some e ∧ qR h9 0 11 = some d ∧ DrC h9 e N2 ((drb d2).getD 0) (dn d2) (dp d2) ∧ TG h9 N2 ((drb d2).getD 0) (dn d2) (dp d2) ∧ TV h9 N2 (dn d2) (dp d2)) →
      (∀ f j, DO tk m (600 < sz) (.inl (f, j)) → r = -1 - nI (stT (tk j)) ∧ qI h9 3 6 = nI f ∧ qR h9 0 10 = some d ∧ qR h9 0 11 = some e ∧ DrC h9 d N rb n Ds ∧ TG h9 N rb n Ds ∧ TV h9 N n Ds) → wp_X12_drawing 70 h9 (Both h r) := by
    intro h9 r F9 S9 z9 a1 a0
    have ag9 : Ag [2, 71, 72, 73, 74, 75, 77] [(70, 2), (70, 20)] h h9 := F9.ag rfl
    have low9 : ∀ {g : PH}, MG h9 g → ∀ a, (a = d ∨ d + 2 ≤ a ∧ a < d + 14) ∨ (a = e ∨ e + 2 ≤ a ∧ a < e + 14) → ∀ j, qI g a j = qI h9 a j := fun M a ha j => (M.1.2 a (by simp; omega) j (by simp [dF, mF]; omega)).1
    have fin : ∀ (g : PH) (r2 : Int32), MG h9 g → r = r2 → IDr g → IFault g → Both h r r2 g := by
      intro g r2 M er idr ifl
      have kA : Fg (cS ++ [72, 73, 74, 75, 76]) (cF ++ dF) h g := F9.tr M.1 rfl rfl
      obtain ⟨i0, ⟨len, t1', t2', t3', t4'⟩, i2, i3, i4, i5, i6, i7, i8, i9, i10⟩ := i
      refine ⟨er, ⟨S9.fg M.1 rfl, ⟨0, by omega, by rw [M.1.I rfl]; exact z9, M.2.2.2.1, fun j hj => ?_⟩, idr, i3.ag (kA.ag rfl), i4.ag (kA.ag rfl), i5.ag (kA.ag rfl), i6.ag (kA.ag rfl), ?_, i8.ag (kA.ag rfl), i9.ag (kA.ag rfl), ifl⟩, kA.rm⟩
      · rw [(kA.ag (C := [2, 71]) (G := []) rfl).I rfl, (kA.ag (C := [2, 71]) (G := []) rfl).I rfl]; exact t4' j hj
      · refine i7.x kA.1.1 (fun a ha j => ?_) (fun a => kA.L a) (fun j => (kA.ag (C := [23]) (G := []) rfl).R rfl j) (fun j => (kA.ag (C := [77]) (G := []) rfl).I rfl j) (fun j hj => ?_) (fun j hj => ?_)
        · have := kA.hi rfl ha j
          exact ⟨this.1, this.2.2⟩
        · obtain ⟨y1, y2, y3⟩ := M.2.1 j hj
          rw [y1, y2, y3, ag9.I rfl, ag9.I rfl, ag9.I rfl]
          exact ⟨rfl, rfl, rfl⟩
        · rw [M.2.2.1 j hj, ag9.I rfl]
    refine mdraw_ok S9 x (by rw [ag9.i rfl]; exact v2) (fun j hj => by rw [ag9.I rfl]; exact v71 j hj) (fun g l N2 d2 io M y72 y73 y74 y75 w10 => ?_) (fun g f j io M o1 o2 y73 y74 y75 w10 => ?_)
    · obtain ⟨er, e36, q10, q11, dc2, tg2, tv2⟩ := a1 l N2 d2 io
      have sg := S9.fg M.1 rfl
      obtain ⟨_, _, _, _, _, n8, n48, rb9, n12, okd⟩ := tg2
      refine fin g _ M er ⟨N2, _, _, _, e, d, ⟨by rw [M.1.R rfl]; exact q10, by rw [M.1.R rfl]; exact q11, by omega⟩, dc2.x n12 (fun a ha j => low9 M a (Or.inr ha) j), ?_, (a1 l N2 d2 io).2.2.2.2.2.1.ag (M.1.ag rfl), tv2.ag (M.1.ag rfl)⟩ ?_
      · refine ⟨⟨sg.R 70 14 72 (by decide), sg.L 72 (by decide) rfl, n8, n48, sg.R 70 17 75 (by decide), sg.L 75 (by decide) rfl⟩, ⟨sg.R 70 15 73 (by decide), sg.L 73 (by decide) rfl, y73⟩, ⟨sg.R 70 16 74 (by decide), sg.L 74 (by decide) rfl, y74⟩, ⟨n12, rb9, fun k hk => ⟨okd k hk, fun c hc => ?_⟩⟩, Or.inr ⟨M.2.2.2.2, y72⟩⟩
        show qI g 75 (96 * 0 + 8 * k + c) = _
        rw [show 96 * 0 + 8 * k + c = 8 * k + c by omega]
        exact y75 k hk c hc
      · show qI g 3 6 = qI g 70 10
        rw [M.1.I rfl, e36, w10]
    · obtain ⟨er, e36, q10, q11, dc2, tg2, tv2⟩ := a0 f j io
      have sg := S9.fg M.1 rfl
      refine fin g _ M er ⟨N, rb, n, Ds, d, e, ⟨by rw [M.1.R rfl]; exact q10, by rw [M.1.R rfl]; exact q11, tt⟩, dc2.x hn (fun a ha j => low9 M a (Or.inl ha) j), dl.x sg (by rw [y73, ag9.I rfl]) (by rw [y74, ag9.I rfl]) (fun j hj => by rw [y75 j hj, ag9.I rfl]) M.2.2.2.2 ?_, tg2.ag (M.1.ag rfl), tv2.ag (M.1.ag rfl)⟩ ?_
      · rcases dl.2.2.2.2 with z | z
        · rw [o2 (by rw [ag9.i rfl]; exact z.1), z.2]
        · rw [o1 (by rw [ag9.i rfl]; exact z.1), ag9.I rfl]; exact z.2
      · show qI g 3 6 = qI g 70 10
        rw [M.1.I rfl, e36, w10]
  refine cdraw_ok x hm t1 tl z6 (by omega) c0 (fun h7 l N2 d2 io n8 n48 D7 c7 rb7 w7 => ⟨fun _ => ?_, fun z => absurd z (by decide)⟩) (fun h7 f j io D7 t7 w7 => ⟨fun z => absurd rfl z, fun _ => ⟨3, ?_, fansC_ok x t7 ?_⟩⟩)
  · have F7 := D7.fg he
    have s7 := s1.df D7
    refine ⟨e, by rw [F7.R rfl, f1.R rfl]; exact t11, d, by rw [F7.R rfl, f1.R rfl]; exact t10, fun h14 e14 h15 e15 => ?_⟩
    have q10 : qR h15 0 10 = some e := by rw [e15, rR_sR, if_pos rfl]; simp [va_up]
    have q11 : qR h15 0 11 = some d := by
      rw [e15, rR_sR, if_pos rfl, show va_up (qR h14 0) 10 (some e) 11 = qR h14 0 11 by simp [va_up], e14, rR_sR, if_pos rfl]; simp [va_up]
    have f15 : Fg [] [(0, 10), (0, 11)] h7 h15 := by rw [e15, e14]; exact (Fg.sR _ _ _ _).tr (Fg.sR _ _ _ _) rfl rfl
    have s15 := s7.fg f15 rfl
    have k15 : ∀ a, 26 ≤ a → ∀ j, qI h15 a j = qI h7 a j ∧ qR h15 a j = qR h7 a j := fun a ha j => by
      have := f15.2 a List.not_mem_nil j (by simp; omega)
      exact ⟨this.1, this.2.2⟩
    have c15 : DCl h15 e N2 d2 := by
      obtain ⟨⟨u1, u2, u3⟩, ⟨v1, v2', v3⟩, w1, w2⟩ := c7
      refine ⟨⟨by rw [(k15 e (by omega) 0).2]; exact u1, by rw [f15.L]; exact u2, fun j hj => by rw [(k15 (e + 1) (by omega) j).2]; exact u3 j hj⟩, ⟨by rw [(k15 e (by omega) 1).1]; exact v1, by rw [(k15 e (by omega) 2).1]; exact v2', by rw [(k15 e (by omega) 3).1]; exact v3⟩, w1, fun k hk => ?_⟩
      have : qI h15 (e + 2 + k) = qI h7 (e + 2 + k) := by
        funext j
        exact (k15 (e + 2 + k) (by omega) j).1
      rw [this]; exact w2 k hk
    refine ⟨7, s15.R 0 2 7 (by decide), e, q10, told_ok s15 (by omega) c15 n8 n48 rb7 (fun h20 f20 tg2 tv2 => ⟨e, by rw [f20.R rfl]; exact q10, ?_⟩)⟩
    have k20 : ∀ a, 26 ≤ a → ∀ j, qI h20 a j = qI h15 a j := fun a ha j => (f20.2 a (by simp; omega) j (by simp; omega)).1
    have dc20 : DrC h20 e N2 ((drb d2).getD 0) (dn d2) (dp d2) := by
      obtain ⟨_, ⟨v1, v2', v3⟩, w1, w2⟩ := c15
      refine ⟨by rw [k20 e (by omega)]; exact v1, by rw [k20 e (by omega)]; exact v2', by rw [k20 e (by omega)]; exact v3, fun k hk c hc hc1 => ?_⟩
      rw [k20 (e + 2 + k) (by omega)]; exact (w2 k hk).1 c hc hc1
    rw [dc20.1]
    have F17 : Fg cS cF h h7 := f1.tr F7 rfl rfl
    have F15 : Fg cS cF h h15 := F17.tr f15 rfl rfl
    refine mod h20 _ (F15.tr f20 rfl rfl) (s15.fg f20 rfl) ?_ (fun l' N' d' io' => ?_) (fun f j io' => ?_)
    · rw [f20.I rfl, f15.I rfl, F7.I rfl]; exact z1
    · have := DO_uniq x io io'
      cases this
      exact ⟨rfl, by rw [f20.I rfl, f15.I rfl]; exact w7, by rw [f20.R rfl]; exact q10, by rw [f20.R rfl]; exact q11, dc20, tg2, tv2⟩
    · have := DO_uniq x io io'
      cases this
  · have F7 := D7.fg he
    rw [F7.R rfl, f1.R rfl]; exact sh.R 0 1 3 (by decide)
  · have F7 := D7.fg he
    have F17 : Fg cS cF h h7 := f1.tr F7 rfl rfl
    refine mod h7 _ F17 (s1.df D7) (by rw [F7.I rfl]; exact z1) (fun l' N' d' io' => ?_) (fun f' j' io' => ?_)
    · have := DO_uniq x io io'
      cases this
    · have := DO_uniq x io io'
      cases this
      refine ⟨rfl, w7, by rw [F7.R rfl, f1.R rfl]; exact t10, by rw [F7.R rfl, f1.R rfl]; exact t11, dc.x hn (fun a ha k => ?_), (tg.ag (f1.ag rfl)).ag (F7.ag rfl), (tv.ag (f1.ag rfl)).ag (F7.ag rfl)⟩
      rw [(D7.2 a k (by omega)).1 (by omega)]
      exact (f1.2 a (by simp; omega) k (by simp; omega)).1

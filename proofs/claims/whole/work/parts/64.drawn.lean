/-! ===== PURE: a DRAWING's lines, as the model reads them ===== -/
theorem leastN {p : Nat → Prop} (h : ∃ k, p k) : ∃ k, p k ∧ ∀ j, p j → k ≤ j := by
  obtain ⟨k, hk⟩ := h
  induction k using Nat.strongRecOn with
  | ind k ih =>
    by_cases z : ∃ j, j < k ∧ p j
    · obtain ⟨j, hj, pj⟩ := z
      exact ih j hj pj
    · exact ⟨k, hk, fun j pj => Classical.byContradiction (fun y => z ⟨j, by omega, pj⟩)⟩
/-- a loop that gets on in a text of m tokens -/
theorem loopM {σ : Type} {body : (σ → Prop) → σ → Prop} {s0 : σ} (m : Nat) (P : Nat → σ → Prop) {i0 : Nat} (hi : i0 ≤ m) (h0 : P i0 s0) (step : ∀ i s, i ≤ m → P i s → ∀ back : σ → Prop, (∀ s2 i2, i < i2 → i2 ≤ m → P i2 s2 → back s2) → body back s) : qLoop body s0 := by
  have ex : ∀ s, (∃ i, i ≤ m ∧ P i s) → ∃ k, (∃ i, i ≤ m ∧ P i s ∧ k = m - i) ∧ ∀ j, (∃ i, i ≤ m ∧ P i s ∧ j = m - i) → k ≤ j := fun s ⟨i, a, b⟩ => leastN (p := fun k => ∃ i, i ≤ m ∧ P i s ∧ k = m - i) ⟨m - i, i, a, b, rfl⟩
  refine ⟨fun s => ∃ i, i ≤ m ∧ P i s, fun s => @dite _ (∃ i, i ≤ m ∧ P i s) (Classical.propDecidable _) (fun h => Classical.choose (ex s h)) (fun _ => 0), ⟨i0, hi, h0⟩, ?_⟩
  intro s hs
  obtain ⟨⟨i, im, pi, ei⟩, least⟩ := Classical.choose_spec (ex s hs)
  refine step i s im pi _ (fun s2 i2 lt im2 p2 => ⟨⟨i2, im2, p2⟩, ?_⟩)
  have hs2 : ∃ i, i ≤ m ∧ P i s2 := ⟨i2, im2, p2⟩
  have l2 := (Classical.choose_spec (ex s2 hs2)).2 (m - i2) ⟨i2, im2, p2, rfl⟩
  dsimp only
  rw [dif_pos hs2, dif_pos hs]
  omega
theorem bnd_inv {σ τ : Type} {a : PR σ} {f : Nat → σ → PR τ} {y : Nat × τ} (h : bnd a f = .inr y) : ∃ i d, a = .inr (i, d) ∧ f i d = .inr y := by
  cases a with
  | inl z => cases h
  | inr z => exact ⟨z.1, z.2, rfl, h⟩
section
variable {tk : Nat → TK}
theorem pN_inv {lo hi i i' v : Nat} (h : pN tk lo hi i = .inr (i', v)) : i' = i + 1 := by
  unfold pN at h
  split at h
  · split at h
    · cases h; rfl
    · cases h
  · cases h
theorem pW_inv {c i i' : Nat} {v : Unit} (h : pW tk c i = .inr (i', v)) : i' = i + 1 := by
  unfold pW at h
  split at h
  · cases h; rfl
  · cases h
theorem pS_inv {c i i' : Nat} {v : Unit} (h : pS tk c i = .inr (i', v)) : i' = i + 1 := by
  unfold pS at h
  split at h
  · cases h; rfl
  · cases h
theorem pRg_le {N c i i' : Nat} {r : Nat × Nat} (h : pRg tk N c i = .inr (i', r)) : i ≤ i' := by
  obtain ⟨i1, _, a1, h⟩ := bnd_inv h
  obtain ⟨i2, _, a2, h⟩ := bnd_inv h
  obtain ⟨i3, _, a3, h⟩ := bnd_inv h
  obtain ⟨i4, _, a4, h⟩ := bnd_inv h
  cases h
  have := pW_inv a1
  have := pN_inv a2
  have := pW_inv a3
  have := pN_inv a4
  omega
theorem pRest_le {N kk pin w i i' : Nat} {D : PD} (h : pRest tk N kk pin w i = .inr (i', D)) : i ≤ i' := by
  unfold pRest at h
  split at h
  · obtain ⟨i1, _, a1, h⟩ := bnd_inv h
    obtain ⟨i2, _, a2, h⟩ := bnd_inv h
    have := pW_inv a1
    have := pN_inv a2
    split at h
    · obtain ⟨i3, _, a3, h⟩ := bnd_inv h
      obtain ⟨i4, _, a4, h⟩ := bnd_inv h
      cases h
      have := pN_inv a3
      have := pRg_le a4
      omega
    · cases h; omega
  · split at h
    · obtain ⟨i1, _, a1, h⟩ := bnd_inv h
      obtain ⟨i2, _, a2, h⟩ := bnd_inv h
      have := pW_inv a1
      have := pN_inv a2
      split at h
      · obtain ⟨i4, _, a4, h⟩ := bnd_inv h
        cases h
        have := pRg_le a4
        omega
      · cases h; omega
    · split at h
      · cases h; omega
      · obtain ⟨i4, _, a4, h⟩ := bnd_inv h
        cases h
        exact pRg_le a4
theorem pPart_lt {N i i' : Nat} {d d2 : DD} (h : pPart tk N d i = .inr (i', d2)) : i < i' := by
  unfold pPart at h
  split at h
  · cases h
  · split at h
    · cases h
    · obtain ⟨i1, _, a1, h⟩ := bnd_inv h
      obtain ⟨i2, _, a2, h⟩ := bnd_inv h
      obtain ⟨i3, _, a3, h⟩ := bnd_inv h
      obtain ⟨i4, _, a4, h⟩ := bnd_inv h
      cases h
      have e1 : i1 = i + 1 + 1 := by
        unfold pNm at a1
        split at a1
        · split at a1
          · cases a1
          · cases a1; rfl
        · cases a1
      have := pN_inv a2
      have := pN_inv a3
      have := pRest_le a4
      omega
theorem plD_lt {N l i i' : Nat} {d d2 : DD} (h : plD tk N l i d = .inr (i', d2)) : i < i' := by
  unfold plD at h
  split at h
  · split at h
    · cases h
    · obtain ⟨i1, _, a1, h⟩ := bnd_inv h
      obtain ⟨i2, _, a2, h⟩ := bnd_inv h
      cases h
      have := pN_inv a1
      have := pS_inv a2
      omega
  · obtain ⟨i1, _, a1, h⟩ := bnd_inv h
    obtain ⟨i2, _, a2, h⟩ := bnd_inv h
    cases h
    have := pPart_lt a1
    have := pS_inv a2
    omega
end
section
variable {h g : PH} {b : Nat → Nat} {sz lim m i N l : Nat} {tk : Nat → TK} {d : DD}
theorem mline_ok (sh : Shp h) (x : Tx b sz lim m tk) (s : MS h b sz lim m tk i) (c : DMl h N d) (hN8 : 8 ≤ N) (hN : N ≤ 48) (hr : (drb d).getD 0 ≤ 999) {Q : Int32 → PH → Prop}
    (q1 : ∀ h1 i' d2, plD tk N l i d = .inr (i', d2) → MFr gF h h1 → MS h1 b sz lim m tk i' → DMl h1 N d2 → (drb d2).getD 0 ≤ 999 → Q 1 h1)
    (q0 : ∀ h1 f j, plD tk N l i d = .inl (f, j) → MFr mF h h1 → qI h1 70 10 = nI f → qI h1 70 11 = nI (stT (tk j)) → Q 0 h1) : wp_X12_readLine 70 h Q := by
  have flt : ∀ {h1 h2 : PH} {f j : Nat}, plD tk N l i d = .inl (f, j) → MFr gF h h1 → flM h1 h2 tk f j → Q 0 h2 := fun e M c => q0 _ _ _ e (M.tr (MFr.k (F := mF) c.1 rfl rfl) rfl rfl) c.2.1 c.2.2
  have M0 : MFr gF h h := MFr.k (F := gF) (Fg.rf _ _ _) rfl rfl
  have in73 : vp_in 1 (qL h 73) := by rw [sh.L 73 (n := 8) (by decide) rfl]; exact vp_in_nI (n := 1) (by decide) (by decide)
  refine isRub_ok x s (fun zr => ⟨fun y => absurd y (by decide), fun _ => ⟨73, sh.R 70 15 73 (by decide), in73, ?_⟩⟩) (fun zr => ⟨fun _ => ?_, fun y => absurd rfl y⟩)
  · have lt := x.lt s.2.2 (show ¬ kdT (tk i) = 0 by rw [zr.1]; decide)
    rw [c1_n', c.1.2.1]
    refine ⟨fun y => ?_, fun y => bad_ok (f := 3) x s (Or.inr ⟨lt, by rw [zr.1]; decide⟩) (fun h1 f1 w1 w2 => ⟨Or.inl rfl, flt ?_ M0 ⟨f1.mono rfl, w1, w2⟩⟩)⟩
    · have no : drb d = none := by
        cases e : drb d with
        | none => rfl
        | some v =>
          rw [e] at y hr
          exact absurd y (nI_m1 (by have : v ≤ 999 := hr; omega))
      have pl : plD tk N l i d = (bnd (pN tk 0 999 (i + 1)) fun i v => bnd (pS tk 59 i) fun i _ => .inr (i, setR d v)) := by
        unfold plD
        rw [if_pos zr, if_neg (by rw [no]; exact Bool.false_ne_true)]
      refine goM_ok x s lt (fun h1 f1 s1 => ?_)
      have M1 : MFr gF h h1 := MFr.k (F := gF) (f1.mono rfl) rfl rfl
      have c1 := c.ag (f1.ag rfl)
      have sh1 := sh.fg f1 rfl
      refine rN_ok x s1 (lo := 0) (hi := 999) (by decide) (by decide) (fun h2 v e2 l0 l1 o2 v2 => ⟨fun _ => ?_, fun z => absurd z (by decide)⟩) (fun h2 f e2 c2 => ⟨fun z => absurd rfl z, fun _ => flt (by rw [pl]; exact bnd_l e2) M1 c2⟩)
      have c2 := c1.ag (o2.1.ag rfl)
      have sh2 := sh1.fg o2.1 rfl
      refine ⟨73, sh2.R 70 15 73 (by decide), by rw [sh2.L 73 (n := 8) (by decide) rfl]; exact vp_in_nI (n := 1) (by decide) (by decide), fun h3 e3 => ?_⟩
      rw [v2] at e3
      have f3 : Fg [] [(73, 1)] h2 h3 := by rw [e3]; exact Fg.sI _ _ _ _
      have M3 : MFr gF h h3 := (M1.tr (MFr.k (F := gF) o2.1 rfl rfl) (V := gF) rfl rfl).tr (G := gF) ⟨f3.mono rfl, fun j _ => by rw [e3, rI_ne _ _ _ (by decide)]⟩ rfl rfl
      have s3 := o2.2.ag (f3.ag rfl)
      have c3 : DMl h3 N (setR d v) := by
        obtain ⟨⟨a1, a2, a3⟩, c1', c2'⟩ := c2
        refine ⟨⟨by rw [f3.I rfl]; exact a1, by rw [e3, rI_sI, if_pos rfl, up_eq]; rfl, by rw [f3.I rfl]; exact a3⟩, c1', fun k hk => ⟨fun j hj => ?_, ?_, (c2' k hk).2.2⟩⟩
        · rw [(f3.ag (C := [75, 76]) (G := []) rfl).I rfl]; exact (c2' k hk).1 j hj
        · rw [(f3.ag (C := [75, 76]) (G := []) rfl).J rfl]; exact (c2' k hk).2.1
      refine rE_ok x s3 (fun h4 e4 o4 => ⟨Or.inr rfl, q1 h4 _ (setR d v) (by rw [pl]; exact (bnd_r e2).trans (bnd_r e4)) (M3.tr (MFr.k (F := gF) o4.1 rfl rfl) rfl rfl) o4.2 (c3.ag (o4.1.ag rfl)) l1⟩) (fun h4 e4 c4 => ⟨Or.inl rfl, flt (by rw [pl]; exact (bnd_r e2).trans (bnd_l e4)) M3 c4⟩)
    · unfold plD
      rw [if_pos zr]
      cases e : drb d with
      | none => rw [e] at y; exact absurd rfl y
      | some v => rfl
  · have pl : plD tk N l i d = (bnd (pPart tk N d i) fun i d2 => bnd (pS tk 59 i) fun i _ => .inr (i, d2)) := by
      unfold plD
      rw [if_neg zr]
    refine mkind_ok x s (fun kk ek k5 => ⟨fun _ => ?_, fun y => absurd y (nI_m1 (by omega))⟩) (fun ek => ⟨fun y => absurd rfl y, fun _ => bad_ok (f := 1) x s (Or.inl rfl) (fun h1 f1 w1 w2 => ⟨Or.inl rfl, flt (by rw [pl]; exact bnd_l (pPart_n ek)) M0 ⟨f1.mono rfl, w1, w2⟩⟩)⟩)
    refine mpart_ok sh x s c hN8 hN ek k5 (fun h1 i' d2 e1 M1 s1 c1 rb => ⟨fun y => absurd y (by decide), fun _ => ?_⟩) (fun h1 f j e1 M1 w1 w2 => ⟨fun _ => q0 h1 f j (by rw [pl]; exact bnd_l e1) M1 w1 w2, fun y => absurd rfl y⟩)
    refine rE_ok x s1 (fun h4 e4 o4 => ⟨fun y => absurd y (by decide), fun _ => q1 h4 _ d2 (by rw [pl]; exact (bnd_r e1).trans (bnd_r e4)) (M1.tr (MFr.k (F := gF) o4.1 rfl rfl) rfl rfl) o4.2 (c1.ag (o4.1.ag rfl)) (by rw [rb]; exact hr)⟩) (fun h4 e4 c4 => ⟨fun _ => flt (by rw [pl]; exact (bnd_r e1).trans (bnd_l e4)) M1 c4, fun y => absurd rfl y⟩)
theorem mlines_ok {i0 : Nat} (sh : Shp g) (x : Tx b sz lim m tk) (s : MS g b sz lim m tk i0) (c : DMl g N d00) (hN8 : 8 ≤ N) (hN : N ≤ 48) {Q : Int32 → PH → Prop}
    (q1 : ∀ g1 l d, IO (plD tk N) i0 d00 m (lim < sz) (.inr (l, d)) → Fg [72, 73, 74, 75, 76] gF g g1 → qI g1 72 0 = nI N → qI g1 73 0 = nI ((drb d).getD 0) → qI g1 74 0 = nI (dn d) → (∀ k, k < dn d → ∀ j, j < 8 → qI g1 75 (8 * k + j) = mRow (dp d k) j) → (∀ j, 2 ≤ j → qI g1 72 j = qI g 72 j ∧ qI g1 73 j = qI g 73 j ∧ qI g1 74 j = qI g 74 j) → (∀ j, 192 ≤ j → qI g1 75 j = qI g 75 j) → Q (nI (dn d)) g1)
    (q0 : ∀ g1 f j, IO (plD tk N) i0 d00 m (lim < sz) (.inl (f, j)) → MFr mF g g1 → qI g1 70 10 = nI f → qI g1 70 11 = nI (stT (tk j)) → Q (-1 - nI (stT (tk j))) g1) : qLoop (wp_X12_drawing_144 70 Q) g := by
  refine loopM m (fun i st => ∃ l d, itr (plD tk N) i0 d00 l = .inr (i, d) ∧ MFr gF g st ∧ MS st b sz lim m tk i ∧ DMl st N d ∧ (drb d).getD 0 ≤ 999) s.2.2 ⟨0, d00, rfl, MFr.k (F := gF) (Fg.rf _ _ _) rfl rfl, s, c, Nat.zero_le _⟩ ?_
  rintro i st im ⟨l, d, it, M, sm, cm, rb⟩ back hb
  have sh1 : Shp st := sh.fg M.1 rfl
  obtain ⟨c7, hc7, e7, _, _, _, i0', _⟩ := sm.k x
  refine pk_eq c7 0 (fun z => ?_) (fun z => mline_ok sh1 x sm cm hN8 hN rb (l := l) (fun g2 i2 d2 p2 M2 s2 c2 r2 => ⟨fun _ => hb g2 i2 (plD_lt p2) s2.2.2 ⟨l + 1, d2, (itr_s it).trans p2, M.tr M2 rfl rfl, s2, c2, r2⟩, fun y => absurd y (by decide)⟩) (fun g2 f j p2 M2 w1 w2 => ⟨fun y => absurd rfl y, fun _ => ?_⟩)) e7
  · obtain ⟨em, nt⟩ := i0'.mp z
    subst em
    have io : IO (plD tk N) i0 d00 i (lim < sz) (.inr (l, d)) := ⟨l, Or.inl ⟨d, it, Or.inr ⟨nt, rfl⟩⟩⟩
    have in73 : vp_in 1 (qL st 73) := by rw [sh1.L 73 (n := 8) (by decide) rfl]; exact vp_in_nI (n := 1) (by decide) (by decide)
    -- the copy
    have cp : ∀ st2, Fg [] [(73, 1)] st st2 → qI st2 73 1 = nI ((drb d).getD 0) → wp_X12_copy 70 1 0 st2 (fun h38 => (∃ b40, qR h38 70 16 = some b40 ∧ (vp_in 0 (qL h38 b40) ∧ Q (qI h38 b40 (0 : Int32).toNatClampNeg) h38))) := by
      intro st2 f2 v73
      have sh2 := sh1.fg f2 rfl
      refine mcopy_ok (a := 1) (b := 0) sh2 (by decide) (by decide) (by decide) (fun g3 f3 k72 k73 k74 k75 => ?_)
      have sh3 := sh2.fg f3 rfl
      obtain ⟨⟨a1, a2, a3⟩, cc1, cc2⟩ := cm
      have e74 : qI g3 74 0 = nI (dn d) := by rw [k74, if_pos rfl, f2.I rfl]; exact a3
      refine ⟨74, sh3.R 70 16 74 (by decide), by rw [sh3.L 74 (n := 8) (by decide) rfl]; exact vp_in_nI (n := 0) (by decide) (by decide), ?_⟩
      rw [c0_n, e74]
      have g75 : ∀ j, qI st2 75 j = qI st 75 j := fun j => (f2.ag (C := [75]) (G := []) rfl).I rfl j
      have fst : Fg [72, 73, 74, 75, 76] gF g st := M.1.mono rfl
      refine q1 g3 l d io ((fst.tr f2 (U := [72, 73, 74, 75, 76]) (V := gF) rfl rfl).tr f3 rfl rfl) ?_ ?_ e74 (fun k hk j hj => ?_) (fun j hj => ⟨?_, ?_, ?_⟩) (fun j hj => ?_)
      · rw [k72, if_pos rfl, f2.I rfl]; exact a1
      · rw [k73, if_pos rfl]; exact v73
      · rw [k75, if_pos (by omega), show 96 * 1 + (8 * k + j - 96 * 0) = 96 + 8 * k + j by omega, g75]; exact (cc2 k hk).1 j hj
      · rw [k72, if_neg (by omega), (f2.2 72 (by decide) j (by simp)).1, (M.1.2 72 (by decide) j (by simp [gF]; omega)).1]
      · rw [k73, if_neg (by omega), (f2.2 73 (by decide) j (by simp; omega)).1, (M.1.2 73 (by decide) j (by simp [gF]; omega)).1]
      · rw [k74, if_neg (by omega), (f2.2 74 (by decide) j (by simp)).1, (M.1.2 74 (by decide) j (by simp [gF]; omega)).1]
      · rw [k75, if_neg (by omega), g75]; exact M.2 j (by omega)
    refine ⟨73, sh1.R 70 15 73 (by decide), in73, ?_⟩
    rw [c1_n', cm.1.2.1]
    refine ⟨fun y => cp st (Fg.rf _ _ _) ?_, fun y => ⟨73, sh1.R 70 15 73 (by decide), in73, fun st2 e2 => cp st2 ?_ ?_⟩⟩
    · rw [cm.1.2.1]
      cases e : drb d with
      | none => rw [e] at y; exact absurd rfl y
      | some v => rfl
    · rw [e2]; exact Fg.sI _ _ _ _
    · have no : drb d = none := by
        cases e : drb d with
        | none => rfl
        | some v =>
          rw [e] at y rb
          exact absurd y (nI_m1 (by have : v ≤ 999 := rb; omega))
      rw [e2, rI_sI, if_pos rfl, up_eq, no]; rfl
  · rw [w2]
    refine q0 g2 f j ?_ (M.tr M2 rfl rfl) w1 w2
    rcases (show i < m ∨ i = m by omega) with y | y
    · exact ⟨l, Or.inr ⟨i, d, (f, j), it, y, p2, rfl⟩⟩
    · subst y
      have ov : lim < sz := Classical.byContradiction (fun t => z (i0'.mpr ⟨rfl, t⟩))
      refine ⟨l, Or.inl ⟨d, it, Or.inl ⟨ov, ?_⟩⟩⟩
      obtain ⟨y2, p3⟩ := plD_m x (N := N) l d
      have e := x.end.1
      have p : plD tk N l i d = .inl (1, i) := by
        unfold plD
        rw [if_neg (fun t => by rw [e] at t; exact absurd t.1 (by decide))]
        refine bnd_l (pPart_n ?_)
        unfold kcO
        rw [if_neg (by rw [e]; decide)]
      rw [p] at p2
      exact p2.symm
end

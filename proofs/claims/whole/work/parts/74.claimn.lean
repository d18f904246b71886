/-! ===== PURE: the model reads one of a CLAIM ===== -/
section
variable {b : Nat → Nat} {sz lim m dep : Nat} {tk : Nat → TK}
theorem dec_ok {g g2 : PH} {d : CD} (c : CMl g d (dep + 1)) (h1 : 1 ≤ dep) (e2 : g2 = qsI g 70 43 (qI g 70 43 - 1)) : CMl g2 d dep := by
  obtain ⟨a1, a2, a3, cl⟩ := c
  have f : Fg [] [(70, 43)] g g2 := by rw [e2]; exact Fg.sI _ _ _ _
  have A := f.ag (C := [81, 82, 83, 84]) (G := [(70, 41), (70, 42)]) rfl
  refine ⟨by rw [A.i rfl]; exact a1, by rw [A.i rfl]; exact a2, ?_, fun k hk => by rw [A.I rfl, A.I rfl, A.I rfl, A.I rfl]; exact cl k hk⟩
  rw [e2, rI_sI, if_pos rfl, up_eq, a3]
  obtain ⟨k, ek⟩ : ∃ k, dep = k + 1 := ⟨dep - 1, by omega⟩
  subst ek
  rw [show k + 1 + 1 - 1 = k + 1 by omega, nI_pred]; rfl
theorem N43 {g g2 : PH} {v : Int32} (e2 : g2 = qsI g 70 43 v) : NFr gF g g2 := by
  have f : Fg [] [(70, 43)] g g2 := by rw [e2]; exact Fg.sI _ _ _ _
  exact ⟨f.mono rfl, fun a ha j _ => by rw [e2, rI_ne _ _ _ (by omega)]⟩
theorem N47 {g g2 : PH} {v : Int32} (e2 : g2 = qsI g 70 47 v) : NFr gF g g2 := by
  have f : Fg [] [(70, 47)] g g2 := by rw [e2]; exact Fg.sI _ _ _ _
  exact ⟨f.mono rfl, fun a ha j _ => by rw [e2, rI_ne _ _ _ (by omega)]⟩
theorem MR_one (x : Tx b sz lim m tk) : ∀ f n dep, 3 * f ≤ n → f + dep = 13 → dep ≤ 9 → 1 ≤ dep → MR1 b sz lim m tk (rg_X12 n).2.1 (pOf tk f dep) dep := by
  intro f
  induction f with
  | zero => intro n dep _ h1 h2; omega
  | succ f ih =>
    intro n0 dep hn hd h9 h1d h i d Q sh s c bd q1 q0
    obtain ⟨n, en⟩ : ∃ n, n0 = n + 1 := ⟨n0 - 1, by omega⟩
    subst en
    have bd' := x.bd s.2.2
    have st0 := fun hs h2 => pOf_s (tk := tk) (f := f) (dep := dep) (i := i) (d := d) hs h2
    -- behind the first look
    have main : ((kdT (tk i) = 1 ∧ ctT (tk i) = cw 18) ∨ (kdT (tk i) = 3 ∧ ctT (tk i) = 40) ∨ isV tk i) → ∀ r4 r6 : Int32, (¬ r4 = 0 ↔ (kdT (tk i) = 1 ∧ ctT (tk i) = cw 18)) → (¬ r6 = 0 ↔ (kdT (tk i) = 3 ∧ ctT (tk i) = 40)) → wp_X12_readOne_53 ((rg_X12 n).1) ((rg_X12 n).2.1) ((rg_X12 n).2.2) 70 r4 r6 h Q := by
      intro hs r4 r6 w4 w6
      have in4 : i < m ∧ ¬ kdT (tk i) = 4 := by
        rcases hs with u | u | ⟨v, u⟩
        · exact ⟨x.lt s.2.2 (by rw [u.1]; decide), by rw [u.1]; decide⟩
        · exact ⟨x.lt s.2.2 (by rw [u.1]; decide), by rw [u.1]; decide⟩
        · refine ⟨(pV_op x s.2.2 u).2.2, fun y => ?_⟩
          unfold pV at u
          rw [if_neg (by rw [y]; decide), if_neg (by rw [y]; decide)] at u
          cases u
      have bad4 : (20 ≤ xc d ∨ 8 < dep) → wp_X12_bad 70 4 h (fun r18 h17 => ((r18 = 0 ∨ r18 = 1) ∧ Q r18 h17)) := fun z => bad_ok (f := 4) x s (Or.inr in4) (fun h1 f1 w1 w2 => ⟨Or.inl rfl, q0 h1 4 i (pOf_4 hs z) (NFr.k (F := mF) (f1.mono rfl) rfl rfl) w1 w2⟩)
      refine pk_eq (xc d) 20 (fun z => bad4 (Or.inl (by omega))) (fun z20 => n_eq (dep - 1) 8 (fun z8 h21 e21 h22 e22 => ?_) (fun z => bad4 (Or.inr (by omega))) c.2.2.1 rfl (by omega)) c.2.1 rfl (by have := bd.2.2; omega)
      have lt20 : xc d < 20 := by have := bd.2.2; omega
      have bi := bd.inc lt20
      have f21 : Fg [] [(70, 42)] h h21 := by rw [e21]; exact Fg.sI _ _ _ _
      have f22 : Fg [] [(70, 42), (70, 43)] h h22 := by rw [e22]; exact f21.tr (Fg.sI _ _ _ _) rfl rfl
      have sh22 := sh.fg f22 rfl
      have s22 := s.ag (f22.ag rfl)
      have N22 : NFr gF h h22 := ⟨f22.mono rfl, fun a ha j _ => by
        have A := f22.ag (C := [81, 82, 83, 84]) (G := []) rfl
        rcases ha with z | z | z | z <;> (rw [z]; exact A.I rfl j)⟩
      have c22 : CMl h22 (incC d) (dep + 1) := by
        obtain ⟨a1, a2, a3, cl⟩ := c
        have A := f22.ag (C := [81, 82, 83, 84]) (G := [(70, 41)]) rfl
        refine ⟨by rw [A.i rfl]; exact a1, ?_, ?_, fun k hk => by rw [A.I rfl, A.I rfl, A.I rfl, A.I rfl]; exact cl k hk⟩
        · rw [e22, rI_sI, if_pos rfl, up_ne _ _ (by decide), e21, rI_sI, if_pos rfl, up_eq, a2, nI_1]; rfl
        · rw [e22, rI_sI, if_pos rfl, up_eq, f21.I rfl, a3, nI_1, show dep - 1 + 1 = dep + 1 - 1 by omega]
      have pp := st0 hs (by omega)
      have nf : ∀ {g1 g2 : PH} {f' j : Nat}, pOf tk (f + 1) dep i d = .inl (f', j) → NFr gF h g1 → flM g1 g2 tk f' j → Q 0 g2 := fun e N c => q0 _ _ _ e (N.tr (NFr.k (F := mF) c.1 rfl rfl) rfl rfl) c.2.1 c.2.2
      refine ⟨fun y4 => ⟨fun y6 => ?_, fun y6 => ?_⟩, fun y4 => ?_⟩
      · -- a comparison
        have n6 : ¬ (kdT (tk i) = 3 ∧ ctT (tk i) = 40) := fun u => (w6.mpr u) y6
        have n4 : ¬ (kdT (tk i) = 1 ∧ ctT (tk i) = cw 18) := fun u => (w4.mpr u) y4
        rw [if_neg n6, if_neg n4] at pp
        refine rV_ok x s22 (fun h25 v ev o25 w25 => ⟨fun _ v28 e28 => ?_, fun y => absurd y (by decide)⟩) (fun h25 ev c25 => ⟨fun y => absurd rfl y, fun _ => nf (by rw [pp]; exact bnd_l ev) N22 c25⟩)
        rw [w25] at e28
        subst e28
        have N25 : NFr gF h h25 := N22.tr (NFr.k (F := gF) o25.1 rfl rfl) rfl rfl
        have c25 := c22.ag (o25.1.ag rfl)
        have sh25 := sh22.fg o25.1 rfl
        have s25 := o25.2
        have cmp : isR tk (i + 1) → wp_X12_readOne_218 ((rg_X12 n).1) ((rg_X12 n).2.1) ((rg_X12 n).2.2) 70 (nI v) h25 Q := by
          intro r v67 e67
          rw [(s25.ct x).2.2 r.1] at e67
          subst e67
          refine goM_ok x s25 (x.lt s25.2.2 (by rw [r.1]; decide)) (fun h26 f26 s26 => ?_)
          have N26 : NFr gF h h26 := N25.tr (NFr.k (F := gF) (f26.mono rfl) rfl rfl) rfl rfl
          have c26 := c25.ag (f26.ag rfl)
          have sh26 := sh25.fg f26 rfl
          refine rV_ok x s26 (fun h27 v2 ev2 o27 w27 => ⟨fun _ => ?_, fun y => absurd y (by decide)⟩) (fun h27 ev2 c27 => ⟨fun y => absurd rfl y, fun _ => nf (by rw [pp]; exact (bnd_r ev).trans ((if_pos r).trans (bnd_l ev2))) N26 c27⟩)
          have N27 : NFr gF h h27 := N26.tr (NFr.k (F := gF) o27.1 rfl rfl) rfl rfl
          rw [w27]
          have n60 : xn (incC d) < 60 := by
            show xn d < 60
            have := bd.2.1
            omega
          refine lays_ok (y := (4, v, v2, ctT (tk (i + 1)))) (s := xn (incC d) :: xS (incC d) (xn (incC d))) (sh26.fg o27.1 rfl) o27.2 (c26.ag (o27.1.ag rfl)) n60 (fun h28 N28 s28 c28 h75 e75 h76 e76 => ?_)
          have f75 : Fg [] [(70, 47)] h28 h75 := by rw [e75]; exact Fg.sI _ _ _ _
          have f76 : Fg [] [(70, 43)] h75 h76 := by rw [e76]; exact Fg.sI _ _ _ _
          refine q1 h76 _ _ _ (by rw [pp]; exact (bnd_r ev).trans ((if_pos r).trans (bnd_r ev2))) (((N27.tr N28 (V := gF) rfl rfl).tr (N47 e75) (V := gF) rfl rfl).tr (N43 e76) rfl rfl) ((s28.ag (f75.ag rfl)).ag (f76.ag rfl)) (dec_ok (c28.ag (f75.ag rfl)) h1d e76) ?_
          rw [f76.I rfl, e75, rI_sI, if_pos rfl, up_eq]
        refine isSignM_ok x s25 (c := 60) (by decide) (fun z => ⟨fun _ => cmp ⟨z.1, Or.inl z.2⟩, fun y => absurd y (by decide)⟩) (fun z0 => ⟨fun y => absurd rfl y, fun _ => ?_⟩)
        refine isSignM_ok x s25 (c := 61) (by decide) (fun z => ⟨fun _ => cmp ⟨z.1, Or.inr (Or.inl z.2)⟩, fun y => absurd y (by decide)⟩) (fun z1 => ⟨fun y => absurd rfl y, fun _ => ?_⟩)
        refine isSignM_ok x s25 (c := 62) (by decide) (fun z => ⟨fun _ => cmp ⟨z.1, Or.inr (Or.inr z.2)⟩, fun y => absurd y (by decide)⟩) (fun z2 => ⟨fun y => absurd rfl y, fun _ => ?_⟩)
        have nr' : ¬ isR tk (i + 1) := fun r => by
          rcases r.2 with y | y | y
          · exact z0 ⟨r.1, y⟩
          · exact z1 ⟨r.1, y⟩
          · exact z2 ⟨r.1, y⟩
        exact bad_ok (f := 1) x s25 (Or.inl rfl) (fun h26 f26 w1 w2 => ⟨Or.inl rfl, nf (by rw [pp]; exact (bnd_r ev).trans (if_neg nr')) N25 ⟨f26.mono rfl, w1, w2⟩⟩)
      · -- in brackets
        have z := w6.mp y6
        rw [if_pos z] at pp
        refine goM_ok x s22 (x.lt s22.2.2 (by rw [z.1]; decide)) (fun h41 f41 s41 => ?_)
        have N41 : NFr gF h h41 := N22.tr (NFr.k (F := gF) (f41.mono rfl) rfl rfl) rfl rfl
        obtain ⟨n3, en3⟩ : ∃ n3, n = n3 + 1 + 1 := ⟨n - 2, by omega⟩
        subst en3
        have C1 := ih n3 (dep + 1) (by omega) (by omega) (by omega) (by omega)
        have o1 := pOf_ok x f (dep + 1)
        have CA : MR1 b sz lim m tk (rg_X12 (n3 + 1)).1 (pAl tk (pOf tk f (dep + 1))) (dep + 1) := MR_and x o1 C1
        have CC : MR1 b sz lim m tk (rg_X12 (n3 + 1 + 1)).2.2 (pCn tk (pOf tk f (dep + 1))) (dep + 1) := MR_or x (pAl_ok x o1) CA
        refine CC h41 (i + 1) (incC d) _ (sh22.fg f41 rfl) s41 (c22.ag (f41.ag rfl)) bi (fun h43 i3 d3 t3 e3 N43' s43 c43 w43 => ⟨fun _ => ?_, fun y => absurd y (by decide)⟩) (fun h43 f' j e3 N43' w1 w2 => ⟨fun y => absurd rfl y, fun _ => q0 h43 f' j (by rw [pp]; exact bnd_l e3) (N41.tr N43' rfl rfl) w1 w2⟩)
        have N43a : NFr gF h h43 := N41.tr N43' rfl rfl
        refine isSignM_ok x s43 (c := 41) (by decide) (fun z41 => ⟨fun _ => goM_ok x s43 (x.lt s43.2.2 (by rw [z41.1]; decide)) (fun h49 f49 s49 h51 e51 => ?_), fun y => absurd y (by decide)⟩) (fun z41 => ⟨fun y => absurd rfl y, fun _ => bad_ok (f := 1) x s43 (Or.inl rfl) (fun h52 f52 w1 w2 => ⟨Or.inl rfl, nf (by rw [pp]; exact (bnd_r e3).trans (bnd_l (if_neg z41))) N43a ⟨f52.mono rfl, w1, w2⟩⟩)⟩)
        have f51 : Fg [] [(70, 43)] h49 h51 := by rw [e51]; exact Fg.sI _ _ _ _
        refine q1 h51 _ d3 t3 (by rw [pp]; exact (bnd_r e3).trans (bnd_r (if_pos z41))) ((N43a.tr (NFr.k (F := gF) (f49.mono rfl) rfl rfl) (V := gF) rfl rfl).tr (N43 e51) rfl rfl) (s49.ag (f51.ag rfl)) (dec_ok (c43.ag (f49.ag rfl)) h1d e51) ?_
        rw [f51.I rfl, f49.I rfl]; exact w43
      · -- not
        have z := w4.mp y4
        have n6 : ¬ (kdT (tk i) = 3 ∧ ctT (tk i) = 40) := fun u => by rw [z.1] at u; exact absurd u.1 (by decide)
        rw [if_neg n6, if_pos z] at pp
        refine goM_ok x s22 (x.lt s22.2.2 (by rw [z.1]; decide)) (fun h55 f55 s55 => ?_)
        have N55 : NFr gF h h55 := N22.tr (NFr.k (F := gF) (f55.mono rfl) rfl rfl) rfl rfl
        have sh55 := sh22.fg f55 rfl
        refine ih n (dep + 1) (by omega) (by omega) (by omega) (by omega) h55 (i + 1) (incC d) _ sh55 s55 (c22.ag (f55.ag rfl)) bi (fun h57 i3 d3 t3 e3 N57 s57 c57 w57 => ⟨fun _ => ?_, fun y => absurd y (by decide)⟩) (fun h57 f' j e3 N57 w1 w2 => ⟨fun y => absurd rfl y, fun _ => q0 h57 f' j (by rw [pp]; exact bnd_l e3) (N55.tr N57 rfl rfl) w1 w2⟩)
        obtain ⟨l1, l2, g3⟩ := pOf_ok x f (dep + 1) _ _ _ _ _ s55.2.2 bi e3
        have n60 : xn d3 < 60 := by
          have a1 := g3.2.2.2.2
          have a2 := bi.2.1
          have a3 := g3.2.2.2.1
          omega
        rw [w57]
        refine lays_ok (y := (1, t3, 0, 0)) (s := xn d3 :: (xS d3 (xn d3)).tail) (sh55.fg N57.1 rfl) s57 c57 n60 (fun h60 N60 s60 c60 h62 e62 h63 e63 => ?_)
        have f62 : Fg [] [(70, 47)] h60 h62 := by rw [e62]; exact Fg.sI _ _ _ _
        have f63 : Fg [] [(70, 43)] h62 h63 := by rw [e63]; exact Fg.sI _ _ _ _
        refine q1 h63 i3 _ _ (by rw [pp]; exact bnd_r e3) ((((N55.tr N57 (V := gF) rfl rfl).tr N60 (V := gF) rfl rfl).tr (N47 e62) (V := gF) rfl rfl).tr (N43 e63) rfl rfl) ((s60.ag (f62.ag rfl)).ag (f63.ag rfl)) (dec_ok (c60.ag (f62.ag rfl)) h1d e63) ?_
        rw [f63.I rfl, e62, rI_sI, if_pos rfl, up_eq]
    show wp_X12_readOne ((rg_X12 n).1) ((rg_X12 n).2.1) ((rg_X12 n).2.2) 70 h Q
    unfold wp_X12_readOne
    obtain ⟨c7, hc7, e7, i1, i2, _⟩ := s.k x
    have f0 : ¬ (0 : Int32) = 0 → False := fun y => y rfl
    refine sp_not (isKw_ok x s (by decide) (fun z1 => isSignM_ok x s (c := 40) (by decide) (fun z2 => ?_) (fun z2 => ?_)) (fun z1 => isSignM_ok x s (c := 40) (by decide) (fun z2 => ?_) (fun z2 => ?_)))
    · exact ⟨fun _ => main (Or.inl z1) 1 1 ⟨fun _ => z1, fun _ => by decide⟩ ⟨fun _ => z2, fun _ => by decide⟩, fun y => absurd y (by decide)⟩
    · exact ⟨fun _ => main (Or.inl z1) 1 0 ⟨fun _ => z1, fun _ => by decide⟩ ⟨fun y => absurd rfl y, fun y => absurd y z2⟩, fun y => absurd y (by decide)⟩
    · exact ⟨fun y => absurd rfl y, fun _ => ⟨fun _ => main (Or.inr (Or.inl z2)) 0 1 ⟨fun y => absurd rfl y, fun y => absurd y z1⟩ ⟨fun _ => z2, fun _ => by decide⟩, fun y => absurd y (by decide)⟩⟩
    · have m00 : isV tk i → wp_X12_readOne_53 ((rg_X12 n).1) ((rg_X12 n).2.1) ((rg_X12 n).2.2) 70 0 0 h Q := fun iv => main (Or.inr (Or.inr iv)) 0 0 ⟨fun y => absurd rfl y, fun y => absurd y z1⟩ ⟨fun y => absurd rfl y, fun y => absurd y z2⟩
      refine ⟨fun y => absurd rfl y, fun _ => ⟨fun y => absurd rfl y, fun _ => pk_eq c7 3 (fun z => m00 ⟨_, if_pos (i2.mp z)⟩) (fun z => ?_) e7⟩⟩
      have n2 : ¬ kdT (tk i) = 2 := fun y => z (i2.mpr y)
      refine mvA_ok x s (fun y k1 ey y8 => ⟨fun _ => m00 ⟨y, ?_⟩, fun u => absurd u (nI_m1 (by omega))⟩) (fun no => ⟨fun u => absurd rfl u, fun _ => bad_ok (f := 1) x s (Or.inl rfl) (fun h1 f1 w1 w2 => ⟨Or.inl rfl, q0 h1 1 i (pOf_n (fun u => ?_)) (NFr.k (F := mF) (f1.mono rfl) rfl rfl) w1 w2⟩)⟩)
      · unfold pV
        rw [if_neg n2, if_pos k1, ey]
      · rcases u with u | u | ⟨v, u⟩
        · exact z1 u
        · exact z2 u
        · unfold pV at u
          rw [if_neg n2] at u
          rcases no with w | w
          · rw [if_neg w] at u; cases u
          · split at u
            · rw [w] at u; cases u
            · cases u
end

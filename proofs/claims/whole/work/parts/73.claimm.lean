/-! ===== PURE: the model's readers of a CLAIM ===== -/
def nL : List (Nat × Nat) := [(70, 41), (70, 42), (70, 43), (70, 47)]
def NFr (F : List (Nat × Nat)) (h g : PH) : Prop := Fg [81, 82, 83, 84] (nL ++ F) h g ∧ ∀ a, (a = 81 ∨ a = 82 ∨ a = 83 ∨ a = 84) → ∀ j, j < 60 → qI g a j = qI h a j
theorem NFr.tr {F G V : List (Nat × Nat)} {h h1 h2 : PH} (a : NFr F h h1) (c : NFr G h1 h2) (c1 : fsub [81, 82, 83, 84] (nL ++ F) [81, 82, 83, 84] (nL ++ V) = true) (c2 : fsub [81, 82, 83, 84] (nL ++ G) [81, 82, 83, 84] (nL ++ V) = true) : NFr V h h2 := ⟨a.1.tr c.1 c1 c2, fun x hx j hj => (c.2 x hx j hj).trans (a.2 x hx j hj)⟩
theorem NFr.k {F : List (Nat × Nat)} {h h1 : PH} (f : Fg [] F h h1) (c1 : fsub [] F [81, 82, 83, 84] (nL ++ F) = true) (c2 : fag [] F [81, 82, 83, 84] [] = true) : NFr F h h1 := ⟨f.mono c1, fun a ha j _ => by
  have A := f.ag (C := [81, 82, 83, 84]) (G := []) c2
  rcases ha with z | z | z | z <;> (rw [z]; exact A.I rfl j)⟩
def CMl (h : PH) (d : CD) (dep : Nat) : Prop := qI h 70 41 = nI (xn d) ∧ qI h 70 42 = nI (xc d) ∧ qI h 70 43 = nI (dep - 1) ∧ CLM h 60 (xn d) (xd d)
theorem CMl.ag {h h1 : PH} {d : CD} {dep : Nat} (c : CMl h d dep) (f : Ag [81, 82, 83, 84] [(70, 41), (70, 42), (70, 43)] h h1) : CMl h1 d dep := by
  obtain ⟨a, b, e, l⟩ := c
  exact ⟨by rw [f.i rfl]; exact a, by rw [f.i rfl]; exact b, by rw [f.i rfl]; exact e, fun k hk => by rw [f.I rfl, f.I rfl, f.I rfl, f.I rfl]; exact l k hk⟩
section
variable {h : PH} {b : Nat → Nat} {sz lim m i dep : Nat} {tk : Nat → TK} {d : CD}
theorem lays_ok {y : ND} {s : List Nat} {Q : Int32 → PH → Prop} (sh : Shp h) (hs : MS h b sz lim m tk i) (c : CMl h d dep) (hn : xn d < 60) (q : ∀ h1, NFr gF h h1 → MS h1 b sz lim m tk i → CMl h1 (addN d y s) dep → Q (nI (xn d)) h1) : wp_X12_lays 70 (nI (nw y)) (nI (na y)) (nI (nb y)) (nI (nr y)) h Q := by
  obtain ⟨a1, a2, a3, cl⟩ := c
  intro v1 ev1
  have ev : v1 = nI (60 + xn d) := by rw [ev1, a1, show (60 : Int32) = nI 60 from rfl, nI_add]
  subst ev
  have vin : ∀ {g : PH} (a : Nat), qL g a = 120 → vp_in (nI (60 + xn d)) (qL g a) := fun a e => by rw [e]; exact vp_in_nI (by omega) (by decide)
  have cl60 : (nI (60 + xn d)).toNatClampNeg = 60 + xn d := nI_clamp (by omega)
  rw [cl60]
  refine ⟨81, sh.R 70 37 81 (by decide), vin 81 (sh.L 81 (by decide) rfl), fun h1 e1 => ?_⟩
  have f1 : Fg [81] [] h h1 := by rw [e1]; exact Fg.cI _ _ _ _
  have sh1 := sh.fg f1 rfl
  refine ⟨82, sh1.R 70 38 82 (by decide), vin 82 (sh1.L 82 (by decide) rfl), fun h2 e2 => ?_⟩
  have f2 : Fg [82] [] h1 h2 := by rw [e2]; exact Fg.cI _ _ _ _
  have sh2 := sh1.fg f2 rfl
  refine ⟨83, sh2.R 70 39 83 (by decide), vin 83 (sh2.L 83 (by decide) rfl), fun h3 e3 => ?_⟩
  have f3 : Fg [83] [] h2 h3 := by rw [e3]; exact Fg.cI _ _ _ _
  have sh3 := sh2.fg f3 rfl
  refine ⟨84, sh3.R 70 40 84 (by decide), vin 84 (sh3.L 84 (by decide) rfl), fun h4 e4 h5 e5 => ?_⟩
  have f4 : Fg [84] [] h3 h4 := by rw [e4]; exact Fg.cI _ _ _ _
  have f14 : Fg [81, 82, 83, 84] [] h h4 := ((f1.tr f2 (U := [81, 82, 83, 84]) (V := []) rfl rfl).tr f3 (U := [81, 82, 83, 84]) (V := []) rfl rfl).tr f4 rfl rfl
  rw [(f14.ne (by decide) 41).1, a1, nI_1] at e5
  have f5 : Fg [] [(70, 41)] h4 h5 := by rw [e5]; exact Fg.sI _ _ _ _
  have f15 : Fg [81, 82, 83, 84] [(70, 41)] h h5 := f14.tr f5 rfl rfl
  have w41 : qI h5 70 41 = nI (xn d + 1) := by rw [e5, rI_sI, if_pos rfl, up_eq]
  have v1' : ∀ j, qI h5 81 j = if j = 60 + xn d then nI (nw y) else qI h 81 j := fun j => by
    rw [e5, rI_ne _ _ _ (by decide), e4, rI_ne _ _ _ (by decide), e3, rI_ne _ _ _ (by decide), e2, rI_ne _ _ _ (by decide), e1, rI_sI, if_pos rfl, up_at]
  have v2' : ∀ j, qI h5 82 j = if j = 60 + xn d then nI (na y) else qI h 82 j := fun j => by
    rw [e5, rI_ne _ _ _ (by decide), e4, rI_ne _ _ _ (by decide), e3, rI_ne _ _ _ (by decide), e2, rI_sI, if_pos rfl, up_at, e1, rI_ne _ _ _ (by decide)]
  have v3' : ∀ j, qI h5 83 j = if j = 60 + xn d then nI (nb y) else qI h 83 j := fun j => by
    rw [e5, rI_ne _ _ _ (by decide), e4, rI_ne _ _ _ (by decide), e3, rI_sI, if_pos rfl, up_at, e2, rI_ne _ _ _ (by decide), e1, rI_ne _ _ _ (by decide)]
  have v4' : ∀ j, qI h5 84 j = if j = 60 + xn d then nI (nr y) else qI h 84 j := fun j => by
    rw [e5, rI_ne _ _ _ (by decide), e4, rI_sI, if_pos rfl, up_at, e3, rI_ne _ _ _ (by decide), e2, rI_ne _ _ _ (by decide), e1, rI_ne _ _ _ (by decide)]
  have r : qI h5 70 41 - 1 = nI (xn d) := by rw [w41, nI_pred]
  rw [r]
  refine q h5 ⟨f15.mono rfl, fun a ha j hj => ?_⟩ (hs.ag (f15.ag rfl)) ⟨w41, by rw [f15.I rfl]; exact a2, by rw [f15.I rfl]; exact a3, fun k hk => ?_⟩
  · rcases ha with z | z | z | z <;> subst z
    · rw [v1', if_neg (by omega)]
    · rw [v2', if_neg (by omega)]
    · rw [v3', if_neg (by omega)]
    · rw [v4', if_neg (by omega)]
  · have hk : k < xn d + 1 := hk
    show qI h5 81 (60 + k) = nI (nw (if k = xn d then y else xd d k)) ∧ qI h5 82 (60 + k) = nI (na (if k = xn d then y else xd d k)) ∧ qI h5 83 (60 + k) = nI (nb (if k = xn d then y else xd d k)) ∧ qI h5 84 (60 + k) = nI (nr (if k = xn d then y else xd d k))
    rw [v1', v2', v3', v4']
    by_cases z : k = xn d
    · have z' : 60 + k = 60 + xn d := by omega
      simp only [if_pos z, if_pos z']
      exact ⟨trivial, trivial, trivial, trivial⟩
    · have z' : ¬ 60 + k = 60 + xn d := by omega
      simp only [if_neg z, if_neg z']
      exact cl k (by omega)
theorem mvA_ok {Q : Int32 → PH → Prop} (x : Tx b sz lim m tk) (s : MS h b sz lim m tk i) (q1 : ∀ y, kdT (tk i) = 1 → valC (ctT (tk i)) = some y → y < 8 → Q (nI y) h) (q0 : (¬ kdT (tk i) = 1 ∨ valC (ctT (tk i)) = none) → Q (-1) h) : wp_X12_valueAtHand 70 h Q := by
  have one : ∀ k y, y < 8 → valC (cw k) = some y → kdT (tk i) = 1 ∧ ctT (tk i) = cw k → ∀ z : Int32, z = nI y → Q z h := fun k y y8 a c z e => by
    rw [e]
    exact q1 y c.1 (by rw [c.2]; exact a) y8
  refine sp_right (isKw_ok x s (by decide) (fun z => ⟨fun y => absurd y (by decide), fun _ => one 19 0 (by decide) (by decide +kernel) z _ rfl⟩) (fun n0 => ⟨fun _ => ?_, fun y => absurd rfl y⟩))
  refine sp_left (isKw_ok x s (by decide) (fun z => ⟨fun y => absurd y (by decide), fun _ => one 20 1 (by decide) (by decide +kernel) z _ rfl⟩) (fun n1 => ⟨fun _ => ?_, fun y => absurd rfl y⟩))
  refine sp_rights (isKw_ok x s (by decide) (fun z => ⟨fun y => absurd y (by decide), fun _ => one 21 2 (by decide) (by decide +kernel) z _ rfl⟩) (fun n2 => ⟨fun _ => ?_, fun y => absurd rfl y⟩))
  refine sp_lefts (isKw_ok x s (by decide) (fun z => ⟨fun y => absurd y (by decide), fun _ => one 22 3 (by decide) (by decide +kernel) z _ rfl⟩) (fun n3 => ⟨fun _ => ?_, fun y => absurd rfl y⟩))
  refine sp_wet (isKw_ok x s (by decide) (fun z => ⟨fun y => absurd y (by decide), fun _ => one 23 4 (by decide) (by decide +kernel) z _ rfl⟩) (fun n4 => ⟨fun _ => ?_, fun y => absurd rfl y⟩))
  refine sp_gives (isKw_ok x s (by decide) (fun z => ⟨fun y => absurd y (by decide), fun _ => one 24 5 (by decide) (by decide +kernel) z _ rfl⟩) (fun n5 => ⟨fun _ => ?_, fun y => absurd rfl y⟩))
  refine sp_takes (isKw_ok x s (by decide) (fun z => ⟨fun y => absurd y (by decide), fun _ => one 25 6 (by decide) (by decide +kernel) z _ rfl⟩) (fun n6 => ⟨fun _ => ?_, fun y => absurd rfl y⟩))
  refine sp_high (isKw_ok x s (by decide) (fun z => ⟨fun y => absurd y (by decide), fun _ => one 26 7 (by decide) (by decide +kernel) z _ rfl⟩) (fun n7 => ⟨fun _ => q0 ?_, fun y => absurd rfl y⟩))
  by_cases k1 : kdT (tk i) = 1
  · right
    unfold valC
    rw [if_neg (fun y => n0 ⟨k1, y⟩), if_neg (fun y => n1 ⟨k1, y⟩), if_neg (fun y => n2 ⟨k1, y⟩), if_neg (fun y => n3 ⟨k1, y⟩), if_neg (fun y => n4 ⟨k1, y⟩), if_neg (fun y => n5 ⟨k1, y⟩), if_neg (fun y => n6 ⟨k1, y⟩), if_neg (fun y => n7 ⟨k1, y⟩)]
  · exact Or.inl k1
theorem rV_ok {Q : Int32 → PH → Prop} (x : Tx b sz lim m tk) (s : MS h b sz lim m tk i) (q1 : ∀ h1 v, pV tk i = .inr (i + 1, v) → okM h h1 b sz lim m tk (i + 1) → qI h1 70 13 = nI v → Q 1 h1) (q0 : ∀ h1, pV tk i = .inl (1, i) → flM h h1 tk 1 i → Q 0 h1) : wp_X12_readValue 70 h Q := by
  obtain ⟨c7, hc7, e7, i1, i2, _⟩ := s.k x
  have fin : ∀ v h2, pV tk i = .inr (i + 1, v) → h2 = qsI h 70 13 (nI v) → wp_X12_go 70 h2 (fun h6 => Q 1 h6) := by
    intro v h2 ev e2
    have f2 : Fg [] [(70, 13)] h h2 := by rw [e2]; exact Fg.sI _ _ _ _
    refine goM_ok x (s.ag (f2.ag rfl)) (pV_op x s.2.2 ev).2.2 (fun h3 f3 s3 => q1 h3 v ev ⟨f2.tr f3 rfl rfl, s3⟩ ?_)
    rw [f3.I rfl, e2, rI_sI, if_pos rfl, up_eq]
  refine n_eq c7 3 (fun z => ?_) (fun z h11 e11 => ?_) e7
  · have n2 : ¬ kdT (tk i) = 2 := fun y => z (i2.mpr y)
    refine mvA_ok x s (fun y k1 ey y8 => ⟨fun _ h5 e5 => fin y h5 ?_ e5, fun u => absurd u (nI_m1 (by omega))⟩) (fun no => ⟨fun u => absurd rfl u, fun _ => bad_ok (f := 1) x s (Or.inl rfl) (fun h1 f1 w1 w2 => ⟨Or.inl rfl, q0 h1 ?_ ⟨f1.mono rfl, w1, w2⟩⟩)⟩)
    · unfold pV
      rw [if_neg n2, if_pos k1, ey]
    · unfold pV
      rw [if_neg n2]
      rcases no with u | u
      · rw [if_neg u]
      · split
        · rw [u]
        · rfl
  · have k2 := i2.mp z
    refine fin (100 + ctT (tk i)) h11 (if_pos k2) ?_
    rw [e11, (s.ct x).2.1 k2, show (100 : Int32) = nI 100 from rfl, nI_add]
def MR1 (b : Nat → Nat) (sz lim m : Nat) (tk : Nat → TK) (rd : Nat → PH → (Int32 → PH → Prop) → Prop) (p : Nat → CD → PR CX) (dep : Nat) : Prop := ∀ (h : PH) (i : Nat) (d : CD) (Q : Int32 → PH → Prop), Shp h → MS h b sz lim m tk i → CMl h d dep → Bd d → (∀ h1 i' d' t, p i d = .inr (i', (d', t)) → NFr gF h h1 → MS h1 b sz lim m tk i' → CMl h1 d' dep → qI h1 70 47 = nI t → Q 1 h1) → (∀ h1 f j, p i d = .inl (f, j) → NFr mF h h1 → qI h1 70 10 = nI f → qI h1 70 11 = nI (stT (tk j)) → Q 0 h1) → rd 70 h Q
def mbody (sp : PH → (Int64 → PH → Prop) → Prop) (w : Int32) (rc : Nat → PH → (Int32 → PH → Prop) → Prop) (Q : Int32 → PH → Prop) (bk : Int32 × PH → Prop) (s : Int32 × PH) : Prop := sp s.2 (fun r6 h5 => (wp_X12_isKey 70 r6 h5 (fun r8 h7 => ((r8 = 0 → (∀ h10, h10 = qsI h7 70 47 s.1 → Q 1 h10)) ∧ (¬ (r8 = 0) → (wp_X12_go 70 h7 (fun h11 => (rc 70 h11 (fun r14 h13 => ((¬ r14 = 0 → (wp_X12_lays 70 w s.1 (qI h13 70 47) 0 h13 (fun r17 h16 => bk (r17, h16)))) ∧ (r14 = 0 → Q 0 h13)))))))))))
theorem mjoin_ok (x : Tx b sz lim m tk) {one : Nat → CD → PR CX} {rc : Nat → PH → (Int32 → PH → Prop) → Prop} {w kw : Nat} {sp : PH → (Int64 → PH → Prop) → Prop} (o : OneOk m one) (C : MR1 b sz lim m tk rc one dep) (hw : w = 2 ∨ w = 3) (hk : kw < 34) (hsp : ∀ (h : PH) (Q : Int64 → PH → Prop), Q (lN (cw kw)) h → sp h Q) {t1 : Nat} {d1 : CD} (bd : Bd d) (sh : Shp h) (s : MS h b sz lim m tk i) (c : CMl h d1 dep) (g : GP d d1 t1) {Q : Int32 → PH → Prop}
    (q1 : ∀ h2 i' d' t', lp (stJ w one) (isWb tk (cw kw)) 641 i (d1, t1) = .inr (i', (d', t')) → NFr gF h h2 → MS h2 b sz lim m tk i' → CMl h2 d' dep → qI h2 70 47 = nI t' → Q 1 h2)
    (q0 : ∀ h2 f j, lp (stJ w one) (isWb tk (cw kw)) 641 i (d1, t1) = .inl (f, j) → NFr mF h h2 → qI h2 70 10 = nI f → qI h2 70 11 = nI (stT (tk j)) → Q 0 h2) : qLoop (mbody sp (nI w) rc Q) (nI t1, h) := by
  generalize hP : lp (stJ w one) (isWb tk (cw kw)) 641 i (d1, t1) = P at q1 q0
  have m640 := x.m
  refine loopM m (fun j st => ∃ k d2 t2, st.1 = nI t2 ∧ m < j + k ∧ lp (stJ w one) (isWb tk (cw kw)) k j (d2, t2) = P ∧ NFr gF h st.2 ∧ MS st.2 b sz lim m tk j ∧ CMl st.2 d2 dep ∧ GP d d2 t2) s.2.2 ⟨641, d1, t1, rfl, by omega, hP, NFr.k (F := gF) (Fg.rf _ _ _) rfl rfl, s, c, g⟩ ?_
  rintro j ⟨v, g1⟩ jm ⟨k0, d2, t2, u1, u2, u3, u4, u5, u6, u7⟩ back hb
  dsimp only at u1 u4 u5 u6
  subst u1
  obtain ⟨k, ek⟩ : ∃ k, k0 = k + 1 := ⟨k0 - 1, by omega⟩
  subst ek
  refine hsp _ _ (isKw_ok x u5 hk (fun zw => ⟨fun y => absurd y (by decide), fun _ => ?_⟩) (fun zw => ⟨fun _ h10 e10 => ?_, fun y => absurd rfl y⟩))
  · have gw : isWb tk (cw kw) j = true := decide_eq_true zw
    have un : (bnd (stJ w one j (d2, t2)) fun i d => lp (stJ w one) (isWb tk (cw kw)) k i d) = P := by
      rw [← u3]
      exact (if_pos gw).symm
    have lt := x.lt jm (show ¬ kdT (tk j) = 0 by rw [zw.1]; decide)
    have sh1 : Shp g1 := sh.fg u4.1 rfl
    refine goM_ok x u5 lt (fun g2 f2 s2 => ?_)
    have sh2 := sh1.fg f2 rfl
    have N2 : NFr gF h g2 := u4.tr (NFr.k (F := gF) (f2.mono rfl) rfl rfl) rfl rfl
    refine C g2 (j + 1) d2 _ sh2 s2 (u6.ag (f2.ag rfl)) (u7.b bd) (fun g3 i3 d3 t3 e3 N3 s3 c3 w3 => ⟨fun _ => ?_, fun y => absurd y (by decide)⟩) (fun g3 f i3 e3 N3 w3 w4 => ⟨fun y => absurd rfl y, fun _ => q0 g3 f i3 ?_ (N2.tr N3 rfl rfl) w3 w4⟩)
    · obtain ⟨l1, l2, g3'⟩ := o _ _ _ _ _ s2.2.2 (u7.b bd) e3
      have sj : stJ w one j (d2, t2) = .inr (i3, (addN d3 (w, t2, t3, 0) (xn d3 :: (xS d3 (xn d3)).tail.tail), xn d3)) := bnd_r e3
      have n60 : xn d3 < 60 := by
        have a1 := g3'.2.2.2.2
        have a2 := (u7.b bd).2.1
        have a3 := g3'.2.2.2.1
        omega
      rw [w3]
      have sh3 : Shp g3 := sh2.fg N3.1 rfl
      refine lays_ok (y := (w, t2, t3, 0)) (s := xn d3 :: (xS d3 (xn d3)).tail.tail) sh3 s3 c3 n60 (fun g4 N4 s4 c4 => hb (nI (xn d3), g4) i3 (by omega) l2 ⟨k, _, _, rfl, by omega, ?_, (N2.tr N3 (V := gF) rfl rfl).tr N4 rfl rfl, s4, c4, (stJ_ok o hw lt bd u7 sj).2.2⟩)
      rw [← un, bnd_r sj]
    · rw [← un]
      exact bnd_l (bnd_l e3)
  · dsimp only at e10
    have f10 : Fg [] [(70, 47)] g1 h10 := by rw [e10]; exact Fg.sI _ _ _ _
    refine q1 h10 j d2 t2 ?_ (u4.tr (G := gF) ⟨f10.mono rfl, fun a ha j _ => by rw [e10, rI_ne _ _ _ (by omega)]⟩ rfl rfl) (u5.ag (f10.ag rfl)) (u6.ag (f10.ag rfl)) (by rw [e10, rI_sI, if_pos rfl, up_eq])
    rw [← u3]
    have gw : ¬ isWb tk (cw kw) j = true := fun y => zw (of_decide_eq_true y)
    exact if_neg gw
theorem MR_and (x : Tx b sz lim m tk) {one : Nat → CD → PR CX} {rcA rcO rcR : Nat → PH → (Int32 → PH → Prop) → Prop} (o : OneOk m one) (C : MR1 b sz lim m tk rcO one dep) : MR1 b sz lim m tk (wp_X12_readAnd rcA rcO rcR) (pAl tk one) dep := by
  intro h i d Q sh s c bd q1 q0
  refine C h i d _ sh s c bd (fun h1 i1 d1 t1 e1 N1 s1 c1 w1 => ⟨fun _ v4 e4 => ?_, fun y => absurd y (by decide)⟩) (fun h1 f j e1 N1 w1 w2 => ⟨fun y => absurd rfl y, fun _ => q0 h1 f j (bnd_l e1) N1 w1 w2⟩)
  obtain ⟨l1, l2, g1⟩ := o _ _ _ _ _ s.2.2 bd e1
  rw [e4, w1]
  exact mjoin_ok x o C (w := 2) (kw := 17) (Or.inl rfl) (by decide) (fun _ _ => sp_and) bd (sh.fg N1.1 rfl) s1 c1 g1 (fun h2 i' d' t' e2 N2 s2 c2 w2 => q1 h2 i' d' t' ((bnd_r e1).trans e2) (N1.tr N2 rfl rfl) s2 c2 w2) (fun h2 f j e2 N2 w2 w3 => q0 h2 f j ((bnd_r e1).trans e2) (N1.tr N2 rfl rfl) w2 w3)
theorem MR_or (x : Tx b sz lim m tk) {al : Nat → CD → PR CX} {rcA rcO rcR : Nat → PH → (Int32 → PH → Prop) → Prop} (o : OneOk m al) (C : MR1 b sz lim m tk rcA al dep) : MR1 b sz lim m tk (wp_X12_readOr rcA rcO rcR) (fun i d => bnd (al i d) fun i x => lp (stJ 3 al) (isWb tk (cw 16)) 641 i x) dep := by
  intro h i d Q sh s c bd q1 q0
  refine C h i d _ sh s c bd (fun h1 i1 d1 t1 e1 N1 s1 c1 w1 => ⟨fun _ v4 e4 => ?_, fun y => absurd y (by decide)⟩) (fun h1 f j e1 N1 w1 w2 => ⟨fun y => absurd rfl y, fun _ => q0 h1 f j (bnd_l e1) N1 w1 w2⟩)
  obtain ⟨l1, l2, g1⟩ := o _ _ _ _ _ s.2.2 bd e1
  rw [e4, w1]
  exact mjoin_ok x o C (w := 3) (kw := 16) (Or.inr rfl) (by decide) (fun _ _ => sp_or) bd (sh.fg N1.1 rfl) s1 c1 g1 (fun h2 i' d' t' e2 N2 s2 c2 w2 => q1 h2 i' d' t' ((bnd_r e1).trans e2) (N1.tr N2 rfl rfl) s2 c2 w2) (fun h2 f j e2 N2 w2 w3 => q0 h2 f j ((bnd_r e1).trans e2) (N1.tr N2 rfl rfl) w2 w3)
end

/-! ===== PURE: the class reads a CLAIM ===== -/
section
variable {b : Nat → Nat} {sz lim m e : Nat} {tk : Nat → TK}
theorem pOf_n {f dep i : Nat} {d : CD} (h : ¬ ((kdT (tk i) = 1 ∧ ctT (tk i) = cw 18) ∨ (kdT (tk i) = 3 ∧ ctT (tk i) = 40) ∨ isV tk i)) : pOf tk (f + 1) dep i d = .inl (1, i) := by
  unfold pOf
  exact if_neg h
theorem pOf_4 {f dep i : Nat} {d : CD} (h : (kdT (tk i) = 1 ∧ ctT (tk i) = cw 18) ∨ (kdT (tk i) = 3 ∧ ctT (tk i) = 40) ∨ isV tk i) (h2 : 20 ≤ xc d ∨ 8 < dep) : pOf tk (f + 1) dep i d = .inl (4, i) := by
  unfold pOf
  rw [if_pos h, if_pos h2]
theorem pOf_s {f dep i : Nat} {d : CD} (h : (kdT (tk i) = 1 ∧ ctT (tk i) = cw 18) ∨ (kdT (tk i) = 3 ∧ ctT (tk i) = 40) ∨ isV tk i) (h2 : ¬ (20 ≤ xc d ∨ 8 < dep)) : pOf tk (f + 1) dep i d = if kdT (tk i) = 3 ∧ ctT (tk i) = 40 then bnd (pCn tk (pOf tk f (dep + 1)) (i + 1) (incC d)) fun i x => bnd (pS tk 41 i) fun i _ => .inr (i, x)
       else if kdT (tk i) = 1 ∧ ctT (tk i) = cw 18 then bnd (pOf tk f (dep + 1) (i + 1) (incC d)) fun i x => .inr (i, (addN x.1 (1, x.2, 0, 0) (xn x.1 :: (xS x.1 (xn x.1)).tail), xn x.1))
       else pCmp tk i (incC d) := by
  rw [pOf]
  rw [if_pos h, if_neg h2]
theorem Bd.inc {d : CD} (bd : Bd d) (h : xc d < 20) : Bd (incC d) := ⟨bd.1, by have := bd.2.1; show xn d ≤ 2 * (xc d + 1); omega, by show xc d + 1 ≤ 20; omega⟩
theorem CR_one (x : Tx b sz lim m tk) (hm : m ≤ 600) (he : 26 ≤ e) : ∀ f n dep, 3 * f ≤ n → f + dep = 13 → dep ≤ 9 → CR1 m tk e (rg_X0 n).2.2 (pOf tk f dep) dep := by
  intro f
  induction f with
  | zero => intro n dep _ h1 h2; omega
  | succ f ih =>
    intro n0 dep hn hd h9 h i d Q t c bd q1 q0
    obtain ⟨n, en⟩ : ∃ n, n0 = n + 1 := ⟨n0 - 1, by omega⟩
    subst en
    have bd' := x.bd t.2.2.2
    have st0 := fun hs h2 => pOf_s (tk := tk) (f := f) (dep := dep) (i := i) (d := d) hs h2
    -- behind the first look
    have main : ((kdT (tk i) = 1 ∧ ctT (tk i) = cw 18) ∨ (kdT (tk i) = 3 ∧ ctT (tk i) = 40) ∨ isV tk i) → ∀ r2 r4 : Int32, (¬ r2 = 0 ↔ (kdT (tk i) = 1 ∧ ctT (tk i) = cw 18)) → (¬ r4 = 0 ↔ (kdT (tk i) = 3 ∧ ctT (tk i) = 40)) → wp_X0_readOne_38 ((rg_X0 n).1) ((rg_X0 n).2.1) ((rg_X0 n).2.2) e 3 (nI dep) r2 r4 h Q := by
      intro hs r2 r4 w2 w4
      refine pk_le 20 (xc d) (fun z => failC_ok (f := 4) t (fun h1 f1 t1 w1 => ⟨Or.inl rfl, q0 h1 4 i (pOf_4 hs (Or.inl z)) (XFr.t f1) t1 w1⟩)) (fun z20 => pk_le dep 8 (fun z8 h18 e18 => ?_) (fun z => failC_ok (f := 4) t (fun h1 f1 t1 w1 => ⟨Or.inl rfl, q0 h1 4 i (pOf_4 hs (Or.inr z)) (XFr.t f1) t1 w1⟩))) rfl c.2.2.1 (by decide) (by have := bd.2.2; omega)
      rw [c.2.2.1, nI_1] at e18
      have X18 : XFr e h h18 := XFr.s' (by omega) e18
      have t18 := t.e he e18
      have s18 : qI h18 3 6 = qI h 3 6 := by rw [e18, rI_ne _ _ _ (by omega)]
      have c18 : CCl h18 e (incC d) := by
        obtain ⟨r, a5, a6, cl⟩ := c
        refine ⟨r.x he X18, ?_, ?_, fun k hk => ?_⟩
        · rw [e18, rI_sI, if_pos rfl, up_ne _ _ (by decide)]; exact a5
        · rw [e18, rI_sI, if_pos rfl, up_eq]; rfl
        · rw [e18, rI_ne _ _ _ (by omega), rI_ne _ _ _ (by omega), rI_ne _ _ _ (by omega)]; exact cl k hk
      have bi := bd.inc z20
      have pp := st0 hs (by omega)
      refine ⟨fun y4 => ⟨fun y2 => ?_, fun y2 => ?_⟩, fun y4 => ?_⟩
      · -- a comparison
        have n4 : ¬ (kdT (tk i) = 3 ∧ ctT (tk i) = 40) := fun u => (w4.mpr u) y4
        have n2 : ¬ (kdT (tk i) = 1 ∧ ctT (tk i) = cw 18) := fun u => (w2.mpr u) y2
        rw [if_neg n4, if_neg n2] at pp
        have iv : isV tk i := by
          rcases hs with u | u | u
          · exact absurd u n2
          · exact absurd u n4
          · exact u
        have n40 : xn (incC d) < 40 := by
          show xn d < 40
          have := bd.2.1
          omega
        refine ccmp_ok x he t18 c18 n40 iv (fun h1 i' d' t' e1 X1 t1 c1 w1 => ⟨Or.inr rfl, q1 h1 i' d' t' (by rw [pp]; exact e1) (X18.tr X1) t1 c1 (w1.trans s18)⟩) (fun h1 f' j e1 X1 t1 w1 => ⟨Or.inl rfl, q0 h1 f' j (by rw [pp]; exact e1) (X18.tr X1) t1 w1⟩)
      · -- not
        have z := w2.mp y2
        have n4 : ¬ (kdT (tk i) = 3 ∧ ctT (tk i) = 40) := fun u => by rw [z.1] at u; exact absurd u.1 (by decide)
        rw [if_neg n4, if_pos z] at pp
        refine passC_ok x t18 (x.lt t.2.2.2 (by rw [z.1]; decide)) (fun h2 f2 t2 => ?_)
        rw [nI_1]
        have X2 : XFr e h h2 := X18.tr (XFr.t4 f2)
        have c2 := c18.t he (f2.mono rfl)
        refine ih n (dep + 1) (by omega) (by omega) (by omega) h2 (i + 1) (incC d) _ t2 c2 bi (fun h3 i3 d3 t3 e3 X3 tc3 c3 w3 => ?_) (fun h3 f' j e3 X3 tc3 w3 => ?_)
        · obtain ⟨l1, l2, g3⟩ := pOf_ok x f (dep + 1) _ _ _ _ _ t2.2.2.2 bi e3
          have n40 : xn d3 < 40 := by
            have a1 := g3.2.2.2.2
            have a2 := bi.2.1
            have a3 := g3.2.2.2.1
            omega
          have r0 : cdeed (1, t3, 0, 0) = 0 := rfl
          rw [← r0]
          refine add_ok he c3 n40 (fun y => absurd (show (1 : Nat) = 4 from y) (by decide)) tc3 (s := xn d3 :: (xS d3 (xn d3)).tail) (fun h4 X4 tc4 c4 w4' => ⟨Or.inr rfl, q1 h4 i3 _ _ (by rw [pp]; exact bnd_r e3) ((X2.tr X3).tr X4) tc4 c4 ?_⟩)
          rw [w4', w3, f2.I rfl]; exact s18
        · have r3 : XR h3 e := c2.1.x he X3
          refine addA_ok he r3 tc3 (fun h4 X4 tc4 w4' => ⟨Or.inl rfl, q0 h4 f' j (by rw [pp]; exact bnd_l e3) ((X2.tr X3).tr X4) tc4 (w4'.trans w3)⟩)
      · -- in brackets
        have z := w4.mp y4
        rw [if_pos z] at pp
        refine passC_ok x t18 (x.lt t.2.2.2 (by rw [z.1]; decide)) (fun h2 f2 t2 => ?_)
        rw [nI_1]
        have X2 : XFr e h h2 := X18.tr (XFr.t4 f2)
        have c2 := c18.t he (f2.mono rfl)
        obtain ⟨n3, en3⟩ : ∃ n3, n = n3 + 1 + 1 := ⟨n - 2, by omega⟩
        subst en3
        have C1 := ih n3 (dep + 1) (by omega) (by omega) (by omega)
        have o1 := pOf_ok x f (dep + 1)
        have CA : CR1 m tk e (rg_X0 (n3 + 1)).1 (pAl tk (pOf tk f (dep + 1))) (dep + 1) := CR_all x hm he o1 C1
        have CC : CR1 m tk e (rg_X0 (n3 + 1 + 1)).2.1 (pCn tk (pOf tk f (dep + 1))) (dep + 1) := CR_cnd x hm he (pAl_ok x o1) CA
        refine CC h2 (i + 1) (incC d) _ t2 c2 bi (fun h3 i3 d3 t3 e3 X3 tc3 c3 w3 => ⟨fun y => absurd y (by decide), fun _ => ?_⟩) (fun h3 f' j e3 X3 tc3 w3 => ⟨fun _ => q0 h3 f' j (by rw [pp]; exact bnd_l e3) (X2.tr X3) tc3 w3, fun y => absurd rfl y⟩)
        refine tS_ok x tc3 (c := 41) (by decide) (fun h4 e4 f4 t4 => ⟨fun y => absurd y (by decide), fun _ => q1 h4 _ d3 t3 (by rw [pp]; exact (bnd_r e3).trans (bnd_r e4)) ((X2.tr X3).tr (XFr.t4 f4)) t4 (c3.t he (f4.mono rfl)) ?_⟩) (fun h4 e4 f4 t4 w4' => ⟨fun _ => q0 h4 1 _ (by rw [pp]; exact (bnd_r e3).trans (bnd_l e4)) ((X2.tr X3).tr (XFr.t f4)) t4 w4', fun y => absurd rfl y⟩)
        rw [f4.I rfl, w3, f2.I rfl]; exact s18
    show wp_X0_readOne ((rg_X0 n).1) ((rg_X0 n).2.1) ((rg_X0 n).2.2) e 3 (nI dep) h Q
    unfold wp_X0_readOne
    refine isWord_ok x t (k := 18) (by decide) (fun z1 => isSignC_ok x t (c := 40) (by decide) (fun z2 => ?_) (fun z2 => ?_)) (fun z1 => isSignC_ok x t (c := 40) (by decide) (fun z2 => ?_) (fun z2 => ?_))
    · exact ⟨fun _ => main (Or.inl z1) 1 1 ⟨fun _ => z1, fun _ => by decide⟩ ⟨fun _ => z2, fun _ => by decide⟩, fun y => absurd y (by decide)⟩
    · exact ⟨fun _ => main (Or.inl z1) 1 0 ⟨fun _ => z1, fun _ => by decide⟩ ⟨fun y => absurd rfl y, fun y => absurd y z2⟩, fun y => absurd y (by decide)⟩
    · exact ⟨fun y => absurd rfl y, fun _ => ⟨fun _ => main (Or.inr (Or.inl z2)) 0 1 ⟨fun y => absurd rfl y, fun y => absurd y z1⟩ ⟨fun _ => z2, fun _ => by decide⟩, fun y => absurd y (by decide)⟩⟩
    · refine ⟨fun y => absurd rfl y, fun _ => ⟨fun y => absurd rfl y, fun _ => cisV_ok x t (fun iv => ⟨fun _ => main (Or.inr (Or.inr iv)) 0 0 ⟨fun y => absurd rfl y, fun y => absurd y z1⟩ ⟨fun y => absurd rfl y, fun y => absurd y z2⟩, fun y => absurd y (by decide)⟩) (fun nv => ⟨fun y => absurd rfl y, fun _ => failC_ok (f := 1) t (fun h1 f1 t1 w1 => ⟨Or.inl rfl, q0 h1 1 i (pOf_n (fun u => ?_)) (XFr.t f1) t1 w1⟩)⟩)⟩⟩
      rcases u with u | u | ⟨v, u⟩
      · exact z1 u
      · exact z2 u
      · rw [nv] at u; cases u
/-- the kind of a CLAIM -/
def kiC (c : Nat) : Option Nat := if c = cw 13 then some 1 else if c = cw 14 then some 2 else if c = cw 15 then some 3 else none
theorem ki_c : ∀ k, k < 34 → kiC (cw k) = if k = 13 then some 1 else if k = 14 then some 2 else if k = 15 then some 3 else none := by decide +kernel
theorem ki_n {c : Nat} (h : ∀ k, k < 34 → c ≠ cw k) : kiC c = none := by
  unfold kiC
  rw [if_neg (h 13 (by decide)), if_neg (h 14 (by decide)), if_neg (h 15 (by decide))]
def kiO (tk : Nat → TK) (i : Nat) : Option Nat := if kdT (tk i) = 1 then kiC (ctT (tk i)) else none
def dd0 : CD := (0, 0, (fun _ => (0, 0, 0, 0)), (fun _ => []))
theorem bd0 : Bd dd0 := ⟨⟨rfl, fun k hk => absurd hk (Nat.not_lt_zero k)⟩, Nat.zero_le _, Nat.zero_le _⟩
/-- the whole text: the fault, or kind, nodes and top -/
noncomputable def pClm (tk : Nat → TK) (m : Nat) (too : Prop) : PR (Nat × CX) := match kiO tk 0 with
  | none => .inl (1, 0)
  | some kd => bnd (pCn tk (pOf tk 12 1) 1 dd0) fun i x => @ite _ (i = m ∧ ¬ too) (Classical.propDecidable _) (.inr (i, (kd, x))) (.inl (1, i))
theorem kiOf_ok {h : PH} {o : Option Nat} {Q : Int32 → PH → Prop} {i : Nat} (ho : (∃ k, k < 34 ∧ kdT (tk i) = 1 ∧ ctT (tk i) = cw k ∧ o = some (wd k)) ∨ (o = none ∧ ¬ (kdT (tk i) = 1 ∧ ∃ k, k < 34 ∧ ctT (tk i) = cw k))) (q1 : ∀ kk, kiO tk i = some kk → 1 ≤ kk → kk < 4 → Q (nI kk) h) (q0 : kiO tk i = none → Q 0 h) : wp_X0_kindOf o h Q := by
  have wdi : ∀ a c, wd a = wd c → a = c := fun a c z => by unfold wd at z; omega
  rcases ho with ⟨k, hk, k1, kc, eo⟩ | ⟨eo, no⟩
  · subst eo
    have qw : qWd (some (wd k)) := fun b' e' => ⟨k, hk, (Option.some.inj e').symm⟩
    have ek : kiO tk i = if k = 13 then some 1 else if k = 14 then some 2 else if k = 15 then some 3 else none := by
      unfold kiO
      rw [if_pos k1, kc, ki_c k hk]
    have ne : ∀ c, ¬ some (wd k) = some (wd c) → k ≠ c := fun c z y => z (by rw [y])
    have eq : ∀ c, some (wd k) = some (wd c) → k = c := fun c z => wdi _ _ (Option.some.inj z)
    refine ⟨qw, fun z2 => ⟨qw, fun z3 => ⟨qw, fun z4 => q0 ?_, fun y => q1 3 ?_ (by decide) (by decide)⟩, fun y => q1 2 ?_ (by decide) (by decide)⟩, fun y => q1 1 ?_ (by decide) (by decide)⟩
    · rw [ek, if_neg (ne 13 z2), if_neg (ne 14 z3), if_neg (ne 15 z4)]
    · rw [ek, if_neg (ne 13 z2), if_neg (ne 14 z3), if_pos (eq 15 y)]
    · rw [ek, if_neg (ne 13 z2), if_pos (eq 14 y)]
    · rw [ek, if_pos (eq 13 y)]
  · subst eo
    have qw : qWd none := fun b' e' => by cases e'
    have ek : kiO tk i = none := by
      unfold kiO
      by_cases k1 : kdT (tk i) = 1
      · rw [if_pos k1]
        exact ki_n (fun k hk e => no ⟨k1, k, hk, e⟩)
      · rw [if_neg k1]
    refine ⟨qw, fun z2 => ⟨qw, fun z3 => ⟨qw, fun z4 => q0 ek, fun y => by cases y⟩, fun y => by cases y⟩, fun y => by cases y⟩
/-- with the kind too -/
def YFr (e : Nat) (h h1 : PH) : Prop := ∃ h0 v, h0 = qsI h e 4 v ∧ XFr e h0 h1
theorem cclaim_ok {h : PH} (x : Tx b sz lim m tk) (hm : m ≤ 600) (t : TC h m tk 0) (tl : qI h 3 5 = if lim < sz then 1 else 0) (z6 : qI h 3 6 = 0) (he : 26 ≤ e) (r : XR h e) {Q : Int32 → PH → Prop}
    (q1 : ∀ h1 i kd d t', pClm tk m (lim < sz) = .inr (i, (kd, (d, t'))) → 1 ≤ kd → kd < 4 → GP dd0 d t' → YFr e h h1 → CCl h1 e d → qI h1 e 4 = nI kd → qI h1 3 6 = 0 → Q 1 h1)
    (q0 : ∀ h1 f j, pClm tk m (lim < sz) = .inl (f, j) → YFr e h h1 → TC h1 m tk j → qI h1 3 6 = nI f → Q 0 h1) : wp_X0_readFrom e 3 h Q := by
  intro h1 e1 h2 e2
  have t2 := (t.e he e1).e he e2
  have go : ∀ o, ((∃ k, k < 34 ∧ kdT (tk 0) = 1 ∧ ctT (tk 0) = cw k ∧ o = some (wd k)) ∨ (o = none ∧ ¬ (kdT (tk 0) = 1 ∧ ∃ k, k < 34 ∧ ctT (tk 0) = cw k))) → wp_X0_kindOf o h2 (fun r6 h5 => (∀ h7, h7 = qsI h5 e 4 r6 → ((¬ (qI h7 e 4) = 0 → (wp_X7_pass 3 h7 (fun h9 => (wp_X0_readConditionR e 3 1 h9 (fun r12 h11 => ((r12 = 0 → Q 0 h11) ∧ (¬ (r12 = 0) → (wp_X7_takeEnd 3 h11 (fun r15 h14 => ((r15 = 0 → Q 0 h14) ∧ (¬ (r15 = 0) → Q 1 h14))))))))))) ∧ ((qI h7 e 4) = 0 → (wp_X7_fail 3 1 h7 (fun r18 h17 => ((r18 = 0 ∨ r18 = 1) ∧ Q r18 h17))))))) := by
    intro o ho
    -- the kind is written last: as if first
    have yf : ∀ (v : Int32) (h7 : PH), h7 = qsI h2 e 4 v → YFr e h h7 := by
      intro v h7 e7
      refine ⟨qsI h e 4 v, v, rfl, ?_⟩
      rw [e7, e2, e1]
      refine ⟨⟨rfl, rfl, rfl, rfl⟩, fun a j _ => ⟨fun y => ?_, rfl, rfl⟩⟩
      simp only [qI_sI]
      by_cases u : a = e ∧ j = 4
      · rw [if_pos u, if_pos u]
      · rw [if_neg u, if_neg u, if_neg (fun w => y (Or.inl ⟨w.1, Or.inr w.2⟩)), if_neg (fun w => y (Or.inl ⟨w.1, Or.inl w.2⟩))]
    have yt : ∀ {g g2 : PH}, YFr e h g → XFr e g g2 → YFr e h g2 := fun ⟨g0, v, a, c⟩ f => ⟨g0, v, a, c.tr f⟩
    refine kiOf_ok (tk := tk) (i := 0) ho (fun kk ek k1 k4 h7 e7 => ?_) (fun ek h7 e7 => ?_)
    · have v7 : qI h7 e 4 = nI kk := by rw [e7, rI_sI, if_pos rfl, up_eq]
      have t7 := t2.e he e7
      have Y7 := yf _ _ e7
      have kd1 : kdT (tk 0) = 1 := by
        unfold kiO at ek
        split at ek
        · assumption
        · cases ek
      have pp : pClm tk m (lim < sz) = bnd (pCn tk (pOf tk 12 1) 1 dd0) fun i x => @ite _ (i = m ∧ ¬ lim < sz) (Classical.propDecidable _) (.inr (i, (kk, x))) (.inl (1, i)) := by
        unfold pClm
        rw [ek]
      have c7 : CCl h7 e dd0 := by
        refine ⟨?_, ?_, ?_, fun k hk => absurd hk (Nat.not_lt_zero k)⟩
        · rw [e7, e2, e1]; exact r
        · rw [e7, e2, e1]; simp only [qI_sI]; simp; rfl
        · rw [e7, e2]; simp only [qI_sI]; simp; rfl
      have s7 : qI h7 3 6 = 0 := by rw [e7, rI_ne _ _ _ (by omega), e2, rI_ne _ _ _ (by omega), e1, rI_ne _ _ _ (by omega)]; exact z6
      refine ⟨fun _ => passC_ok x t7 (x.lt t7.2.2.2 (by rw [kd1]; decide)) (fun h9 f9 t9 => ?_), fun z => ?_⟩
      · have o1 := pOf_ok x 12 1
        have CA : CR1 m tk e (rg_X0 39).1 (pAl tk (pOf tk 12 1)) 1 := CR_all x hm he o1 (CR_one x hm he 12 38 1 (by decide) (by decide) (by decide))
        have CC : CR1 m tk e (rg_X0 40).2.1 (pCn tk (pOf tk 12 1)) 1 := CR_cnd x hm he (pAl_ok x o1) CA
        have tl9 : ∀ {g : PH}, XFr e h9 g → qI g 3 5 = if lim < sz then 1 else 0 := fun f => by
          rw [(f.2 3 5 (by omega)).1 (by omega), f9.I rfl, e7, rI_ne _ _ _ (by omega), e2, rI_ne _ _ _ (by omega), e1, rI_ne _ _ _ (by omega)]; exact tl
        refine CC h9 (0 + 1) dd0 _ t9 (c7.t he (f9.mono rfl)) bd0 (fun h11 i' d' t' e11 X11 t11 c11 w11 => ⟨fun y => absurd y (by decide), fun _ => ?_⟩) (fun h11 f' j e11 X11 t11 w11 => ⟨fun _ => q0 h11 f' j (by rw [pp]; exact bnd_l e11) (yt Y7 ((XFr.t4 f9).tr X11)) t11 w11, fun y => absurd rfl y⟩)
        have g11 := (pCn_ok x o1 _ _ _ _ _ t9.2.2.2 bd0 e11).2.2
        refine tE_ok x t11 (tl9 X11) (fun em nt => ⟨fun y => absurd y (by decide), fun _ => q1 h11 i' kk d' t' (by rw [pp]; exact (bnd_r e11).trans (if_pos ⟨em, nt⟩)) k1 k4 g11 (yt Y7 ((XFr.t4 f9).tr X11)) c11 ?_ ?_⟩) (fun h12 no f12 t12 w12 => ⟨fun _ => q0 h12 1 i' (by rw [pp]; exact (bnd_r e11).trans (if_neg no)) (yt Y7 (((XFr.t4 f9).tr X11).tr (XFr.t f12))) t12 w12, fun y => absurd rfl y⟩)
        · rw [(X11.2 e 4 (by omega)).1 (by omega), (f9.2 e List.not_mem_nil 4 (by simp; omega)).1]; exact v7
        · rw [w11, f9.I rfl]; exact s7
      · exfalso
        rw [v7] at z
        exact absurd (nI_inj (b := 0) (by omega) (by decide) z) (by omega)
    · have v7 : qI h7 e 4 = 0 := by rw [e7, rI_sI, if_pos rfl, up_eq]
      refine ⟨fun z => absurd v7 z, fun _ => failC_ok (f := 1) (t2.e he e7) (fun h8 f8 t8 w8 => ⟨Or.inl rfl, q0 h8 1 0 ?_ (yt (yf _ _ e7) (XFr.t f8)) t8 w8⟩)⟩
      unfold pClm
      rw [ek]
  exact known_ok x t2 (fun k hk k1 kc => go _ (Or.inl ⟨k, hk, k1, kc, rfl⟩)) (fun no => go _ (Or.inr ⟨rfl, no⟩))
end

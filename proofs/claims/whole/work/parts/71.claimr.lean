/-! ===== PURE: the class's readers of a CLAIM ===== -/
section
variable {h : PH} {b : Nat → Nat} {sz lim m i e : Nat} {tk : Nat → TK} {d : CD}
theorem cisV_ok (x : Tx b sz lim m tk) (t : TC h m tk i) {Q : Int32 → PH → Prop} (q1 : isV tk i → Q 1 h) (q0 : pV tk i = .inl (1, i) → Q 0 h) : wp_X0_isValue 3 h Q := by
  refine known_ok x t (fun k hk k1 kc => isNumC_ok x t (fun k2 => absurd (k1.symm.trans k2) (by decide)) (fun n2 => ⟨fun y => absurd rfl y, fun _ => ⟨fun z => (by cases z), fun b7 e7 => ⟨k, hk, (Option.some.inj e7).symm, fun y => q0 ?_, fun y => q1 ?_⟩⟩⟩)) (fun no => isNumC_ok x t (fun k2 => ⟨fun _ => q1 ⟨_, if_pos k2⟩, fun y => absurd y (by decide)⟩) (fun n2 => ⟨fun y => absurd rfl y, fun _ => ⟨fun _ => q0 ?_, fun b7 e7 => (by cases e7)⟩⟩))
  · unfold pV
    rw [if_neg n2, if_pos k1, kc]
    rcases val_c k hk with u | ⟨v, v8, u, w⟩
    · rw [u.1]
    · rw [w] at y; exact absurd y (nI_m1 (by omega))
  · unfold isV pV
    rw [if_neg n2, if_pos k1, kc]
    rcases val_c k hk with u | ⟨v, v8, u, w⟩
    · exact absurd u.2 y
    · rw [u]; exact ⟨v, rfl⟩
  · unfold pV
    rw [if_neg n2]
    by_cases k1 : kdT (tk i) = 1
    · rw [if_pos k1, val_n (fun k hk e => no ⟨k1, k, hk, e⟩)]
    · rw [if_neg k1]
theorem tOp_ok (x : Tx b sz lim m tk) (t : TC h m tk i) {v : Nat} (hv : pV tk i = .inr (i + 1, v)) {Q : Int32 → PH → Prop} (q : ∀ h1, Fg [] [(3, 4)] h h1 → TC h1 m tk (i + 1) → Q (cop v) h1) : wp_X0_takeOperand 3 h Q := by
  have lt := (pV_op x t.2.2.2 hv).2.2
  refine known_ok x t (fun k hk k1 kc => ⟨fun z => (by cases z), fun b4 e4 => ⟨k, hk, (Option.some.inj e4).symm, fun v11 e11 => passC_ok x t lt (fun h1 f1 t1 => ?_)⟩⟩) (fun no => ⟨fun _ => contC_ok x t (passC_ok x t lt (fun h1 f1 t1 => ?_)), fun b4 e4 => (by cases e4)⟩)
  · have : v11 = cop v := by
      unfold pV at hv
      rw [if_neg (by rw [k1]; decide), if_pos k1, kc] at hv
      rcases val_c k hk with u | ⟨y, y8, u, w⟩
      · rw [u.1] at hv; cases hv
      · rw [u] at hv
        cases hv
        unfold cop
        rw [if_neg (by omega), e11, w]
    rw [this]; exact q h1 f1 t1
  · have : nI (ctT (tk i)) = cop v := by
      unfold pV at hv
      split at hv
      · cases hv
        unfold cop
        rw [if_pos (by omega), Nat.add_sub_cancel_left]
      · split at hv
        · rename_i k1
          rw [val_n (fun k hk e => no ⟨k1, k, hk, e⟩)] at hv
          cases hv
        · cases hv
    rw [this]; exact q h1 f1 t1
def CR1 (m : Nat) (tk : Nat → TK) (e : Nat) (rd : Nat → Nat → Int32 → PH → (Int32 → PH → Prop) → Prop) (p : Nat → CD → PR CX) (dep : Nat) : Prop := ∀ (h : PH) (i : Nat) (d : CD) (Q : Int32 → PH → Prop), TC h m tk i → CCl h e d → Bd d → (∀ h1 i' d' t, p i d = .inr (i', (d', t)) → XFr e h h1 → TC h1 m tk i' → CCl h1 e d' → qI h1 3 6 = qI h 3 6 → Q 1 h1) → (∀ h1 f j, p i d = .inl (f, j) → XFr e h h1 → TC h1 m tk j → qI h1 3 6 = nI f → Q 0 h1) → rd e 3 (nI dep) h Q
def cbody (kw : Nat) (deed : Int32) (rc : Nat → Nat → Int32 → PH → (Int32 → PH → Prop) → Prop) (e : Nat) (l2 : Int32) (Q : Int32 → PH → Prop) (bk : Int32 × PH → Prop) (s : Int32 × PH) : Prop := ((640 ≤ s.1 → Q 1 s.2) ∧ (¬ (640 ≤ s.1) → (wp_X7_isWord 3 (wd kw) s.2 (fun r6 h5 => ((r6 = 0 → Q 1 h5) ∧ (¬ (r6 = 0) → (wp_X7_pass 3 h5 (fun h8 => (rc e 3 l2 h8 (fun r11 h10 => ((¬ r11 = 0 → (wp_X0_add e deed 0 0 h10 (fun h13 => ∀ v15 : Int32, v15 = s.1 + 1 → bk (v15, h13)))) ∧ (r11 = 0 → Q 0 h10))))))))))))
theorem cjoin_ok (x : Tx b sz lim m tk) (hm : m ≤ 600) (he : 26 ≤ e) {one : Nat → CD → PR CX} {rc : Nat → Nat → Int32 → PH → (Int32 → PH → Prop) → Prop} {dep w kw : Nat} {deed : Int32} (o : OneOk m one) (C : CR1 m tk e rc one dep) (hw : w = 2 ∨ w = 3) (hk : kw < 34) (hd : ∀ a b, cdeed (w, a, b, 0) = deed) {t1 : Nat} {d1 : CD} (bd : Bd d) (t : TC h m tk i) (c : CCl h e d1) (g : GP d d1 t1) {Q : Int32 → PH → Prop}
    (q1 : ∀ h2 i' d' t', lp (stJ w one) (isWb tk (cw kw)) 641 i (d1, t1) = .inr (i', (d', t')) → XFr e h h2 → TC h2 m tk i' → CCl h2 e d' → qI h2 3 6 = qI h 3 6 → Q 1 h2)
    (q0 : ∀ h2 f j, lp (stJ w one) (isWb tk (cw kw)) 641 i (d1, t1) = .inl (f, j) → XFr e h h2 → TC h2 m tk j → qI h2 3 6 = nI f → Q 0 h2) : qLoop (cbody kw deed rc e (nI dep) Q) (0, h) := by
  generalize hP : lp (stJ w one) (isWb tk (cw kw)) 641 i (d1, t1) = P at q1 q0
  refine ⟨fun s => ∃ l j d2 t2, s.1 = nI l ∧ l ≤ j ∧ lp (stJ w one) (isWb tk (cw kw)) (641 - l) j (d2, t2) = P ∧ XFr e h s.2 ∧ TC s.2 m tk j ∧ CCl s.2 e d2 ∧ GP d d2 t2 ∧ qI s.2 3 6 = qI h 3 6, fun s => 700 - s.1.toNatClampNeg, ⟨0, i, d1, t1, rfl, Nat.zero_le _, hP, XFr.rf _ _, t, c, g, rfl⟩, ?_⟩
  rintro ⟨l', g1⟩ ⟨l, j, d2, t2, u1, u2, u3, u4, u5, u6, u7, u8⟩
  dsimp only at u1 u4 u5 u6 u8
  subst u1
  have jm := u5.2.2.2
  obtain ⟨k, ek⟩ : ∃ k, 641 - l = k + 1 := ⟨640 - l, by omega⟩
  rw [ek] at u3
  refine pk_le 640 l (fun z => by omega) (fun _ => isWord_ok x u5 hk (fun zw => ⟨fun y => absurd y (by decide), fun _ => ?_⟩) (fun zw => ⟨fun _ => ?_, fun y => absurd rfl y⟩))
  · have gw : isWb tk (cw kw) j = true := decide_eq_true zw
    have un : (bnd (stJ w one j (d2, t2)) fun i d => lp (stJ w one) (isWb tk (cw kw)) k i d) = P := by
      rw [← u3]
      exact (if_pos gw).symm
    refine passC_ok x u5 (x.lt jm (by rw [zw.1]; decide)) (fun g2 f2 t2' => ?_)
    have c2 := u6.t he (f2.mono rfl)
    refine C g2 (j + 1) d2 _ t2' c2 (u7.b bd) (fun g3 i3 d3 t3 e3 X3 tc3 c3 w3 => ⟨fun _ => ?_, fun y => absurd y (by decide)⟩) (fun g3 f i3 e3 X3 tc3 w3 => ⟨fun y => absurd rfl y, fun _ => q0 g3 f i3 ?_ ((u4.tr (XFr.t4 f2)).tr X3) tc3 w3⟩)
    · obtain ⟨l1, l2, g3'⟩ := o _ _ _ _ _ t2'.2.2.2 (u7.b bd) e3
      have sj : stJ w one j (d2, t2) = .inr (i3, (addN d3 (w, t2, t3, 0) (xn d3 :: (xS d3 (xn d3)).tail.tail), xn d3)) := bnd_r e3
      have n40 : xn d3 < 40 := by
        have a1 := g3'.2.2.2.2
        have a2 := (u7.b bd).2.1
        have a3 := g3'.2.2.2.1
        omega
      rw [← hd t2 t3]
      refine add_ok he c3 n40 (fun y => ?_) tc3 (s := xn d3 :: (xS d3 (xn d3)).tail.tail) (fun g4 X4 tc4 c4 w4 v15 e15 => ⟨⟨l + 1, i3, _, _, by rw [e15]; exact nI_1 l, by omega, ?_, ((u4.tr (XFr.t4 f2)).tr X3).tr X4, tc4, c4, (stJ_ok o hw (x.lt jm (by rw [zw.1]; decide)) bd u7 sj).2.2, ?_⟩, ?_⟩)
      · exfalso
        have y : w = 4 := y
        omega
      · rw [← un, bnd_r sj, show 641 - (l + 1) = k by omega]
      · show qI g4 3 6 = qI h 3 6
        rw [w4, w3, f2.I rfl]; exact u8
      · show 700 - v15.toNatClampNeg < 700 - (nI l).toNatClampNeg
        rw [e15]
        dsimp only
        rw [nI_1, nI_clamp (by omega), nI_clamp (by omega)]; omega
    · rw [← un]
      exact bnd_l (bnd_l e3)
  · refine q1 g1 j d2 t2 ?_ u4 u5 u6 u8
    rw [← u3]
    have gw : ¬ isWb tk (cw kw) j = true := fun y => zw (of_decide_eq_true y)
    exact if_neg gw
theorem CR_all (x : Tx b sz lim m tk) (hm : m ≤ 600) (he : 26 ≤ e) {one : Nat → CD → PR CX} {rcA rcC rcO : Nat → Nat → Int32 → PH → (Int32 → PH → Prop) → Prop} {dep : Nat} (o : OneOk m one) (C : CR1 m tk e rcO one dep) : CR1 m tk e (wp_X0_readAll rcA rcC rcO) (pAl tk one) dep := by
  intro h i d Q t c bd q1 q0
  refine C h i d _ t c bd (fun h1 i1 d1 t1 e1 X1 tc1 c1 w1 => ⟨fun _ => ?_, fun y => absurd y (by decide)⟩) (fun h1 f j e1 X1 tc1 w1 => ⟨fun y => absurd rfl y, fun _ => q0 h1 f j (bnd_l e1) X1 tc1 w1⟩)
  obtain ⟨l1, l2, g1⟩ := o _ _ _ _ _ t.2.2.2 bd e1
  exact cjoin_ok x hm he o C (w := 2) (kw := 17) (deed := 1) (Or.inl rfl) (by decide) (fun _ _ => rfl) bd tc1 c1 g1 (fun h2 i' d' t' e2 X2 tc2 c2 w2 => q1 h2 i' d' t' ((bnd_r e1).trans e2) (X1.tr X2) tc2 c2 (w2.trans w1)) (fun h2 f j e2 X2 tc2 w2 => q0 h2 f j ((bnd_r e1).trans e2) (X1.tr X2) tc2 w2)
theorem CR_cnd (x : Tx b sz lim m tk) (hm : m ≤ 600) (he : 26 ≤ e) {al : Nat → CD → PR CX} {rcA rcC rcO : Nat → Nat → Int32 → PH → (Int32 → PH → Prop) → Prop} {dep : Nat} (o : OneOk m al) (C : CR1 m tk e rcA al dep) : CR1 m tk e (wp_X0_readCondition rcA rcC rcO) (fun i d => bnd (al i d) fun i x => lp (stJ 3 al) (isWb tk (cw 16)) 641 i x) dep := by
  intro h i d Q t c bd q1 q0
  refine C h i d _ t c bd (fun h1 i1 d1 t1 e1 X1 tc1 c1 w1 => ⟨fun _ => ?_, fun y => absurd y (by decide)⟩) (fun h1 f j e1 X1 tc1 w1 => ⟨fun y => absurd rfl y, fun _ => q0 h1 f j (bnd_l e1) X1 tc1 w1⟩)
  obtain ⟨l1, l2, g1⟩ := o _ _ _ _ _ t.2.2.2 bd e1
  exact cjoin_ok x hm he o C (w := 3) (kw := 16) (deed := 2) (Or.inr rfl) (by decide) (fun _ _ => rfl) bd tc1 c1 g1 (fun h2 i' d' t' e2 X2 tc2 c2 w2 => q1 h2 i' d' t' ((bnd_r e1).trans e2) (X1.tr X2) tc2 c2 (w2.trans w1)) (fun h2 f j e2 X2 tc2 w2 => q0 h2 f j ((bnd_r e1).trans e2) (X1.tr X2) tc2 w2)
/-- a comparison -/
theorem ccmp_ok (x : Tx b sz lim m tk) (he : 26 ≤ e) (t : TC h m tk i) (c : CCl h e d) (hn : xn d < 40) (iv : isV tk i) {Q : Int32 → PH → Prop}
    (q1 : ∀ h1 i' d' t', pCmp tk i d = .inr (i', (d', t')) → XFr e h h1 → TC h1 m tk i' → CCl h1 e d' → qI h1 3 6 = qI h 3 6 → Q 1 h1)
    (q0 : ∀ h1 f j, pCmp tk i d = .inl (f, j) → XFr e h h1 → TC h1 m tk j → qI h1 3 6 = nI f → Q 0 h1) : wp_X0_readComparison e 3 h Q := by
  obtain ⟨v, ev⟩ := iv
  refine tOp_ok x t ev (fun h1 f1 t1 => ?_)
  have c1 := c.t he (f1.mono rfl)
  have main : isR tk (i + 1) → wp_X0_readComparison_38 e 3 (cop v) h1 Q := by
    intro r
    refine contC_ok x t1 (passC_ok x t1 (x.lt t1.2.2.2 (by rw [r.1]; decide)) (fun h2 f2 t2 => ?_))
    have c2 := c1.t he (f2.mono rfl)
    have X2 : XFr e h h2 := (XFr.t4 f1).tr (XFr.t4 f2)
    refine cisV_ok x t2 (fun iv2 => ⟨fun _ => ?_, fun y => absurd y (by decide)⟩) (fun iv2 => ⟨fun y => absurd rfl y, fun _ => failC_ok (f := 1) t2 (fun h3 f3 t3 w3 => ⟨Or.inl rfl, q0 h3 1 _ ((bnd_r ev).trans ((if_pos r).trans (bnd_l iv2))) (X2.tr (XFr.t f3)) t3 w3⟩)⟩)
    obtain ⟨v2, ev2⟩ := iv2
    refine tOp_ok x t2 ev2 (fun h3 f3 t3 => ?_)
    have c3 := c2.t he (f3.mono rfl)
    have r60 : cdeed (4, v, v2, ctT (tk (i + 1))) = nI (ctT (tk (i + 1))) := rfl
    rw [← r60]
    refine add_ok he c3 hn (fun _ => ⟨rfl, rfl⟩) t3 (s := xn d :: xS d (xn d)) (fun h4 X4 t4 c4 w4 => q1 h4 _ _ _ ((bnd_r ev).trans ((if_pos r).trans (bnd_r ev2))) ((X2.tr (XFr.t4 f3)).tr X4) t4 c4 ?_)
    rw [w4, f3.I rfl, f2.I rfl, f1.I rfl]
  refine isSignC_ok x t1 (c := 60) (by decide) (fun z => ⟨fun _ => main ⟨z.1, Or.inl z.2⟩, fun y => absurd y (by decide)⟩) (fun n0 => ⟨fun y => absurd rfl y, fun _ => ?_⟩)
  refine isSignC_ok x t1 (c := 61) (by decide) (fun z => ⟨fun _ => main ⟨z.1, Or.inr (Or.inl z.2)⟩, fun y => absurd y (by decide)⟩) (fun n1 => ⟨fun y => absurd rfl y, fun _ => ?_⟩)
  refine isSignC_ok x t1 (c := 62) (by decide) (fun z => ⟨fun _ => main ⟨z.1, Or.inr (Or.inr z.2)⟩, fun y => absurd y (by decide)⟩) (fun n2 => ⟨fun y => absurd rfl y, fun _ => ?_⟩)
  refine failC_ok (f := 1) t1 (fun h3 f3 t3 w3 => ⟨Or.inl rfl, q0 h3 1 _ ((bnd_r ev).trans (if_neg (fun r => ?_))) ((XFr.t4 f1).tr (XFr.t f3)) t3 w3⟩)
  rcases r.2 with y | y | y
  · exact n0 ⟨r.1, y⟩
  · exact n1 ⟨r.1, y⟩
  · exact n2 ⟨r.1, y⟩
end

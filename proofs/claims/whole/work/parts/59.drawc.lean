/-! ===== PURE: a DRAWING's text, as the class reads it ===== -/
/-- nothing but cell p and the taking of tokens -/
def PFr (p : Nat) (h h1 : PH) : Prop := (qn h1 = qn h ∧ qz h1 = qz h ∧ qK h1 = qK h ∧ qL h1 = qL h) ∧ ∀ a j, ¬ (a = 3 ∧ (j = 4 ∨ j = 6)) → (a ≠ p → qI h1 a j = qI h a j) ∧ qJ h1 a j = qJ h a j ∧ qR h1 a j = qR h a j
theorem PFr.rf (p : Nat) (h : PH) : PFr p h h := ⟨⟨rfl, rfl, rfl, rfl⟩, fun _ _ _ => ⟨fun _ => rfl, rfl, rfl⟩⟩
theorem PFr.tr {p : Nat} {h h1 h2 : PH} (a : PFr p h h1) (b : PFr p h1 h2) : PFr p h h2 := ⟨⟨b.1.1.trans a.1.1, b.1.2.1.trans a.1.2.1, b.1.2.2.1.trans a.1.2.2.1, b.1.2.2.2.trans a.1.2.2.2⟩, fun x j z => ⟨fun y => ((b.2 x j z).1 y).trans ((a.2 x j z).1 y), (b.2 x j z).2.1.trans (a.2 x j z).2.1, (b.2 x j z).2.2.trans (a.2 x j z).2.2⟩⟩
theorem PFr.s (p : Nat) (h : PH) (k : Nat) (v : Int32) : PFr p h (qsI h p k v) := ⟨⟨rfl, rfl, rfl, rfl⟩, fun a j _ => ⟨fun ha => by rw [rI_ne _ _ _ ha], rfl, rfl⟩⟩
theorem PFr.s' {p k : Nat} {h h1 : PH} {v : Int32} (e : h1 = qsI h p k v) : PFr p h h1 := by rw [e]; exact PFr.s _ _ _ _
theorem PFr.t {p : Nat} {h h1 : PH} (f : Fg [] tF h h1) : PFr p h h1 := ⟨f.1, fun a j hj => by
  have n : (a, j) ∉ tF := fun z => by
    simp [tF] at z
    exact hj (by omega)
  have q := f.2 a List.not_mem_nil j n
  exact ⟨fun _ => q.1, q.2.1, q.2.2⟩⟩
theorem PFr.t4 {p : Nat} {h h1 : PH} (f : Fg [] [(3, 4)] h h1) : PFr p h h1 := PFr.t (f.mono rfl)
theorem row_t {p : Nat} {h h1 : PH} (hp : 28 ≤ p) (f : Fg [] tF h h1) : qI h1 p = qI h p := by
  funext j
  exact (f.2 p List.not_mem_nil j (by simp [tF]; omega)).1
theorem row_t4 {p : Nat} {h h1 : PH} (hp : 28 ≤ p) (f : Fg [] [(3, 4)] h h1) : qI h1 p = qI h p := row_t hp (f.mono rfl)
theorem TC.s {h : PH} {m i p k : Nat} {v : Int32} {tk : Nat → TK} (t : TC h m tk i) (hp : 28 ≤ p) : TC (qsI h p k v) m tk i := by
  obtain ⟨⟨a1, a2, a3, a4, a5, a6⟩, ⟨b1, b2⟩, c, d⟩ := t
  have n : ∀ x, x < 28 → ∀ j, qI (qsI h p k v) x j = qI h x j := fun x hx j => by rw [rI_ne _ _ _ (by omega)]
  exact ⟨⟨a1, a2, a3, a4, a5, a6⟩, ⟨by rw [n 3 (by decide)]; exact b1, fun j hj => by rw [n 4 (by decide), n 5 (by decide), n 6 (by decide)]; exact b2 j hj⟩, by rw [n 3 (by decide)]; exact c, d⟩
/-! what is told -/
def pRg (tk : Nat → TK) (N c i : Nat) : PR (Nat × Nat) := bnd (pW tk c i) fun i _ => bnd (pN tk 0 (N - 1) i) fun i lo => bnd (pW tk (cw 10) i) fun i _ => bnd (pN tk 0 (N - 1) i) fun i hi => .inr (i, (lo, hi))
def pArm2 (tk : Nat → TK) (N pin w i : Nat) : PR PD := bnd (pW tk (cw 7) i) fun i _ => bnd (pN tk 0 20 i) fun i a => if kdT (tk i) = 1 ∧ ctT (tk i) = cw 8 then bnd (pN tk 0 20 (i + 1)) fun i o => bnd (pRg tk N (cw 9) i) fun i r => .inr (i, (0, pin, w, a, o, 0, r.1, r.2, true)) else .inr (i, (0, pin, w, a, 0, 0, 0, 0, false))
def pDoor (tk : Nat → TK) (N pin w i : Nat) : PR PD := bnd (pW tk (cw 11) i) fun i _ => bnd (pN tk 0 (N - 1) i) fun i a => if kdT (tk i) = 1 ∧ ctT (tk i) = cw 12 then bnd (pRg tk N (cw 12) i) fun i r => .inr (i, (2, pin, w, 0, 0, a, r.1, r.2, true)) else .inr (i, (2, pin, w, 0, 0, a, 0, 0, false))
def pRest (tk : Nat → TK) (N kk pin w i : Nat) : PR PD := if kk = 0 then pArm2 tk N pin w i else if kk = 2 then pDoor tk N pin w i else if kk = 4 then .inr (i, (4, pin, w, 0, 0, 0, 0, 0, false)) else bnd (pRg tk N (cw 9) i) fun i r => .inr (i, (kk, pin, w, 0, 0, 0, r.1, r.2, true))
section
variable {h : PH} {b : Nat → Nat} {sz lim m i e p N : Nat} {tk : Nat → TK}
theorem crng_ok (x : Tx b sz lim m tk) (t : TC h m tk i) (hp : 28 ≤ p) (he : e ≠ p ∧ 7 ≤ e) (eN : qI h e 2 = nI N) (hN8 : 8 ≤ N) (hN : N ≤ 48) {k : Nat} (hk : k < 34) {Q : Int32 → PH → Prop}
    (q1 : ∀ h1 i' lo hi, pRg tk N (cw k) i = .inr (i', (lo, hi)) → i < i' → lo < N → hi < N → PFr p h h1 → TC h1 m tk i' → qI h1 p = upd (upd (upd (qI h p) 8 (nI lo)) 9 (nI hi)) 7 1 → qI h1 3 6 = qI h 3 6 → Q 1 h1)
    (q0 : ∀ h1 f j, pRg tk N (cw k) i = .inl (f, j) → PFr p h h1 → TC h1 m tk j → qI h1 3 6 = nI f → Q 0 h1) : wp_X1_readRange e 3 p (wd k) h Q := by
  have eNe : ∀ {g : PH}, PFr p h g → qI g e 2 - 1 = nI (N - 1) := fun f => by
    rw [(f.2 e 2 (by omega)).1 he.1, eN]
    obtain ⟨M, eM⟩ : ∃ M, N = M + 1 := ⟨N - 1, by omega⟩
    rw [eM, nI_pred]; rfl
  refine tW_ok x t hk (fun h1 e1 f1 t1 => ⟨fun _ => ?_, fun z => absurd z (by decide)⟩) (fun h1 e1 f1 t1 w1 => ⟨fun z => absurd rfl z, fun _ => q0 h1 1 i (bnd_l e1) (PFr.t f1) t1 w1⟩)
  rw [eNe (PFr.t4 f1)]
  refine tN_ok x t1 (lo := 0) (hi := N - 1) (by decide) (by omega) (fun h2 lo e2 l0 l1 _ f2 t2 h3 e3 => ⟨fun z => ?_, fun _ => ?_⟩) (fun h2 f e2 f2 t2 w2 h3 e3 => ⟨fun _ => q0 h3 f _ ((bnd_r e1).trans (bnd_l e2)) ?_ (by rw [e3]; exact t2.s hp) (by rw [e3, rI_ne _ _ _ (by omega)]; exact w2), fun z => absurd ?_ z⟩)
  · rw [e3, rI_sI, if_pos rfl, up_eq] at z; exact absurd z (nI_m1 (by omega))
  · have t3 : TC h3 m tk (i + 1 + 1) := by rw [e3]; exact t2.s hp
    have P3 : PFr p h h3 := ((PFr.t4 f1).tr (PFr.t4 f2)).tr (PFr.s' e3)
    have R3 : qI h3 p = upd (qI h p) 8 (nI lo) := by rw [e3, rI_sI, if_pos rfl, row_t4 hp f2, row_t4 hp f1]
    have S3 : qI h3 3 6 = qI h 3 6 := by rw [e3, rI_ne _ _ _ (by omega), f2.I rfl, f1.I rfl]
    refine tW_ok x t3 (k := 10) (by decide) (fun h4 e4 f4 t4 => ⟨fun _ => ?_, fun z => absurd z (by decide)⟩) (fun h4 e4 f4 t4 w4 => ⟨fun z => absurd rfl z, fun _ => q0 h4 1 _ ((bnd_r e1).trans ((bnd_r e2).trans (bnd_l e4))) (P3.tr (PFr.t f4)) t4 w4⟩)
    have P4 := P3.tr (PFr.t4 f4)
    rw [eNe P4]
    refine tN_ok x t4 (lo := 0) (hi := N - 1) (by decide) (by omega) (fun h5 hi e5 l0' l1' _ f5 t5 h6 e6 h7 e7 => ⟨fun z => ?_, fun _ => q1 h7 _ lo hi ((bnd_r e1).trans ((bnd_r e2).trans ((bnd_r e4).trans (bnd_r e5)))) (by omega) (by omega) (by omega) ?_ (by rw [e7, e6]; exact (t5.s hp).s hp) ?_ ?_⟩) (fun h5 f e5 f5 t5 w5 h6 e6 h7 e7 => ⟨fun _ => q0 h7 f _ ((bnd_r e1).trans ((bnd_r e2).trans ((bnd_r e4).trans (bnd_l e5)))) ?_ (by rw [e7, e6]; exact (t5.s hp).s hp) (by rw [e7, rI_ne _ _ _ (by omega), e6, rI_ne _ _ _ (by omega)]; exact w5), fun z => absurd ?_ z⟩)
    · rw [e7, rI_sI, if_pos rfl, up_ne _ _ (by decide), e6, rI_sI, if_pos rfl, up_eq] at z; exact absurd z (nI_m1 (by omega))
    · exact ((P4.tr (PFr.t4 f5)).tr (PFr.s' e6)).tr (PFr.s' e7)
    · rw [e7, rI_sI, if_pos rfl, e6, rI_sI, if_pos rfl, row_t4 hp f5, row_t4 hp f4, R3]
    · rw [e7, rI_ne _ _ _ (by omega), e6, rI_ne _ _ _ (by omega), f5.I rfl, f4.I rfl]; exact S3
    · exact ((P4.tr (PFr.t f5)).tr (PFr.s' e6)).tr (PFr.s' e7)
    · rw [e7, rI_sI, if_pos rfl, up_ne _ _ (by decide), e6, rI_sI, if_pos rfl, up_eq]
  · exact ((PFr.t4 f1).tr (PFr.t f2)).tr (PFr.s' e3)
  · rw [e3, rI_sI, if_pos rfl, up_eq]
/-- the row of a part of which kind, pin and weight are told -/
def row0 (f : Nat → Int32) (kk pin w : Nat) : Prop := f 0 = nI kk ∧ f 2 = nI pin ∧ f 3 = nI w ∧ f 4 = 0 ∧ f 5 = 0 ∧ f 6 = 0 ∧ f 7 = 0 ∧ f 8 = 0 ∧ f 9 = 0
theorem rowE_of {f : Nat → Int32} {D : PD} (a0 : f 0 = nI (dk D)) (a2 : f 2 = nI (dpin D)) (a3 : f 3 = nI (dw D)) (a4 : f 4 = nI (darm D)) (a5 : f 5 = nI (dout D)) (a6 : f 6 = nI (dat D)) (a7 : f 7 = b2i (drg D)) (a8 : f 8 = nI (dlo D)) (a9 : f 9 = nI (dhi D)) : rowE f D := by
  intro i hi h1
  rcases (show i = 0 ∨ i = 2 ∨ i = 3 ∨ i = 4 ∨ i = 5 ∨ i = 6 ∨ i = 7 ∨ i = 8 ∨ i = 9 by omega) with z | z | z | z | z | z | z | z | z <;> subst z
  · exact a0
  · exact a2
  · exact a3
  · exact a4
  · exact a5
  · exact a6
  · exact a7
  · exact a8
  · exact a9
theorem crest_ok (x : Tx b sz lim m tk) (t : TC h m tk i) (hp : 28 ≤ p) (he : e ≠ p ∧ 7 ≤ e) (eN : qI h e 2 = nI N) (hN8 : 8 ≤ N) (hN : N ≤ 48) {kk pin w : Nat} (hkk : kk < 5) (hpin : pin < N) (hw1 : 1 ≤ w) (hw : w ≤ 99) (r0 : row0 (qI h p) kk pin w) {Q : Int32 → PH → Prop}
    (q1 : ∀ h1 i' D, pRest tk N kk pin w i = .inr (i', D) → i ≤ i' → okD N D → rowE (qI h1 p) D → qI h1 p 1 = qI h p 1 → PFr p h h1 → TC h1 m tk i' → qI h1 3 6 = qI h 3 6 → Q 1 h1)
    (q0 : ∀ h1 f j, pRest tk N kk pin w i = .inl (f, j) → PFr p h h1 → TC h1 m tk j → qI h1 3 6 = nI f → Q 0 h1) : wp_X1_readRest e 3 p h Q := by
  obtain ⟨c0, c2, c3, c4, c5, c6, c7, c8, c9⟩ := r0
  have kx : ∀ v, v < 5 → qI h p 0 = nI v → kk = v := fun v hv z => nI_inj (by omega) (by omega) (by rw [← c0]; exact z)
  have eNe : ∀ {g : PH}, PFr p h g → qI g e 2 = nI N := fun f => by rw [(f.2 e 2 (by omega)).1 he.1]; exact eN
  have rng : (kk = 1 ∨ kk = 3) → wp_X1_readRange e 3 p (wd 9) h (fun r7 h6 => ((r7 = 0 ∨ r7 = 1) ∧ Q r7 h6)) := by
    intro z
    have pr : pRest tk N kk pin w i = bnd (pRg tk N (cw 9) i) fun i r => .inr (i, (kk, pin, w, 0, 0, 0, r.1, r.2, true)) := by
      unfold pRest
      rw [if_neg (by omega), if_neg (by omega), if_neg (by omega)]
    refine crng_ok x t hp he eN hN8 hN (k := 9) (by decide) (fun h1 i' lo hi e1 ii l1 l2 P1 t1 R1 S1 => ⟨Or.inr rfl, q1 h1 i' (kk, pin, w, 0, 0, 0, lo, hi, true) (by rw [pr]; exact bnd_r e1) (by omega) ?_ ?_ ?_ P1 t1 S1⟩) (fun h1 f j e1 P1 t1 w1 => ⟨Or.inl rfl, q0 h1 f j (by rw [pr]; exact bnd_l e1) P1 t1 w1⟩)
    · exact ⟨hkk, hpin, hw1, hw, by show 0 ≤ 20; omega, by show 0 ≤ 20; omega, by show 0 < N; omega, l1, l2, fun _ => ⟨rfl, rfl⟩, fun _ => rfl, fun y => (by cases y), fun y => (by have : kk = 4 := y; omega), fun _ => rfl⟩
    · rw [R1]
      refine rowE_of ?_ ?_ ?_ ?_ ?_ ?_ ?_ ?_ ?_ <;> simp only [up_at] <;> simp
      · exact c0
      · exact c2
      · exact c3
      · exact c4
      · exact c5
      · exact c6
      · rfl
      · rfl
      · rfl
    · rw [R1]; simp only [up_at]; simp
  refine ⟨fun z => ?_, fun z => rng (Or.inl (kx 1 (by decide) z)), fun z => ?_, fun z => rng (Or.inr (kx 3 (by decide) z)), fun z => ?_, fun z0 z1 z2 z3 z4 => ?_⟩
  · have k0 := kx 0 (by decide) z
    subst k0
    have pr : pRest tk N 0 pin w i = pArm2 tk N pin w i := by unfold pRest; rw [if_pos rfl]
    refine tW_ok x t (k := 7) (by decide) (fun h1 e1 f1 t1 => ⟨fun _ => ?_, fun z => absurd z (by decide)⟩) (fun h1 e1 f1 t1 w1 => ⟨fun z => absurd rfl z, fun _ => ⟨Or.inl rfl, q0 h1 1 i (by rw [pr]; exact bnd_l e1) (PFr.t f1) t1 w1⟩⟩)
    refine tN_ok x t1 (lo := 0) (hi := 20) (by decide) (by decide) (fun h2 a e2 l0 l1 _ f2 t2 h3 e3 => ⟨fun _ => ?_, fun z => ?_⟩) (fun h2 f e2 f2 t2 w2 h3 e3 => ⟨fun z => absurd ?_ z, fun _ => ⟨Or.inl rfl, q0 h3 f _ (by rw [pr]; exact (bnd_r e1).trans (bnd_l e2)) ?_ (by rw [e3]; exact t2.s hp) (by rw [e3, rI_ne _ _ _ (by omega)]; exact w2)⟩⟩)
    · have t3 : TC h3 m tk (i + 1 + 1) := by rw [e3]; exact t2.s hp
      have P3 : PFr p h h3 := ((PFr.t4 f1).tr (PFr.t4 f2)).tr (PFr.s' e3)
      have R3 : qI h3 p = upd (qI h p) 4 (nI a) := by rw [e3, rI_sI, if_pos rfl, row_t4 hp f2, row_t4 hp f1]
      have S3 : qI h3 3 6 = qI h 3 6 := by rw [e3, rI_ne _ _ _ (by omega), f2.I rfl, f1.I rfl]
      refine isWord_ok x t3 (k := 8) (by decide) (fun zo => ⟨fun _ => ?_, fun z => absurd z (by decide)⟩) (fun zo => ⟨fun z => absurd rfl z, fun _ => ⟨Or.inr rfl, q1 h3 _ (0, pin, w, a, 0, 0, 0, 0, false) ?_ (by omega) ?_ ?_ ?_ P3 t3 S3⟩⟩)
      · refine passC_ok x t3 (x.lt t3.2.2.2 (by rw [zo.1]; decide)) (fun h4 f4 t4 => ?_)
        have e4 : pArm2 tk N pin w i = bnd (pN tk 0 20 (i + 1 + 1 + 1)) fun i o => bnd (pRg tk N (cw 9) i) fun i r => .inr (i, (0, pin, w, a, o, 0, r.1, r.2, true)) := by
          refine (bnd_r e1).trans ((bnd_r e2).trans ?_)
          exact if_pos zo
        refine tN_ok x t4 (lo := 0) (hi := 20) (by decide) (by decide) (fun h5 o e5 o0 o1 _ f5 t5 h6 e6 => ⟨fun z => ?_, fun _ => ?_⟩) (fun h5 f e5 f5 t5 w5 h6 e6 => ⟨fun _ => ⟨Or.inl rfl, q0 h6 f _ (by rw [pr, e4]; exact bnd_l e5) ?_ (by rw [e6]; exact t5.s hp) (by rw [e6, rI_ne _ _ _ (by omega)]; exact w5)⟩, fun z => absurd ?_ z⟩)
        · rw [e6, rI_sI, if_pos rfl, up_eq] at z; exact absurd z (nI_m1 (by omega))
        · have t6 : TC h6 m tk (i + 1 + 1 + 1 + 1) := by rw [e6]; exact t5.s hp
          have P6 : PFr p h h6 := ((P3.tr (PFr.t4 f4)).tr (PFr.t4 f5)).tr (PFr.s' e6)
          have R6 : qI h6 p = upd (upd (qI h p) 4 (nI a)) 5 (nI o) := by rw [e6, rI_sI, if_pos rfl, row_t4 hp f5, row_t4 hp f4, R3]
          have S6 : qI h6 3 6 = qI h 3 6 := by rw [e6, rI_ne _ _ _ (by omega), f5.I rfl, f4.I rfl]; exact S3
          refine crng_ok x t6 hp he (eNe P6) hN8 hN (k := 9) (by decide) (fun h7 i' lo hi e7 ii l1' l2' P7 t7 R7 S7 => ⟨fun z => absurd z (by decide), fun _ => ⟨Or.inr rfl, q1 h7 i' (0, pin, w, a, o, 0, lo, hi, true) (by rw [pr, e4]; exact (bnd_r e5).trans (bnd_r e7)) (by omega) ?_ ?_ ?_ (P6.tr P7) t7 (S7.trans S6)⟩⟩) (fun h7 f j e7 P7 t7 w7 => ⟨fun _ => ⟨Or.inl rfl, q0 h7 f j (by rw [pr, e4]; exact (bnd_r e5).trans (bnd_l e7)) (P6.tr P7) t7 w7⟩, fun z => absurd rfl z⟩)
          · exact ⟨hkk, hpin, hw1, hw, l1, o1, by show 0 < N; omega, l1', l2', fun y => absurd rfl y, fun _ => rfl, fun y => (by cases y), fun y => (by cases y), fun _ => rfl⟩
          · rw [R7, R6]
            refine rowE_of ?_ ?_ ?_ ?_ ?_ ?_ ?_ ?_ ?_ <;> simp only [up_at] <;> simp
            · exact c0
            · exact c2
            · exact c3
            · rfl
            · rfl
            · exact c6
            · rfl
            · rfl
            · rfl
          · rw [R7, R6]; simp only [up_at]; simp
        · exact ((P3.tr (PFr.t4 f4)).tr (PFr.t f5)).tr (PFr.s' e6)
        · rw [e6, rI_sI, if_pos rfl, up_eq]
      · rw [pr]
        refine (bnd_r e1).trans ((bnd_r e2).trans ?_)
        exact if_neg zo
      · exact ⟨hkk, hpin, hw1, hw, l1, by show 0 ≤ 20; omega, by show 0 < N; omega, by show 0 < N; omega, by show 0 < N; omega, fun y => absurd rfl y, fun _ => rfl, fun _ => ⟨rfl, rfl, rfl⟩, fun _ => rfl, fun y => (by rcases y with y | y <;> cases y)⟩
      · rw [R3]
        refine rowE_of ?_ ?_ ?_ ?_ ?_ ?_ ?_ ?_ ?_ <;> simp only [up_at] <;> simp
        · exact c0
        · exact c2
        · exact c3
        · rfl
        · exact c5
        · exact c6
        · exact c7
        · exact c8
        · exact c9
      · rw [R3]; simp only [up_at]; simp
    · rw [e3, rI_sI, if_pos rfl, up_eq] at z; exact absurd z (nI_m1 (by omega))
    · rw [e3, rI_sI, if_pos rfl, up_eq]
    · exact ((PFr.t4 f1).tr (PFr.t f2)).tr (PFr.s' e3)
  · have k2 := kx 2 (by decide) z
    subst k2
    have pr : pRest tk N 2 pin w i = pDoor tk N pin w i := by unfold pRest; rw [if_neg (by decide), if_pos rfl]
    refine tW_ok x t (k := 11) (by decide) (fun h1 e1 f1 t1 => ⟨fun _ => ?_, fun z => absurd z (by decide)⟩) (fun h1 e1 f1 t1 w1 => ⟨fun z => absurd rfl z, fun _ => ⟨Or.inl rfl, q0 h1 1 i (by rw [pr]; exact bnd_l e1) (PFr.t f1) t1 w1⟩⟩)
    have eN1 : qI h1 e 2 - 1 = nI (N - 1) := by
      rw [eNe (PFr.t4 f1)]
      obtain ⟨M, eM⟩ : ∃ M, N = M + 1 := ⟨N - 1, by omega⟩
      rw [eM, nI_pred]; rfl
    rw [eN1]
    refine tN_ok x t1 (lo := 0) (hi := N - 1) (by decide) (by omega) (fun h2 a e2 l0 l1 _ f2 t2 h3 e3 => ⟨fun _ => ?_, fun z => ?_⟩) (fun h2 f e2 f2 t2 w2 h3 e3 => ⟨fun z => absurd ?_ z, fun _ => ⟨Or.inl rfl, q0 h3 f _ (by rw [pr]; exact (bnd_r e1).trans (bnd_l e2)) ?_ (by rw [e3]; exact t2.s hp) (by rw [e3, rI_ne _ _ _ (by omega)]; exact w2)⟩⟩)
    · have t3 : TC h3 m tk (i + 1 + 1) := by rw [e3]; exact t2.s hp
      have P3 : PFr p h h3 := ((PFr.t4 f1).tr (PFr.t4 f2)).tr (PFr.s' e3)
      have R3 : qI h3 p = upd (qI h p) 6 (nI a) := by rw [e3, rI_sI, if_pos rfl, row_t4 hp f2, row_t4 hp f1]
      have S3 : qI h3 3 6 = qI h 3 6 := by rw [e3, rI_ne _ _ _ (by omega), f2.I rfl, f1.I rfl]
      refine isWord_ok x t3 (k := 12) (by decide) (fun zo => ⟨fun z => absurd z (by decide), fun _ => ?_⟩) (fun zo => ⟨fun _ => ⟨Or.inr rfl, q1 h3 _ (2, pin, w, 0, 0, a, 0, 0, false) ?_ (by omega) ?_ ?_ ?_ P3 t3 S3⟩, fun z => absurd rfl z⟩)
      · have e4 : pDoor tk N pin w i = bnd (pRg tk N (cw 12) (i + 1 + 1)) fun i r => .inr (i, (2, pin, w, 0, 0, a, r.1, r.2, true)) := by
          refine (bnd_r e1).trans ((bnd_r e2).trans ?_)
          exact if_pos zo
        refine crng_ok x t3 hp he (eNe P3) hN8 hN (k := 12) (by decide) (fun h7 i' lo hi e7 ii l1' l2' P7 t7 R7 S7 => ⟨fun z => absurd z (by decide), fun _ => ⟨Or.inr rfl, q1 h7 i' (2, pin, w, 0, 0, a, lo, hi, true) (by rw [pr, e4]; exact bnd_r e7) (by omega) ?_ ?_ ?_ (P3.tr P7) t7 (S7.trans S3)⟩⟩) (fun h7 f j e7 P7 t7 w7 => ⟨fun _ => ⟨Or.inl rfl, q0 h7 f j (by rw [pr, e4]; exact bnd_l e7) (P3.tr P7) t7 w7⟩, fun z => absurd rfl z⟩)
        · exact ⟨hkk, hpin, hw1, hw, by show 0 ≤ 20; omega, by show 0 ≤ 20; omega, by show a < N; omega, l1', l2', fun _ => ⟨rfl, rfl⟩, fun y => absurd rfl y, fun y => (by cases y), fun y => (by cases y), fun _ => rfl⟩
        · rw [R7, R3]
          refine rowE_of ?_ ?_ ?_ ?_ ?_ ?_ ?_ ?_ ?_ <;> simp only [up_at] <;> simp
          · exact c0
          · exact c2
          · exact c3
          · exact c4
          · exact c5
          · rfl
          · rfl
          · rfl
          · rfl
        · rw [R7, R3]; simp only [up_at]; simp
      · rw [pr]
        refine (bnd_r e1).trans ((bnd_r e2).trans ?_)
        exact if_neg zo
      · exact ⟨hkk, hpin, hw1, hw, by show 0 ≤ 20; omega, by show 0 ≤ 20; omega, by show a < N; omega, by show 0 < N; omega, by show 0 < N; omega, fun _ => ⟨rfl, rfl⟩, fun y => absurd rfl y, fun _ => ⟨rfl, rfl, rfl⟩, fun _ => rfl, fun y => (by rcases y with y | y <;> cases y)⟩
      · rw [R3]
        refine rowE_of ?_ ?_ ?_ ?_ ?_ ?_ ?_ ?_ ?_ <;> simp only [up_at] <;> simp
        · exact c0
        · exact c2
        · exact c3
        · exact c4
        · exact c5
        · rfl
        · exact c7
        · exact c8
        · exact c9
      · rw [R3]; simp only [up_at]; simp
    · rw [e3, rI_sI, if_pos rfl, up_eq] at z; exact absurd z (nI_m1 (by omega))
    · rw [e3, rI_sI, if_pos rfl, up_eq]
    · exact ((PFr.t4 f1).tr (PFr.t f2)).tr (PFr.s' e3)
  · have k4 := kx 4 (by decide) z
    subst k4
    refine q1 h i (4, pin, w, 0, 0, 0, 0, 0, false) ?_ (Nat.le_refl i) ?_ ?_ rfl (PFr.rf _ _) t rfl
    · unfold pRest
      rw [if_neg (by decide), if_neg (by decide), if_pos rfl]
    · exact ⟨hkk, hpin, hw1, hw, by show 0 ≤ 20; omega, by show 0 ≤ 20; omega, by show 0 < N; omega, by show 0 < N; omega, by show 0 < N; omega, fun _ => ⟨rfl, rfl⟩, fun _ => rfl, fun _ => ⟨rfl, rfl, rfl⟩, fun _ => rfl, fun y => (by rcases y with y | y <;> cases y)⟩
    · exact rowE_of c0 c2 c3 c4 c5 c6 c7 c8 c9
  · exfalso
    rcases (show kk = 0 ∨ kk = 1 ∨ kk = 2 ∨ kk = 3 ∨ kk = 4 by omega) with y | y | y | y | y <;> rw [y] at c0
    · exact z0 c0
    · exact z1 c0
    · exact z2 c0
    · exact z3 c0
    · exact z4 c0
end

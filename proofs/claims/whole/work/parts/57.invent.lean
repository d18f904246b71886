/-! ===== PURE: lines one behind the other; the call inventor ===== -/
def itr {σ : Type} (pl : Nat → Nat → σ → PR σ) (i0 : Nat) (d0 : σ) : Nat → PR σ
  | 0 => .inr (i0, d0)
  | l + 1 => bnd (itr pl i0 d0 l) (fun i d => pl l i d)
theorem itr_s {σ : Type} {pl : Nat → Nat → σ → PR σ} {i0 l i : Nat} {d0 d : σ} (h : itr pl i0 d0 l = .inr (i, d)) : itr pl i0 d0 (l + 1) = pl l i d := by
  show bnd (itr pl i0 d0 l) _ = _
  rw [h]; rfl
theorem itr_l {σ : Type} {pl : Nat → Nat → σ → PR σ} {i0 l : Nat} {d0 : σ} {x : Nat × Nat} (h : itr pl i0 d0 l = .inl x) : ∀ k, l ≤ k → itr pl i0 d0 k = .inl x := by
  intro k hk
  induction k with
  | zero =>
    have : l = 0 := by omega
    rw [← this]; exact h
  | succ k ih =>
    rcases (show l = k + 1 ∨ l ≤ k by omega) with z | z
    · rw [← z]; exact h
    · show bnd (itr pl i0 d0 k) _ = _
      rw [ih z]; rfl
/-- what comes of it: a fault, or how many lines and what they told -/
def IO {σ : Type} (pl : Nat → Nat → σ → PR σ) (i0 : Nat) (d0 : σ) (m : Nat) (too : Prop) (r : PR σ) : Prop := ∃ l, (∃ d, itr pl i0 d0 l = .inr (m, d) ∧ ((too ∧ r = .inl (1, m)) ∨ (¬ too ∧ r = .inr (l, d)))) ∨ (∃ i d x, itr pl i0 d0 l = .inr (i, d) ∧ i < m ∧ pl l i d = .inl x ∧ r = .inl x)
theorem IO_uniq {σ : Type} {pl : Nat → Nat → σ → PR σ} {i0 m : Nat} {d0 : σ} {too : Prop} {r r2 : PR σ} (hm : ∀ l d, ∃ x, pl l m d = .inl x) (a : IO pl i0 d0 m too r) (b : IO pl i0 d0 m too r2) : r = r2 := by
  -- the line at which it stops
  have key : ∀ {r : PR σ}, IO pl i0 d0 m too r → ∃ l i d, itr pl i0 d0 l = .inr (i, d) ∧ (∃ x, pl l i d = .inl x) ∧ ((i = m ∧ ((too ∧ r = .inl (1, m)) ∨ (¬ too ∧ r = .inr (l, d)))) ∨ (i < m ∧ ∃ x, pl l i d = .inl x ∧ r = .inl x)) := by
    rintro r ⟨l, ⟨d, e, o⟩ | ⟨i, d, x, e, hi, p, o⟩⟩
    · exact ⟨l, m, d, e, hm l d, Or.inl ⟨rfl, o⟩⟩
    · exact ⟨l, i, d, e, ⟨x, p⟩, Or.inr ⟨hi, x, p, o⟩⟩
  obtain ⟨l, i, d, e, ⟨x, p⟩, o⟩ := key a
  obtain ⟨l2, i2, d2, e2, ⟨x2, p2⟩, o2⟩ := key b
  have el : l = l2 := by
    rcases Nat.lt_trichotomy l l2 with z | z | z
    · have := itr_l ((itr_s e).trans p) l2 (by omega)
      rw [e2] at this; cases this
    · exact z
    · have := itr_l ((itr_s e2).trans p2) l (by omega)
      rw [e] at this; cases this
  subst el
  rw [e] at e2
  cases e2
  rcases o with ⟨o1, o2'⟩ | ⟨o1, y, o2', o3⟩
  · rcases o2 with ⟨q1, q2⟩ | ⟨q1, _⟩
    · rcases o2' with ⟨t, u⟩ | ⟨t, u⟩
      · rcases q2 with ⟨t2, u2⟩ | ⟨t2, u2⟩
        · rw [u, u2]
        · exact absurd t t2
      · rcases q2 with ⟨t2, u2⟩ | ⟨t2, u2⟩
        · exact absurd t2 t
        · rw [u, u2]
    · omega
  · rcases o2 with ⟨q1, _⟩ | ⟨q1, y2, q2, q3⟩
    · omega
    · rw [o2'] at q2
      cases q2
      rw [o3, q3]
/-- which SAYING a word is -/
def sayC (c : Nat) : Option Nat := if c = cw 30 then some 0 else if c = cw 0 then some 1 else if c = cw 31 then some 2 else if c = cw 32 then some 3 else if c = cw 1 then some 4 else if c = cw 6 then some 5 else if c = cw 33 then some 6 else none
theorem say_c : ∀ k, k < 34 → (sayC (cw k) = none ∧ q_wc 3 k = -1) ∨ (∃ y, y < 7 ∧ sayC (cw k) = some y ∧ q_wc 3 k = nI y) := by decide +kernel
theorem say_n {c : Nat} (h : ∀ k, k < 34 → c ≠ cw k) : sayC c = none := by
  unfold sayC
  rw [if_neg (h 30 (by decide)), if_neg (h 0 (by decide)), if_neg (h 31 (by decide)), if_neg (h 32 (by decide)), if_neg (h 1 (by decide)), if_neg (h 6 (by decide)), if_neg (h 33 (by decide))]
def pSay (tk : Nat → TK) (i : Nat) : PR Nat := if kdT (tk i) = 1 then (match sayC (ctT (tk i)) with | some y => .inr (i + 1, y) | none => .inl (1, i)) else .inl (1, i)
def pHr (tk : Nat → TK) (i : Nat) : PR (Nat × Nat × Nat) :=
  bnd (pW tk (cw 27) i) fun i _ => bnd (pN tk 0 9 i) fun i s => bnd (pW tk (cw 28) i) fun i _ => bnd (pSay tk i) fun i y => bnd (pW tk (cw 29) i) fun i _ => bnd (pN tk 0 9 i) fun i n => bnd (pS tk 59 i) fun i _ => .inr (i, (s, y, n))
def upL (L : Nat → Int32) (d : Nat × Nat × Nat) : Nat → Int32 := fun j => if j = 7 * d.1 + d.2.1 ∧ L j = -1 then nI d.2.2 else L j
def plI (tk : Nat → TK) (l i : Nat) (L : Nat → Int32) : PR (Nat → Int32) := if (kdT (tk i) = 1 ∧ ctT (tk i) = cw 27) ∧ 20 ≤ l then .inl (4, i) else bnd (pHr tk i) fun i d => .inr (i, upL L d)
theorem plI_m {b : Nat → Nat} {sz lim m : Nat} {tk : Nat → TK} (x : Tx b sz lim m tk) : ∀ l L, ∃ y, plI tk l m L = .inl y := by
  intro l L
  have e := x.end.1
  refine ⟨(1, m), ?_⟩
  unfold plI
  rw [if_neg (fun z => by rw [e] at z; exact absurd z.1.1 (by decide))]
  have p : pW tk (cw 27) m = .inl (1, m) := by
    unfold pW
    rw [if_neg (fun z => by rw [e] at z; exact absurd z.1 (by decide))]
  have q : pHr tk m = .inl (1, m) := by
    unfold pHr
    exact bnd_l p
  exact bnd_l q
/-! the class -/
def IvL (h : PH) (c n : Nat) (L : Nat → Int32) : Prop := qR h c 0 = some (c + 1) ∧ qL h (c + 1) = 70 ∧ qI h c 2 = nI n ∧ ∀ j, j < 70 → qI h (c + 1) j = L j
theorem IvL.fg {S : List Nat} {F : List (Nat × Nat)} {h h1 : PH} {c n : Nat} {L : Nat → Int32} (v : IvL h c n L) (f : Fg S F h h1) (hc : c = 64 ∨ c = 67) (g : fag S F [65, 68] [(64, 0), (64, 2), (67, 0), (67, 2)] = true) : IvL h1 c n L := by
  have a := f.ag g
  obtain ⟨v1, v2, v3, v4⟩ := v
  rcases hc with z | z <;> subst z
  · exact ⟨by rw [a.r rfl]; exact v1, by rw [f.L]; exact v2, by rw [a.i rfl]; exact v3, fun j hj => by rw [a.I rfl]; exact v4 j hj⟩
  · exact ⟨by rw [a.r rfl]; exact v1, by rw [f.L]; exact v2, by rw [a.i rfl]; exact v3, fun j hj => by rw [a.I rfl]; exact v4 j hj⟩
def ivF : List (Nat × Nat) := [(64, 2), (67, 2), (3, 4), (3, 6)]
theorem clinI {h : PH} {b : Nat → Nat} {sz lim m i c n : Nat} {tk : Nat → TK} {L : Nat → Int32} {Q : Int32 → PH → Prop} (hc : c = 64 ∨ c = 67) (x : Tx b sz lim m tk) (t : TC h m tk i) (v : IvL h c n L) (hn : n ≤ 1000)
    (q1 : ∀ h1 i' L', plI tk n i L = .inr (i', L') → i < i' → Fg [65, 68] [(64, 2), (67, 2), (3, 4)] h h1 → TC h1 m tk i' → IvL h1 c (n + 1) L' → (∀ j, qI h1 (132 - c) j = qI h (132 - c) j) → Q 1 h1)
    (q0 : ∀ h1 f j, plI tk n i L = .inl (f, j) → Fg [65, 68] ivF h h1 → TC h1 m tk j → qI h1 3 6 = nI f → (∀ j, qI h1 (132 - c) j = qI h (132 - c) j) → Q 0 h1) : wp_X3_readLine c 3 h Q := by
  have oth : ∀ {h1 h2 : PH} {F : List (Nat × Nat)}, Fg [] F h1 h2 → fag [] F [65, 68] [] = true → ∀ j, qI h2 (132 - c) j = qI h1 (132 - c) j := fun f g j => by
    rcases hc with z | z <;> (subst z; exact (f.ag g).I rfl j)
  -- behind the first test
  have main : ¬ ((kdT (tk i) = 1 ∧ ctT (tk i) = cw 27) ∧ 20 ≤ n) → wp_X3_readLine_25 c 3 h Q := by
    intro nt
    have pl : plI tk n i L = bnd (pHr tk i) fun i d => .inr (i, upL L d) := if_neg nt
    have fl : ∀ {h1 : PH} {f j : Nat}, pHr tk i = .inl (f, j) → Fg [] tF h h1 → TC h1 m tk j → qI h1 3 6 = nI f → Q 0 h1 := fun e f1 t1 e1 => q0 _ _ _ (by rw [pl]; exact bnd_l e) (f1.mono rfl) t1 e1 (oth f1 rfl)
    refine tW_ok x t (k := 27) (by decide) (fun h1 e1 f1 t1 => ⟨fun _ => ?_, fun z => absurd z (by decide)⟩) (fun h1 e1 f1 t1 w1 => ⟨fun z => absurd rfl z, fun _ => fl (bnd_l e1) f1 t1 w1⟩)
    refine tN_ok x t1 (lo := 0) (hi := 9) (by decide) (by decide) (fun h2 s e2 s0 s9 _ f2 t2 => ⟨fun z => absurd z (nI_m1 (by omega)), fun _ => ?_⟩) (fun h2 f e2 f2 t2 w2 => ⟨fun _ => fl ((bnd_r e1).trans (bnd_l e2)) (f1.tr f2 rfl rfl) t2 w2, fun z => absurd rfl z⟩)
    replace f2 : Fg [] [(3, 4)] h h2 := f1.tr f2 rfl rfl
    refine tW_ok x t2 (k := 28) (by decide) (fun h3 e3 f3 t3 => ⟨fun _ => ?_, fun z => absurd z (by decide)⟩) (fun h3 e3 f3 t3 w3 => ⟨fun z => absurd rfl z, fun _ => fl ((bnd_r e1).trans ((bnd_r e2).trans (bnd_l e3))) (f2.tr f3 rfl rfl) t3 w3⟩)
    replace f3 : Fg [] [(3, 4)] h h3 := f2.tr f3 rfl rfl
    have bad : sayC (ctT (tk (i + 1 + 1 + 1))) = none ∨ ¬ kdT (tk (i + 1 + 1 + 1)) = 1 → wp_X7_fail 3 1 h3 (fun r22 h21 => ((r22 = 0 ∨ r22 = 1) ∧ Q r22 h21)) := fun z => failC_ok (f := 1) t3 (fun h4 f4 t4 w4 => ⟨Or.inl rfl, fl ((bnd_r e1).trans ((bnd_r e2).trans ((bnd_r e3).trans (bnd_l ?_)))) (f3.tr f4 rfl rfl) t4 w4⟩)
    · refine known_ok x t3 (fun k hk k1 kc => ⟨fun z => (by cases z), fun b20 e20 => ?_⟩) (fun z => ⟨fun _ => bad ?_, fun b20 e20 => (by cases e20)⟩)
      · have e20 : b20 = wd k := (Option.some.inj e20).symm
        refine ⟨k, hk, e20, fun y => ?_, fun y => bad (Or.inl ?_)⟩
        · rcases say_c k hk with u | ⟨sy, sy7, su, sw⟩
          · exact absurd u.2 y
          have es : pSay tk (i + 1 + 1 + 1) = .inr (i + 1 + 1 + 1 + 1, sy) := by
            unfold pSay
            rw [if_pos k1, kc, su]
          refine passC_ok x t3 (x.lt t3.2.2.2 (by rw [k1]; decide)) (fun h4 f4 t4 => ?_)
          replace f4 : Fg [] [(3, 4)] h h4 := f3.tr f4 rfl rfl
          refine tW_ok x t4 (k := 29) (by decide) (fun h5 e5 f5 t5 => ⟨fun z => absurd z (by decide), fun _ => ?_⟩) (fun h5 e5 f5 t5 w5 => ⟨fun _ => ⟨fun _ => fl ((bnd_r e1).trans ((bnd_r e2).trans ((bnd_r e3).trans ((bnd_r es).trans (bnd_l e5))))) (f4.tr f5 rfl rfl) t5 w5, fun z => absurd rfl z⟩, fun z => absurd rfl z⟩)
          replace f5 : Fg [] [(3, 4)] h h5 := f4.tr f5 rfl rfl
          refine tN_ok x t5 (lo := 0) (hi := 9) (by decide) (by decide) (fun h6 nx e6 n0 n9 _ f6 t6 => ⟨fun z => absurd z (nI_m1 (by omega)), fun _ => ?_⟩) (fun h6 f e6 f6 t6 w6 => ⟨fun _ => fl ((bnd_r e1).trans ((bnd_r e2).trans ((bnd_r e3).trans ((bnd_r es).trans ((bnd_r e5).trans (bnd_l e6)))))) (f5.tr f6 rfl rfl) t6 w6, fun z => absurd rfl z⟩)
          replace f6 : Fg [] [(3, 4)] h h6 := f5.tr f6 rfl rfl
          refine tS_ok x t6 (c := 59) (by decide) (fun h7 e7' f7 t7 => ⟨fun _ => ?_, fun z => absurd z (by decide)⟩) (fun h7 e7' f7 t7 w7 => ⟨fun z => absurd rfl z, fun _ => fl ((bnd_r e1).trans ((bnd_r e2).trans ((bnd_r e3).trans ((bnd_r es).trans ((bnd_r e5).trans ((bnd_r e6).trans (bnd_l e7'))))))) (f6.tr f7 rfl rfl) t7 w7⟩)
          replace f7 : Fg [] [(3, 4)] h h7 := f6.tr f7 rfl rfl
          have full : plI tk n i L = .inr (i + 1 + 1 + 1 + 1 + 1 + 1 + 1, upL L (s, sy, nx)) := by
            rw [pl]
            exact bnd_r ((bnd_r e1).trans ((bnd_r e2).trans ((bnd_r e3).trans ((bnd_r es).trans ((bnd_r e5).trans ((bnd_r e6).trans (bnd_r e7')))))))
          have v7 := v.fg f7 hc rfl
          have ix : 7 * s + sy < 70 := by omega
          refine ⟨k, hk, e20, fun v43 e43 => ?_⟩
          rw [sw, x7] at e43
          subst e43
          have vin : vp_in (nI (7 * s + sy)) (qL h7 (c + 1)) := by rw [v7.2.1]; exact vp_in_nI ix (by decide)
          have lv : qI h7 (c + 1) (nI (7 * s + sy)).toNatClampNeg = L (7 * s + sy) := by rw [nI_clamp (by omega)]; exact v7.2.2.2 _ ix
          have fin : ∀ (h8 : PH) (w : Int32), Fg [c + 1] [] h7 h8 → (∀ j, j < 70 → qI h8 (c + 1) j = upL L (s, sy, nx) j) → ∀ h9, h9 = qsI h8 c 2 (qI h8 c 2 + 1) → Q 1 h9 := by
            intro h8 w f8 l8 h9 e9
            have c2 : qI h8 c 2 = nI n := by rw [(f8.ne (by simp) 2).1]; exact v7.2.2.1
            rw [c2, nI_1] at e9
            have fA : Fg [65, 68] [(64, 2), (67, 2), (3, 4)] h h9 := by
              rw [e9]
              rcases hc with z | z <;> (subst z; exact (f7.tr f8 (U := [65, 68]) (V := [(64, 2), (67, 2), (3, 4)]) rfl rfl).tr (Fg.sI _ _ _ _) rfl rfl)
            have f79 : Fg [65, 68] [(64, 2), (67, 2)] h7 h9 := by
              rw [e9]
              rcases hc with z | z <;> (subst z; exact f8.tr (Fg.sI _ _ _ _) rfl rfl)
            refine q1 h9 _ _ full (by omega) fA (t7.ag (f79.ag rfl)) ⟨?_, ?_, ?_, fun j hj => ?_⟩ (fun j => by rw [e9, rI_ne _ _ _ (by omega), (f8.ne (by simp; omega) j).1]; exact oth f7 rfl j)
            · rw [e9]
              show qR h8 c 0 = _
              rw [(f8.ne (by simp) 0).2.2]; exact v7.1
            · rw [e9]
              show qL h8 (c + 1) = 70
              rw [f8.L]; exact v7.2.1
            · rw [e9, rI_sI, if_pos rfl, up_eq]
            · rw [e9, rI_ne _ _ _ (by omega)]; exact l8 j hj
          refine ⟨c + 1, v7.1, vin, ?_⟩
          rw [lv]
          refine ⟨fun z h9 e9 => fin h7 0 (Fg.rf _ _ _) (fun j hj => ?_) h9 e9, fun z => ⟨c + 1, v7.1, vin, fun h8 e8 h9 e9 => fin h8 0 (by rw [e8]; exact Fg.cI _ _ _ _) (fun j hj => ?_) h9 e9⟩⟩
          · unfold upL
            rw [if_neg (fun u => z (by rw [← u.1]; exact u.2))]
            exact v7.2.2.2 j hj
          · unfold upL
            rw [e8, nI_clamp (by omega), rI_sI, if_pos rfl, up_at]
            by_cases u : j = 7 * s + sy
            · rw [if_pos u, if_pos ⟨u, by rw [u]; exact z⟩]
            · rw [if_neg u, if_neg (fun u2 => u u2.1)]
              exact v7.2.2.2 j hj
        · rcases say_c k hk with u | ⟨sy, sy7, su, sw⟩
          · rw [kc]; exact u.1
          · rw [sw] at y; exact absurd y (nI_m1 (by omega))
      · by_cases k1 : kdT (tk (i + 1 + 1 + 1)) = 1
        · exact Or.inl (say_n (fun k hk e => z ⟨k1, k, hk, e⟩))
        · exact Or.inr k1
    · unfold pSay
      rcases z with z | z
      · split
        · rw [z]
        · rfl
      · rw [if_neg z]
  refine isWord_ok x t (k := 27) (by decide) (fun z => ⟨fun y => absurd y (by decide), fun _ => pk_lt n 20 (fun y => main (by omega)) (fun y => failC_ok (f := 4) t (fun h1 f1 t1 w1 => ⟨Or.inl rfl, q0 h1 4 i (if_pos ⟨z, y⟩) (f1.mono rfl) t1 w1 (oth f1 rfl)⟩)) v.2.2.1⟩) (fun z => ⟨fun _ => main (fun y => z y.1), fun y => absurd rfl y⟩)
theorem cInv_ok {h : PH} {b : Nat → Nat} {sz lim m c : Nat} {tk : Nat → TK} {Q : Int32 → PH → Prop} (hc : c = 64 ∨ c = 67) (x : Tx b sz lim m tk) (hm : m ≤ 600) (t : TC h m tk 0) (tl : qI h 3 5 = if lim < sz then 1 else 0) (z6 : qI h 3 6 = 0) (r0 : qR h c 0 = some (c + 1)) (l70 : qL h (c + 1) = 70)
    (q1 : ∀ h1 l L, IO (plI tk) 0 (fun _ => -1) m (lim < sz) (.inr (l, L)) → l ≤ 600 → Fg [65, 68] ivF h h1 → IvL h1 c l L → qI h1 3 6 = 0 → (∀ j, qI h1 (132 - c) j = qI h (132 - c) j) → Q 1 h1)
    (q0 : ∀ h1 f j, IO (plI tk) 0 (fun _ => -1) m (lim < sz) (.inl (f, j)) → j ≤ m → Fg [65, 68] ivF h h1 → TC h1 m tk j → qI h1 3 6 = nI f → (∀ j, qI h1 (132 - c) j = qI h (132 - c) j) → Q 0 h1) : wp_X3_readFrom c 3 h Q := by
  intro h1 e1
  have f1 : Fg [65, 68] [(64, 2), (67, 2)] h h1 := by
    rw [e1]
    rcases hc with z | z <;> (subst z; exact (Fg.sI _ _ _ _).mono rfl)
  have c2 : qI h1 c 2 = nI 0 := by rw [e1, rI_sI, if_pos rfl, up_eq]; rfl
  have r1 : qR h1 c 0 = some (c + 1) := by rw [e1]; exact r0
  have l1 : qL h1 (c + 1) = 70 := by rw [e1]; exact l70
  refine loopR 70 (fun k s => s.1 = nI k ∧ Fg [c + 1] [] h1 s.2 ∧ ∀ j, j < k → qI s.2 (c + 1) j = -1) (fun s => s.1.toNatClampNeg) ⟨rfl, Fg.rf _ _ _, fun j hj => absurd hj (Nat.not_lt_zero j)⟩ (fun k s hk p => by rw [p.1]; exact nI_clamp (by omega)) ?_ ?_
  · rintro k ⟨k', g⟩ hk ⟨s1, s2, s3⟩ back hb
    dsimp only at s1 s2 s3
    subst s1
    have rg : qR g c 0 = some (c + 1) := by rw [(s2.ne (by simp) 0).2.2]; exact r1
    have lg : qL g (c + 1) = 70 := by rw [s2.L]; exact l1
    refine ⟨c + 1, rg, ?_⟩
    rw [lg]
    refine pk_le 70 k (fun z => by omega) (fun _ => ⟨c + 1, rg, by rw [lg]; exact vp_in_nI hk (by decide), fun g2 e2 w ew => hb _ ⟨by rw [ew]; exact nI_1 k, by rw [e2]; exact s2.push _ _, fun j hj => ?_⟩⟩)
    show qI g2 (c + 1) j = _
    dsimp only at e2
    rw [e2, nI_clamp (by omega), rI_sI, if_pos rfl, up_at]
    by_cases z : j = k
    · rw [if_pos z]
    · rw [if_neg z]; exact s3 j (by omega)
  · rintro ⟨k', g⟩ ⟨s1, s2, s3⟩ back
    dsimp only at s1 s2 s3
    subst s1
    have rg : qR g c 0 = some (c + 1) := by rw [(s2.ne (by simp) 0).2.2]; exact r1
    have lg : qL g (c + 1) = 70 := by rw [s2.L]; exact l1
    have fg : Fg [65, 68] [(64, 2), (67, 2)] h g := by rcases hc with z | z <;> (subst z; exact f1.tr s2 rfl rfl)
    have og : ∀ j, qI g (132 - c) j = qI h (132 - c) j := fun j => by rw [(s2.ne (by simp; omega) j).1, e1, rI_ne _ _ _ (by omega)]
    have vg : IvL g c 0 (fun _ => -1) := ⟨rg, lg, by rw [(s2.ne (by simp) 2).1]; exact c2, s3⟩
    refine ⟨c + 1, rg, fun _ => ?_, fun z => absurd (by rw [lg]; exact nI_le (Nat.le_refl 70) (by decide)) z⟩
    -- line by line
    refine ⟨fun s => ∃ l i L, s.1 = nI l ∧ itr (plI tk) 0 (fun _ => -1) l = .inr (i, L) ∧ l ≤ i ∧ Fg [65, 68] [(64, 2), (67, 2), (3, 4)] h s.2 ∧ TC s.2 m tk i ∧ IvL s.2 c l L ∧ ∀ j, qI s.2 (132 - c) j = qI h (132 - c) j, fun s => 640 - s.1.toNatClampNeg, ⟨0, 0, _, rfl, rfl, Nat.le_refl 0, fg.mono rfl, t.ag (fg.ag rfl), vg, og⟩, ?_⟩
    rintro ⟨l', g1⟩ ⟨l, i, L, u1, u2, u3, u4, u5, u6, u7⟩
    dsimp only at u1 u4 u5 u6 u7
    have oE : ∀ {h2 : PH}, Fg [] tF g1 h2 → ∀ j, qI h2 (132 - c) j = qI h (132 - c) j := fun f j => by
      rw [← u7 j]
      rcases hc with z | z <;> (subst z; exact (f.ag (C := [65, 68]) (G := []) rfl).I rfl j)
    subst u1
    have im := u5.2.2.2
    have tl1 : qI g1 3 5 = if lim < sz then 1 else 0 := by rw [u4.I rfl]; exact tl
    have z61 : qI g1 3 6 = 0 := by rw [u4.I rfl]; exact z6
    refine pk_le 640 l (fun z => by omega) (fun _ => isEndC_ok x u5 (fun em => ⟨fun _ => tE_ok x u5 tl1 (fun _ nt => ⟨Or.inr rfl, q1 g1 l L ?_ (by omega) (u4.mono rfl) u6 z61 u7⟩) (fun h2 no f2 t2 w2 => ⟨Or.inl rfl, q0 h2 1 i ?_ im (u4.tr f2 rfl rfl) t2 w2 (oE f2)⟩), fun z => absurd z (by decide)⟩) (fun lm => ⟨fun z => absurd rfl z, fun _ => clinI hc x u5 u6 (by omega) (fun g2 i2 L2 p2 ii f2 t2 v2 o2 => ⟨fun _ w ew => ⟨⟨l + 1, i2, L2, by rw [ew]; exact nI_1 l, (itr_s u2).trans p2, by omega, u4.tr f2 rfl rfl, t2, v2, fun j => by rw [o2]; exact u7 j⟩, ?_⟩, fun z => absurd z (by decide)⟩) (fun g2 f j p2 f2 t2 w2 o2 => ⟨fun z => absurd rfl z, fun _ => q0 g2 f j ⟨l, Or.inr ⟨i, L, (f, j), u2, lm, p2, rfl⟩⟩ t2.2.2.2 (u4.tr f2 rfl rfl) t2 w2 (fun j => by rw [o2]; exact u7 j)⟩)⟩))
    · subst em
      exact ⟨l, Or.inl ⟨L, u2, Or.inr ⟨nt, rfl⟩⟩⟩
    · subst em
      exact ⟨l, Or.inl ⟨L, u2, Or.inl ⟨Classical.byContradiction (fun y => no ⟨rfl, y⟩), rfl⟩⟩⟩
    · show 640 - w.toNatClampNeg < 640 - (nI l).toNatClampNeg
      rw [ew, nI_1, nI_clamp (by omega), nI_clamp (by omega)]; omega
/-! the model -/
theorem msay_ok {h : PH} {b : Nat → Nat} {sz lim m i : Nat} {tk : Nat → TK} {Q : Int32 → PH → Prop} (x : Tx b sz lim m tk) (s : MS h b sz lim m tk i) (q1 : ∀ y, kdT (tk i) = 1 → sayC (ctT (tk i)) = some y → Q (nI y) h) (q0 : (¬ kdT (tk i) = 1 ∨ sayC (ctT (tk i)) = none) → Q (-1) h) : wp_X12_sayingAtHand 70 h Q := by
  have one : ∀ y, kdT (tk i) = 1 → sayC (ctT (tk i)) = some y → ∀ z : Int32, z = nI y → Q z h := fun y a c z e => by rw [e]; exact q1 y a c
  refine sp_count (isKw_ok x s (by decide) (fun z => ⟨fun y => absurd y (by decide), fun _ => one 0 z.1 (by unfold sayC; rw [if_pos z.2]) _ rfl⟩) (fun n0 => ⟨fun _ => ?_, fun y => absurd rfl y⟩))
  refine isTurn_ok x s (fun z => ⟨fun y => absurd y (by decide), fun _ => one 1 z.1 (by unfold sayC; rw [if_neg (fun y => n0 ⟨z.1, y⟩), if_pos z.2]) _ rfl⟩) (fun n1 => ⟨fun _ => ?_, fun y => absurd rfl y⟩)
  refine sp_door (isKw_ok x s (by decide) (fun z => ⟨fun y => absurd y (by decide), fun _ => one 2 z.1 (by unfold sayC; rw [if_neg (fun y => n0 ⟨z.1, y⟩), if_neg (fun y => n1 ⟨z.1, y⟩), if_pos z.2]) _ rfl⟩) (fun n2 => ⟨fun _ => ?_, fun y => absurd rfl y⟩))
  refine sp_model (isKw_ok x s (by decide) (fun z => ⟨fun y => absurd y (by decide), fun _ => one 3 z.1 (by unfold sayC; rw [if_neg (fun y => n0 ⟨z.1, y⟩), if_neg (fun y => n1 ⟨z.1, y⟩), if_neg (fun y => n2 ⟨z.1, y⟩), if_pos z.2]) _ rfl⟩) (fun n3 => ⟨fun _ => ?_, fun y => absurd rfl y⟩))
  refine isRub_ok x s (fun z => ⟨fun y => absurd y (by decide), fun _ => one 4 z.1 (by unfold sayC; rw [if_neg (fun y => n0 ⟨z.1, y⟩), if_neg (fun y => n1 ⟨z.1, y⟩), if_neg (fun y => n2 ⟨z.1, y⟩), if_neg (fun y => n3 ⟨z.1, y⟩), if_pos z.2]) _ rfl⟩) (fun n4 => ⟨fun _ => ?_, fun y => absurd rfl y⟩)
  refine sp_fed (isKw_ok x s (by decide) (fun z => ⟨fun y => absurd y (by decide), fun _ => one 5 z.1 (by unfold sayC; rw [if_neg (fun y => n0 ⟨z.1, y⟩), if_neg (fun y => n1 ⟨z.1, y⟩), if_neg (fun y => n2 ⟨z.1, y⟩), if_neg (fun y => n3 ⟨z.1, y⟩), if_neg (fun y => n4 ⟨z.1, y⟩), if_pos z.2]) _ rfl⟩) (fun n5 => ⟨fun _ => ?_, fun y => absurd rfl y⟩))
  refine sp_law (isKw_ok x s (by decide) (fun z => ⟨fun y => absurd y (by decide), fun _ => one 6 z.1 (by unfold sayC; rw [if_neg (fun y => n0 ⟨z.1, y⟩), if_neg (fun y => n1 ⟨z.1, y⟩), if_neg (fun y => n2 ⟨z.1, y⟩), if_neg (fun y => n3 ⟨z.1, y⟩), if_neg (fun y => n4 ⟨z.1, y⟩), if_neg (fun y => n5 ⟨z.1, y⟩), if_pos z.2]) _ rfl⟩) (fun n6 => ⟨fun _ => q0 ?_, fun y => absurd rfl y⟩))
  by_cases k1 : kdT (tk i) = 1
  · right
    unfold sayC
    rw [if_neg (fun y => n0 ⟨k1, y⟩), if_neg (fun y => n1 ⟨k1, y⟩), if_neg (fun y => n2 ⟨k1, y⟩), if_neg (fun y => n3 ⟨k1, y⟩), if_neg (fun y => n4 ⟨k1, y⟩), if_neg (fun y => n5 ⟨k1, y⟩), if_neg (fun y => n6 ⟨k1, y⟩)]
  · exact Or.inl k1
def ML (h : PH) (L : Nat → Int32) : Prop := ∀ j, j < 70 → qI h 89 (70 + j) = L j
theorem mlinI {h : PH} {b : Nat → Nat} {sz lim m i l : Nat} {tk : Nat → TK} {L : Nat → Int32} {Q : Int32 → PH → Prop} (sh : Shp h) (x : Tx b sz lim m tk) (s : MS h b sz lim m tk i) (hl : l ≤ 20) (v : ML h L)
    (q1 : ∀ h1 i' L', plI tk l i L = .inr (i', L') → l < 20 → Fg [89] gF h h1 → MS h1 b sz lim m tk i' → ML h1 L' → (∀ j, j < 70 → qI h1 89 j = qI h 89 j) → Q 1 h1)
    (q0 : ∀ h1 f j, plI tk l i L = .inl (f, j) → Fg [89] mF h h1 → qI h1 70 10 = nI f → qI h1 70 11 = nI (stT (tk j)) → (∀ j, j < 70 → qI h1 89 j = qI h 89 j) → Q 0 h1) : wp_X12_readHearing 70 (nI l) h Q := by
  have fl0 : ∀ {h1 : PH} {f j : Nat}, plI tk l i L = .inl (f, j) → flM h h1 tk f j → Q 0 h1 := fun e c => q0 _ _ _ e (c.1.mono rfl) c.2.1 c.2.2 (fun j hj => (c.1.ag (C := [89]) (G := []) rfl).I rfl j)
  refine sp_in (isKw_ok x s (by decide) (fun zi => ⟨fun _ => ?_, fun y => absurd y (by decide)⟩) (fun zi => ⟨fun y => absurd rfl y, fun _ => bad_ok (f := 1) x s (Or.inl rfl) (fun h1 f1 w1 w2 => ⟨Or.inl rfl, fl0 ?_ ⟨f1.mono rfl, w1, w2⟩⟩)⟩))
  · have lt := x.lt s.2.2 (show ¬ kdT (tk i) = 0 by rw [zi.1]; decide)
    refine n_eq l 20 (fun nl => ?_) (fun nl => bad_ok (f := 4) x s (Or.inr ⟨lt, by rw [zi.1]; decide⟩) (fun h1 f1 w1 w2 => ⟨Or.inl rfl, fl0 (if_pos ⟨zi, by omega⟩) ⟨f1.mono rfl, w1, w2⟩⟩))
    have pl : plI tk l i L = bnd (pHr tk i) fun i d => .inr (i, upL L d) := if_neg (by omega)
    have e1 : pW tk (cw 27) i = .inr (i + 1, ()) := if_pos zi
    have fl : ∀ {h1 : PH} {f j : Nat}, pHr tk i = .inl (f, j) → flM h h1 tk f j → Q 0 h1 := fun e c => fl0 (by rw [pl]; exact bnd_l e) c
    refine goM_ok x s lt (fun h1 f1 s1 => ?_)
    have o1 : okM h h1 b sz lim m tk (i + 1) := ⟨f1.mono rfl, s1⟩
    refine rN_ok x s1 (lo := 0) (hi := 9) (by decide) (by decide) (fun h2 sv e2 s0 s9 o2 v2 => ⟨fun _ v12 e12 => ?_, fun z => absurd z (by decide)⟩) (fun h2 f e2 c2 => ⟨fun z => absurd rfl z, fun _ => fl ((bnd_r e1).trans (bnd_l e2)) (o1.fl c2)⟩)
    rw [v2] at e12
    subst e12
    replace o2 := o1.tr o2
    refine sp_hears (rK_ok x o2.2 (cw_c 28 (by decide)).2 (fun h3 e3 o3 => ⟨fun _ => ?_, fun z => absurd z (by decide)⟩) (fun h3 e3 c3 => ⟨fun z => absurd rfl z, fun _ => fl ((bnd_r e1).trans ((bnd_r e2).trans (bnd_l e3))) (o2.fl c3)⟩))
    replace o3 := o2.tr o3
    refine msay_ok x o3.2 (fun sy k1 es' => ?_) (fun z => ⟨fun y => absurd rfl y, fun _ => bad_ok (f := 1) x o3.2 (Or.inl rfl) (fun h4 f4 w1 w2 => ⟨Or.inl rfl, fl ((bnd_r e1).trans ((bnd_r e2).trans ((bnd_r e3).trans (bnd_l ?_)))) (o3.fl ⟨f4.mono rfl, w1, w2⟩)⟩)⟩)
    · have sy7 : sy < 7 := by
        by_cases kn : ∃ k, k < 34 ∧ ctT (tk (i + 1 + 1 + 1)) = cw k
        · obtain ⟨k, hk, ek⟩ := kn
          rw [ek] at es'
          rcases say_c k hk with u | ⟨y, y7, u, _⟩
          · rw [u.1] at es'; cases es'
          · rw [u] at es'; cases es'; exact y7
        · rw [say_n (fun k hk e => kn ⟨k, hk, e⟩)] at es'; cases es'
      have es : pSay tk (i + 1 + 1 + 1) = .inr (i + 1 + 1 + 1 + 1, sy) := by
        unfold pSay
        rw [if_pos k1, es']
      refine ⟨fun _ => goM_ok x o3.2 (x.lt o3.2.2.2 (by rw [k1]; decide)) (fun h4 f4 s4 => ?_), fun z => absurd z (nI_m1 (by omega))⟩
      have o4 := o3.tr (⟨f4.mono rfl, s4⟩ : okM h3 h4 b sz lim m tk (i + 1 + 1 + 1 + 1))
      refine sp_goes (rK_ok x o4.2 (cw_c 29 (by decide)).2 (fun h5 e5 o5 => ⟨fun z => absurd z (by decide), fun _ => ?_⟩) (fun h5 e5 c5 => ⟨fun _ => fl ((bnd_r e1).trans ((bnd_r e2).trans ((bnd_r e3).trans ((bnd_r es).trans (bnd_l e5))))) (o4.fl c5), fun z => absurd rfl z⟩))
      replace o5 := o4.tr o5
      refine rN_ok x o5.2 (lo := 0) (hi := 9) (by decide) (by decide) (fun h6 nx e6 n0 n9 o6 v6 => ⟨fun _ => ?_, fun z => absurd z (by decide)⟩) (fun h6 f e6 c6 => ⟨fun z => absurd rfl z, fun _ => fl ((bnd_r e1).trans ((bnd_r e2).trans ((bnd_r e3).trans ((bnd_r es).trans ((bnd_r e5).trans (bnd_l e6)))))) (o5.fl c6)⟩)
      replace o6 := o5.tr o6
      have r57 : qR h6 70 57 = some 89 := by rw [o6.1.R rfl]; exact sh.R 70 57 89 (by decide)
      have l89 : qL h6 89 = 140 := by rw [o6.1.L]; exact sh.L 89 (by decide) rfl
      have c89 : ∀ j, qI h6 89 j = qI h 89 j := fun j => (o6.1.ag (C := [89]) (G := []) rfl).I rfl j
      have ix : (70 : Int32) + 7 * nI sv + nI sy = nI (70 + (7 * sv + sy)) := by
        rw [show (70 : Int32) = nI 70 from rfl, show (7 : Int32) = nI 7 from rfl, pk_mul, nI_add, nI_add, Nat.add_assoc]
      have vin : vp_in (nI (70 + (7 * sv + sy))) (qL h6 89) := by rw [l89]; exact vp_in_nI (by omega) (by decide)
      refine ⟨89, r57, ?_⟩
      rw [ix, nI_clamp (by omega), c89, v _ (by omega), v6]
      have fin : ∀ h7, Fg [89] [] h6 h7 → ML h7 (upL L (sv, sy, nx)) → (∀ j, j < 70 → qI h7 89 j = qI h 89 j) → wp_X12_readEnd 70 h7 (fun r36 h35 => ((r36 = 0 ∨ r36 = 1) ∧ Q r36 h35)) := by
        intro h7 f7 m7 k7
        have s7 := o6.2.ag (f7.ag rfl)
        have full : pS tk 59 (i + 1 + 1 + 1 + 1 + 1 + 1) = .inr (i + 1 + 1 + 1 + 1 + 1 + 1 + 1, ()) → plI tk l i L = .inr (i + 1 + 1 + 1 + 1 + 1 + 1 + 1, upL L (sv, sy, nx)) := fun e8 => by
          rw [pl]
          exact bnd_r ((bnd_r e1).trans ((bnd_r e2).trans ((bnd_r e3).trans ((bnd_r es).trans ((bnd_r e5).trans ((bnd_r e6).trans (bnd_r e8)))))))
        refine rE_ok x s7 (fun h8 e8 o8 => ⟨Or.inr rfl, q1 h8 _ _ (full e8) (by omega) ((o6.1.tr f7 (U := [89]) (V := gF) rfl rfl).tr o8.1 rfl rfl) o8.2 (fun j hj => by rw [(o8.1.ag (C := [89]) (G := []) rfl).I rfl]; exact m7 j hj) (fun j hj => by rw [(o8.1.ag (C := [89]) (G := []) rfl).I rfl]; exact k7 j hj)⟩) (fun h8 e8 c8 => ⟨Or.inl rfl, q0 h8 _ _ ?_ ((o6.1.tr f7 (U := [89]) (V := mF) rfl rfl).tr c8.1 rfl rfl) c8.2.1 c8.2.2 (fun j hj => by rw [(c8.1.ag (C := [89]) (G := []) rfl).I rfl]; exact k7 j hj)⟩)
        · rw [pl]
          exact bnd_l ((bnd_r e1).trans ((bnd_r e2).trans ((bnd_r e3).trans ((bnd_r es).trans ((bnd_r e5).trans ((bnd_r e6).trans (bnd_l e8)))))))
      refine ⟨vin, fun z => fin h6 (Fg.rf _ _ _) (fun j hj => ?_) (fun j hj => c89 j), fun z => ⟨89, r57, vin, fun h7 e7 => fin h7 (by rw [e7]; exact Fg.cI _ _ _ _) (fun j hj => ?_) (fun j hj => ?_)⟩⟩
      · unfold upL
        rw [c89, v j hj, if_neg (fun u => z (by rw [← u.1]; exact u.2))]
      · unfold upL
        rw [e7, rI_sI, if_pos rfl, up_at, c89, v j hj]
        by_cases u : j = 7 * sv + sy
        · rw [if_pos (by omega), if_pos ⟨u, by rw [u]; exact z⟩]
        · rw [if_neg (by omega), if_neg (fun u2 => u u2.1)]
      · rw [e7, rI_sI, if_pos rfl, up_ne _ _ (by omega)]; exact c89 j
    · unfold pSay
      rcases z with z | z
      · rw [if_neg z]
      · split
        · rw [z]
        · rfl
  · unfold plI
    rw [if_neg (fun y => zi y.1)]
    exact bnd_l (bnd_l (if_neg zi))
theorem itr_ld {tk : Nat → TK} : ∀ {l i : Nat} {L : Nat → Int32}, itr (plI tk) 0 (fun _ => -1) l = .inr (i, L) → ∀ j, isLd (L j)
  | 0, i, L, e, j => by
    cases e
    exact Or.inl rfl
  | l + 1, i, L, e, j => by
    cases p : itr (plI tk) 0 (fun _ => -1) l with
    | inl y => rw [itr_l p (l + 1) (by omega)] at e; cases e
    | inr y =>
      obtain ⟨i0, L0⟩ := y
      have ih := itr_ld p
      rw [itr_s p] at e
      unfold plI at e
      split at e
      · cases e
      · cases ph : pHr tk i0 with
        | inl y => rw [bnd_l ph] at e; cases e
        | inr y =>
          obtain ⟨i1, s, y, n⟩ := y
          rw [bnd_r ph] at e
          have eL : upL L0 (s, y, n) = L := by
            have := Sum.inr.inj e
            exact (Prod.mk.inj this).2
          have n9 : n < 10 := by
            unfold pHr at ph
            cases a1 : pW tk (cw 27) i0 with
            | inl z => rw [bnd_l a1] at ph; cases ph
            | inr z =>
              rw [bnd_r a1] at ph
              cases a2 : pN tk 0 9 z.1 with
              | inl z => rw [bnd_l a2] at ph; cases ph
              | inr z2 =>
                rw [bnd_r a2] at ph
                cases a3 : pW tk (cw 28) z2.1 with
                | inl z => rw [bnd_l a3] at ph; cases ph
                | inr z3 =>
                  rw [bnd_r a3] at ph
                  cases a4 : pSay tk z3.1 with
                  | inl z => rw [bnd_l a4] at ph; cases ph
                  | inr z4 =>
                    rw [bnd_r a4] at ph
                    cases a5 : pW tk (cw 29) z4.1 with
                    | inl z => rw [bnd_l a5] at ph; cases ph
                    | inr z5 =>
                      rw [bnd_r a5] at ph
                      cases a6 : pN tk 0 9 z5.1 with
                      | inl z => rw [bnd_l a6] at ph; cases ph
                      | inr z6 =>
                        rw [bnd_r a6] at ph
                        cases a7 : pS tk 59 z6.1 with
                        | inl z => rw [bnd_l a7] at ph; cases ph
                        | inr z7 =>
                          rw [bnd_r a7] at ph
                          have en : z6.2 = n := by
                            have h1 := Sum.inr.inj ph
                            have h2 := (Prod.mk.inj h1).2
                            have h3 := (Prod.mk.inj h2).2
                            exact (Prod.mk.inj h3).2
                          unfold pN at a6
                          split at a6
                          · split at a6
                            · rename_i w
                              have h1 := Sum.inr.inj a6
                              rw [← en, ← h1]
                              show ctT (tk z5.1) < 10
                              omega
                            · cases a6
                          · cases a6
          rw [← eL]
          unfold upL
          by_cases u : j = 7 * s + y ∧ L0 j = -1
          · rw [if_pos u]; exact Or.inr ⟨n, n9, rfl⟩
          · rw [if_neg u]; exact ih j
/-! a text is cut; the model begins with it -/
theorem cutT_ok {h : PH} {lim : Nat} {Q : PH → Prop} (i : Inv h) (hl : lim ≤ 600)
    (q : ∀ h1 b sz m tk, Tx b sz lim m tk → m ≤ 600 → Fg [4, 5, 6] [(1, 1), (3, 3), (3, 4), (3, 5), (3, 6)] h h1 → TC h1 m tk 0 → qI h1 3 5 = (if lim < sz then 1 else 0) → qI h1 3 6 = 0 → qI h1 1 1 = 0 → qI h 70 2 = nI sz → (∀ j, j < 640 → qI h 71 j = nI (b j)) → Q h1) : wp_X11_cutTape 0 (nI lim) h Q := by
  have sh := i.1
  obtain ⟨len, t1, t2, t3, t4⟩ := i.2.1
  obtain ⟨b, bt⟩ := BT.ex (h := h) (sh.R 1 0 2 (by decide)) (sh.L 2 (by decide) rfl)
  refine ⟨3, sh.R 0 1 3 (by decide), 1, sh.R 0 0 1 (by decide), cut_ok sh bt t1 (by omega) t2 (fun h1 m tk tp f1 ta a4 a5 a6 => ⟨1, by rw [f1.R rfl]; exact sh.R 0 0 1 (by decide), fun h2 e2 => ?_⟩)⟩
  have f2 : Fg [] [(1, 1)] h1 h2 := by rw [e2]; exact Fg.sI _ _ _ _
  have f12 : Fg [4, 5, 6] [(1, 1), (3, 3), (3, 4), (3, 5), (3, 6)] h h2 := f1.tr f2 rfl rfl
  have s2 := sh.fg f12 rfl
  have x : Tx b len lim m tk := ⟨tp, t1, by omega, fun j hj => (bt.2.2 j hj).2⟩
  have hm : m ≤ 600 := by
    have := tp.2.2.2
    have : min len lim ≤ lim := Nat.min_le_right _ _
    omega
  have tc1 : TC h1 m tk 0 := ⟨⟨by rw [f1.R rfl]; exact sh.R 3 0 4 (by decide), by rw [f1.R rfl]; exact sh.R 3 1 5 (by decide), by rw [f1.R rfl]; exact sh.R 3 2 6 (by decide), by rw [f1.L]; exact sh.L 4 (by decide) rfl, by rw [f1.L]; exact sh.L 5 (by decide) rfl, by rw [f1.L]; exact sh.L 6 (by decide) rfl⟩, ta, a4, Nat.zero_le m⟩
  exact q h2 b len m tk x hm f12 (tc1.ag (f2.ag rfl)) (by rw [f2.I rfl]; exact a5) (by rw [f2.I rfl]; exact a6) (by rw [e2, rI_sI, if_pos rfl, up_eq]) t3 (fun j hj => by rw [t4 j hj]; exact (bt.2.2 j hj).1)
theorem go0_ok {h : PH} {b : Nat → Nat} {sz lim m : Nat} {tk : Nat → TK} {Q : PH → Prop} (x : Tx b sz lim m tk) (mx : MX h b sz lim) (v5 : qI h 70 5 = 0) (q : ∀ h1, Fg [] goF h h1 → MS h1 b sz lim m tk 0 → Q h1) : wp_X12_go 70 h Q :=
  mgo_ok mx x.1 x.2.1 x.2.2.1 (i := 0) (Nat.zero_le m) v5 (fun h1 f1 k1 => q h1 f1 ⟨mx.ag (f1.ag rfl), k1, Nat.zero_le m⟩)
theorem mInv_ok {h : PH} {b : Nat → Nat} {sz lim m : Nat} {tk : Nat → TK} {Q : Int32 → PH → Prop} (sh : Shp h) (x : Tx b sz lim m tk) (s : MS h b sz lim m tk 0) (z10 : qI h 70 10 = 0) (v : ML h (fun _ => -1))
    (q1 : ∀ h1 l L, IO (plI tk) 0 (fun _ => -1) m (lim < sz) (.inr (l, L)) → Fg [89] ((70, 58) :: gF) h h1 → (∀ j, j < 70 → qI h1 89 j = L j) → qI h1 70 58 = 1 → Q (nI l) h1)
    (q0 : ∀ h1 f j, IO (plI tk) 0 (fun _ => -1) m (lim < sz) (.inl (f, j)) → Fg [89] mF h h1 → qI h1 70 10 = nI f → qI h1 70 11 = nI (stT (tk j)) → (∀ j, j < 70 → qI h1 89 j = qI h 89 j) → Q (-1 - nI (stT (tk j))) h1) : qLoop (wp_X12_inventor_42 70 Q) (0, h) := by
  refine ⟨fun st => ∃ l i L, st.1 = nI l ∧ l ≤ 20 ∧ itr (plI tk) 0 (fun _ => -1) l = .inr (i, L) ∧ Fg [89] gF h st.2 ∧ MS st.2 b sz lim m tk i ∧ ML st.2 L ∧ ∀ j, j < 70 → qI st.2 89 j = qI h 89 j, fun st => 30 - st.1.toNatClampNeg, ⟨0, 0, _, rfl, by omega, rfl, Fg.rf _ _ _, s, v, fun _ _ => rfl⟩, ?_⟩
  rintro ⟨l', g⟩ ⟨l, i, L, u1, u2, u3, u4, u5, u6, u7⟩
  dsimp only at u1 u4 u5 u6 u7
  subst u1
  have shg := sh.fg u4 rfl
  obtain ⟨c7, hc7, e7, _, _, _, i0, _⟩ := u5.k x
  refine pk_eq c7 0 (fun z => ?_) (fun z => mlinI shg x u5 u2 u6 (fun g2 i2 L2 p2 l20 f2 s2 v2 k2 => ⟨fun _ w ew => ⟨⟨l + 1, i2, L2, by rw [ew]; exact nI_1 l, by omega, (itr_s u3).trans p2, u4.tr f2 rfl rfl, s2, v2, fun j hj => by rw [k2 j hj]; exact u7 j hj⟩, ?_⟩, fun y => absurd y (by decide)⟩) (fun g2 f j p2 f2 w1 w2 k2 => ⟨fun y => absurd rfl y, fun _ => ?_⟩)) e7
  · obtain ⟨im, nt⟩ := i0.mp z
    subst im
    -- the rows are copied
    refine loopR 70 (fun k st => st.1 = nI k ∧ Fg [89] [] g st.2 ∧ (∀ j, j < k → qI st.2 89 j = L j) ∧ ∀ j, j < 70 → qI st.2 89 (70 + j) = L j) (fun st => st.1.toNatClampNeg) ⟨rfl, Fg.rf _ _ _, fun j hj => absurd hj (Nat.not_lt_zero j), u6⟩ (fun k st hk p => by rw [p.1]; exact nI_clamp (by omega)) ?_ ?_
    · rintro k ⟨k', g1⟩ hk ⟨w1, w2, w3, w4⟩ back hb
      dsimp only at w1 w2 w3 w4
      subst w1
      have r57 : qR g1 70 57 = some 89 := by rw [w2.R rfl]; exact shg.R 70 57 89 (by decide)
      have l89 : qL g1 89 = 140 := by rw [w2.L]; exact shg.L 89 (by decide) rfl
      refine pk_le 70 k (fun z => by omega) (fun _ => ⟨89, r57, 89, r57, ?_⟩)
      dsimp only
      rw [show (70 : Int32) + nI k = nI (70 + k) by rw [show (70 : Int32) = nI 70 from rfl, nI_add], l89]
      refine ⟨vp_in_nI (by omega) (by decide), vp_in_nI (by omega) (by decide), fun g2 e2 w ew => hb _ ?_⟩
      rw [nI_clamp (by omega), nI_clamp (by omega), w4 k hk] at e2
      refine ⟨by rw [ew]; exact nI_1 k, by rw [e2]; exact w2.push _ _, fun j hj => ?_, fun j hj => ?_⟩
      · show qI g2 89 j = _
        rw [e2, rI_sI, if_pos rfl, up_at]
        by_cases y : j = k
        · rw [if_pos y, y]
        · rw [if_neg y]; exact w3 j (by omega)
      · show qI g2 89 (70 + j) = _
        rw [e2, rI_sI, if_pos rfl, up_ne _ _ (by omega)]; exact w4 j hj
    · rintro ⟨k', g1⟩ ⟨w1, w2, w3, w4⟩ back
      dsimp only at w1 w2 w3 w4
      subst w1
      refine pk_le 70 70 (fun _ g2 e2 => q1 g2 l L ⟨l, Or.inl ⟨L, u3, Or.inr ⟨nt, rfl⟩⟩⟩ ?_ (fun j hj => by rw [e2, rI_ne _ _ _ (by decide)]; exact w3 j hj) (by rw [e2, rI_sI, if_pos rfl, up_eq])) (fun z => by omega)
      rw [e2]
      exact (u4.tr w2 (U := [89]) (V := ((70, 58) :: gF)) rfl rfl).tr (Fg.sI _ _ _ _) rfl rfl
  · show 30 - w.toNatClampNeg < 30 - (nI l).toNatClampNeg
    rw [ew, nI_1, nI_clamp (by omega), nI_clamp (by omega)]; omega
  · rw [w2]
    refine q0 g2 f j ?_ (u4.tr f2 rfl rfl) w1 w2 (fun k hk => by rw [k2 k hk]; exact u7 k hk)
    rcases (show i < m ∨ i = m by have := u5.2.2; omega) with y | y
    · exact ⟨l, Or.inr ⟨i, L, (f, j), u3, y, p2, rfl⟩⟩
    · subst y
      have ov : lim < sz := Classical.byContradiction (fun t => z (i0.mpr ⟨rfl, t⟩))
      refine ⟨l, Or.inl ⟨L, u3, Or.inl ⟨ov, ?_⟩⟩⟩
      have e := x.end.1
      have p : plI tk l i L = .inl (1, i) := by
        unfold plI
        rw [if_neg (fun t => by rw [e] at t; exact absurd t.1.1 (by decide))]
        exact bnd_l (bnd_l (if_neg (fun t => by rw [e] at t; exact absurd t.1 (by decide))))
      rw [p] at p2
      exact p2.symm

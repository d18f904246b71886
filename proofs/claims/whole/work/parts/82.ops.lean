/-! ===== PURE: the five calls that may throw, over both sides ===== -/
def Aft (h : PH) (r b : Int32) (h2 : PH) : Prop := wp_X12_thrown 70 h2 (fun x h3 => x = r ∧ (r = 0 → qJ h3 92 0 = b.toInt64) ∧ Inv h3 ∧ Rm h h3)
section
variable {h : PH} {N rb n d e : Nat} {Ds : Nat → PD}
theorem o_set (i : Inv h) (id : IDd h N rb n Ds d e) (v : Int64) : Inv (qsJ h 92 0 v) ∧ IDd (qsJ h 92 0 v) N rb n Ds d e := ⟨i.fg (Fg.sJ _ _ _ _) rfl rfl rfl rfl rfl rfl rfl rfl rfl rfl rfl, id.ag ((Fg.sJ _ _ _ _).ag rfl)⟩
theorem o_new (i : Inv h) (id : IDd h N rb n Ds d e) : Inv (qnew h 12 0 6) ∧ IDd (qnew h 12 0 6) N rb n Ds d e := ⟨i.new _ _ _, id.ag ((SmC.new h 12 0 6).ag i.1.1 rfl)⟩
theorem o_in (i : Inv h) : vp_in 0 (qL h 92) := in0 (i.1.L 92 (by decide) rfl) (by decide) (by decide)
theorem aft_ok {g : PH} {v b : Int32} (ig : Inv g) (f : F3 (qsJ h 92 0 v.toInt64) g) (z : qI g 70 0 = 0) (eb : b = v) : Aft h 0 b g := ⟨z, fun _ => by rw [f.J rfl, qJ_sJ_eq, eb], ig, f.rm⟩
theorem aftx_ok {g : PH} {b : Int32} (ig : Inv g) (f : F3 (qnew h 12 0 6) g) (z : qI g 70 0 = 1) : Aft h 1 b g := by
  have e1 : qn g = qn h + 1 := f.1.1
  have e2 : qz g = qz h + 6 := f.1.2.1
  exact ⟨z, fun y => absurd y (by decide), ig, by omega, by omega, by omega⟩
/-- part k of the drawing -/
theorem o_part (i : Inv h) (id : IDd h N rb n Ds d e) {k : Nat} (hk : k < n) : (k < 12 ∧ N ≤ 48 ∧ okD N (Ds k) ∧ rowE (qI h (d + 2 + k)) (Ds k)) ∧ qR h 0 10 = some d ∧ qR h d 0 = some (d + 1) ∧ vp_in (nI k) (qL h (d + 1)) ∧ qR h (d + 1) (nI k).toNatClampNeg = some (d + 2 + k) ∧ qI h d 2 = nI N := by
  obtain ⟨p1, p2, p3⟩ := prt i.1 id
  have n12 : n ≤ 12 := id.2.2.1.2.2.2.1.1
  refine ⟨⟨by omega, id.2.2.1.1.2.2.2.1, (id.2.2.1.2.2.2.1.2.2 k hk).1, id.2.1.2.2.2 k hk⟩, id.1.1, p1, ?_, ?_, id.2.1.2.1⟩
  · rw [p2]; exact vp_in_nI (by omega) (by decide)
  · rw [nI_clamp (by omega)]; exact p3 k (by omega)
theorem op_place (i : Inv h) (hm : qn h + 1 ≤ 1000000) (p t : Int32) : wp_L_place 0 p t 92 h (fun r h1 => r = 0 ∧ wp_X12_place 70 p t h1 (Aft h r)) ∨ wx_L_place 0 p t 92 h (fun r h1 => r = 1 ∧ wp_X12_place 70 p t h1 (Aft h r)) := by
  obtain ⟨N, rb, n, Ds, d, e, id⟩ := i.2.2.1
  by_cases g : ∃ k j, k < n ∧ p = nI k ∧ j < N ∧ t = nI j
  · left
    obtain ⟨k, j, hk, rfl, hj, rfl⟩ := g
    obtain ⟨⟨k12, N48, okd, row⟩, r1, r2, r3, r4, r5⟩ := o_part i id hk
    unfold wp_L_place wp_X11_place
    refine isPart_ok id (fun _ _ _ => ⟨fun y => absurd y (by decide), fun _ => isPlace_ok id (fun _ _ _ => ⟨fun _ => ⟨d, r1, d + 1, r2, r3, d + 2 + k, r4, d, r1, place_ok ?_⟩, fun y => absurd y (by decide)⟩) (fun no => absurd rfl (no j hj))⟩) (fun no => absurd rfl (no k hk))
    refine ⟨o_in i, fun h1 e1 => ⟨rfl, ?_⟩⟩
    rw [r5, pPlace_e row, place_e okd N48 hj] at e1
    have e2 : h1 = qsJ h 92 0 (nI ((dpin (Ds k) + j) % N)).toInt64 := e1
    subst e2
    obtain ⟨i1, id1⟩ := o_set i id (nI ((dpin (Ds k) + j) % N)).toInt64
    refine m_place i1 id1 (fun g k2 j2 hk2 ek hj2 ej ig f z => ?_) (fun g no => absurd ⟨k, j, hk, rfl, hj, rfl⟩ no)
    have := nI_inj (by omega) (by have := id.2.2.1.2.2.2.1.1; omega) ek
    have := nI_inj (by omega) (by omega) ej
    subst_vars
    exact aft_ok ig f z rfl
  · right
    obtain ⟨i1, id1⟩ := o_new i id
    have fin : qn h + 1 ≤ 1000000 ∧ (1 : Int32) = 1 ∧ wp_X12_place 70 p t (qnew h 12 0 6) (Aft h 1) := ⟨hm, rfl, m_place i1 id1 (fun g2 k j hk ek hj ej => absurd ⟨k, j, hk, ek, hj, ej⟩ g) (fun g2 _ ig f z => aftx_ok ig f z)⟩
    unfold wx_L_place wx_X11_place
    refine isPart_ok id (fun k hk ek => ⟨fun y => absurd y (by decide), fun _ => isPlace_ok id (fun j hj ej => absurd ⟨k, j, hk, ek, hj, ej⟩ g) (fun _ => ⟨fun y => absurd rfl y, fun _ => fin⟩)⟩) (fun _ => ⟨fun _ => fin, fun y => absurd rfl y⟩)
theorem op_energy (i : Inv h) (hm : qn h + 1 ≤ 1000000) (p t : Int32) : wp_L_energy 0 p t 92 h (fun r h1 => r = 0 ∧ wp_X12_energy 70 p t h1 (Aft h r)) ∨ wx_L_energy 0 p t 92 h (fun r h1 => r = 1 ∧ wp_X12_energy 70 p t h1 (Aft h r)) := by
  obtain ⟨N, rb, n, Ds, d, e, id⟩ := i.2.2.1
  by_cases g : ∃ k j, k < n ∧ p = nI k ∧ j < N ∧ t = nI j
  · left
    obtain ⟨k, j, hk, rfl, hj, rfl⟩ := g
    obtain ⟨⟨k12, N48, okd, row⟩, r1, r2, r3, r4, r5⟩ := o_part i id hk
    unfold wp_L_energy wp_X11_energy
    refine isPart_ok id (fun _ _ _ => ⟨fun y => absurd y (by decide), fun _ => isPlace_ok id (fun _ _ _ => ⟨fun _ => ⟨d, r1, d + 1, r2, r3, d + 2 + k, r4, d, r1, energy_ok ?_⟩, fun y => absurd y (by decide)⟩) (fun no => absurd rfl (no j hj))⟩) (fun no => absurd rfl (no k hk))
    refine ⟨o_in i, fun h1 e1 => ⟨rfl, ?_⟩⟩
    rw [r5, pEn_e row] at e1
    have e2 : h1 = qsJ h 92 0 (pEn (cRow (Ds k)) (nI j) (nI N)).toInt64 := e1
    subst e2
    obtain ⟨i1, id1⟩ := o_set i id (pEn (cRow (Ds k)) (nI j) (nI N)).toInt64
    refine m_energy i1 id1 (fun g k2 j2 hk2 ek hj2 ej ig f z => ?_) (fun g no => absurd ⟨k, j, hk, rfl, hj, rfl⟩ no)
    have := nI_inj (by omega) (by have := id.2.2.1.2.2.2.1.1; omega) ek
    have := nI_inj (by omega) (by omega) ej
    subst_vars
    exact aft_ok ig f z rfl
  · right
    obtain ⟨i1, id1⟩ := o_new i id
    have fin : qn h + 1 ≤ 1000000 ∧ (1 : Int32) = 1 ∧ wp_X12_energy 70 p t (qnew h 12 0 6) (Aft h 1) := ⟨hm, rfl, m_energy i1 id1 (fun g2 k j hk ek hj ej => absurd ⟨k, j, hk, ek, hj, ej⟩ g) (fun g2 _ ig f z => aftx_ok ig f z)⟩
    unfold wx_L_energy wx_X11_energy
    refine isPart_ok id (fun k hk ek => ⟨fun y => absurd y (by decide), fun _ => isPlace_ok id (fun j hj ej => absurd ⟨k, j, hk, ek, hj, ej⟩ g) (fun _ => ⟨fun y => absurd rfl y, fun _ => fin⟩)⟩) (fun _ => ⟨fun _ => fin, fun y => absurd rfl y⟩)
theorem op_gives (i : Inv h) (hm : qn h + 1 ≤ 1000000) (p t w : Int32) : wp_L_gives 0 p t w 92 h (fun r h1 => r = 0 ∧ wp_X12_gives 70 p t w h1 (Aft h r)) ∨ wx_L_gives 0 p t w 92 h (fun r h1 => r = 1 ∧ wp_X12_gives 70 p t w h1 (Aft h r)) := by
  obtain ⟨N, rb, n, Ds, d, e, id⟩ := i.2.2.1
  by_cases g : ∃ k j L, k < n ∧ p = nI k ∧ j < N ∧ t = nI j ∧ L < 32 ∧ w = nI L
  · left
    obtain ⟨k, j, L, hk, rfl, hj, rfl, hL, rfl⟩ := g
    obtain ⟨⟨k12, N48, okd, row⟩, r1, r2, r3, r4, r5⟩ := o_part i id hk
    unfold wp_L_gives wp_X11_gives
    refine isPart_ok id (fun _ _ _ => ⟨fun y => absurd y (by decide), fun _ => isPlace_ok id (fun _ _ _ => ⟨fun y => absurd y (by decide), fun _ => isLaw_ok (fun _ _ _ => ⟨fun _ => ⟨d, r1, d + 1, r2, r3, d + 2 + k, r4, d, r1, gives_ok ?_⟩, fun y => absurd y (by decide)⟩) (fun no => absurd rfl (no L hL))⟩) (fun no => absurd rfl (no j hj))⟩) (fun no => absurd rfl (no k hk))
    refine ⟨o_in i, fun h1 e1 => ⟨rfl, ?_⟩⟩
    rw [r5, pGive_e row] at e1
    have e2 : h1 = qsJ h 92 0 (gv (Ds k) N j (nI L)).toInt64 := e1
    subst e2
    obtain ⟨i1, id1⟩ := o_set i id (gv (Ds k) N j (nI L)).toInt64
    refine m_gives i1 id1 (fun g k2 j2 L2 hk2 ek hj2 ej hL2 eL ig f z => ?_) (fun g no => absurd ⟨k, j, L, hk, rfl, hj, rfl, hL, rfl⟩ no)
    have := nI_inj (by omega) (by have := id.2.2.1.2.2.2.1.1; omega) ek
    have := nI_inj (by omega) (by omega) ej
    have := nI_inj (by omega) (by omega) eL
    subst_vars
    exact aft_ok ig f z rfl
  · right
    obtain ⟨i1, id1⟩ := o_new i id
    have fin : qn h + 1 ≤ 1000000 ∧ (1 : Int32) = 1 ∧ wp_X12_gives 70 p t w (qnew h 12 0 6) (Aft h 1) := ⟨hm, rfl, m_gives i1 id1 (fun g2 k j L hk ek hj ej hL eL => absurd ⟨k, j, L, hk, ek, hj, ej, hL, eL⟩ g) (fun g2 _ ig f z => aftx_ok ig f z)⟩
    unfold wx_L_gives wx_X11_gives
    refine isPart_ok id (fun k hk ek => ⟨fun y => absurd y (by decide), fun _ => isPlace_ok id (fun j hj ej => ⟨fun y => absurd y (by decide), fun _ => isLaw_ok (fun L hL eL => absurd ⟨k, j, L, hk, ek, hj, ej, hL, eL⟩ g) (fun _ => ⟨fun y => absurd rfl y, fun _ => fin⟩)⟩) (fun _ => ⟨fun _ => fin, fun y => absurd rfl y⟩)⟩) (fun _ => ⟨fun _ => fin, fun y => absurd rfl y⟩)
theorem op_sum (i : Inv h) (hm : qn h + 1 ≤ 1000000) (p w : Int32) : wp_L_sum 0 p w 92 h (fun r h1 => r = 0 ∧ wp_X12_sum 70 p w h1 (Aft h r)) ∨ wx_L_sum 0 p w 92 h (fun r h1 => r = 1 ∧ wp_X12_sum 70 p w h1 (Aft h r)) := by
  obtain ⟨N, rb, n, Ds, d, e, id⟩ := i.2.2.1
  have n12 : n ≤ 12 := id.2.2.1.2.2.2.1.1
  have neg : ∀ k, k < n → ¬ nI k = -1 := fun k hk y => nI_pos (n := k) (by omega) (by rw [y]; decide)
  have r7 : qR h 0 2 = some 7 := i.1.R 0 2 7 (by decide)
  by_cases g : (p = -1 ∨ ∃ k, k < n ∧ p = nI k) ∧ ∃ L, L < 32 ∧ w = nI L
  · left
    obtain ⟨gp, L, hL, rfl⟩ := g
    unfold wp_L_sum wp_X11_sum
    refine isLaw_ok (fun _ _ _ => ⟨fun y => absurd y (by decide), fun _ => ⟨fun ep => ⟨fun y => absurd ep y, fun _ => ⟨7, r7, whole_ok id.2.2.2.1 hL ?_⟩⟩, fun np => isPart_ok id (fun k hk ek => ⟨fun _ => ⟨fun _ => ?_, fun y => absurd y np⟩, fun y => absurd y (by decide)⟩) (fun no => gp.elim (fun y => absurd y np) (fun ⟨k, hk, ek⟩ => absurd ek (no k hk)))⟩⟩) (fun no => absurd rfl (no L hL))
    · refine ⟨o_in i, fun h1 e1 => ⟨rfl, ?_⟩⟩
      have e2 : h1 = qsJ h 92 0 (wholeV N rb n Ds (nI L)).toInt64 := e1
      subst e2
      obtain ⟨i1, id1⟩ := o_set i id (wholeV N rb n Ds (nI L)).toInt64
      refine m_sum i1 id1 (fun g k2 L2 hk2 ek => absurd (ek.symm.trans ep) (neg k2 hk2)) (fun g L2 _ hL2 eL ig f z => ?_) (fun g no => absurd ⟨Or.inl ep, L, hL, rfl⟩ no)
      have := nI_inj (by omega) (by omega) eL
      subst_vars
      exact aft_ok ig f z rfl
    · obtain ⟨⟨k12, N48, okd, row⟩, r1, r2, r3, r4, r5⟩ := o_part i id hk
      subst ek
      refine ⟨d, r1, d + 1, r2, r3, d + 2 + k, r4, d, r1, ?_⟩
      rw [r5]
      refine sum_ok (by omega) ?_
      rw [show (fun t => pGive (qI h (d + 2 + k)) (nI t) (nI L) (nI N)) = (fun t => gv (Ds k) N t (nI L)) from funext (fun t => pGive_e row _ _ _)]
      refine ⟨o_in i, fun h1 e1 => ⟨rfl, ?_⟩⟩
      have e2 : h1 = qsJ h 92 0 (qsum (fun t => gv (Ds k) N t (nI L)) N).toInt64 := e1
      subst e2
      obtain ⟨i1, id1⟩ := o_set i id (qsum (fun t => gv (Ds k) N t (nI L)) N).toInt64
      refine m_sum i1 id1 (fun g k2 L2 hk2 ek hL2 eL ig f z => ?_) (fun g L2 ep => absurd ep np) (fun g no => absurd ⟨Or.inr ⟨k, hk, rfl⟩, L, hL, rfl⟩ no)
      have := nI_inj (by omega) (by omega) ek
      have := nI_inj (by omega) (by omega) eL
      subst_vars
      exact aft_ok ig f z rfl
  · right
    obtain ⟨i1, id1⟩ := o_new i id
    have fin : qn h + 1 ≤ 1000000 ∧ (1 : Int32) = 1 ∧ wp_X12_sum 70 p w (qnew h 12 0 6) (Aft h 1) := ⟨hm, rfl, m_sum i1 id1 (fun g2 k L hk ek hL eL => absurd ⟨Or.inr ⟨k, hk, ek⟩, L, hL, eL⟩ g) (fun g2 L ep hL eL => absurd ⟨Or.inl ep, L, hL, eL⟩ g) (fun g2 _ ig f z => aftx_ok ig f z)⟩
    unfold wx_L_sum wx_X11_sum
    exact isLaw_ok (fun L hL eL => ⟨fun y => absurd y (by decide), fun _ => ⟨fun ep => absurd ⟨Or.inl ep, L, hL, eL⟩ g, fun np => isPart_ok id (fun k hk ek => absurd ⟨Or.inr ⟨k, hk, ek⟩, L, hL, eL⟩ g) (fun _ => ⟨fun y => absurd rfl y, fun _ => fin⟩)⟩⟩) (fun _ => ⟨fun _ => fin, fun y => absurd rfl y⟩)
theorem op_value (i : Inv h) (hm : qn h + 1 ≤ 1000000) (v t : Int32) : wp_L_value 0 v t 92 h (fun r h1 => r = 0 ∧ wp_X12_value 70 v t h1 (Aft h r)) ∨ wx_L_value 0 v t 92 h (fun r h1 => r = 1 ∧ wp_X12_value 70 v t h1 (Aft h r)) := by
  obtain ⟨N, rb, n, Ds, d, e, id⟩ := i.2.2.1
  have N48 : N ≤ 48 := id.2.2.1.1.2.2.2.1
  have r7 : qR h 0 2 = some 7 := i.1.R 0 2 7 (by decide)
  have neg : ∀ k, k < N → ¬ nI k = -1 := fun k hk y => nI_pos (n := k) (by omega) (by rw [y]; decide)
  have tinj : ∀ y y2, tOk N y → tOk N y2 → tI y = tI y2 → y = y2 := by
    intro y y2 a b c
    cases y with
    | none =>
      cases y2 with
      | none => rfl
      | some j => exact absurd c.symm (neg j b)
    | some j =>
      cases y2 with
      | none => exact absurd c (neg j a)
      | some j2 =>
        have a2 : j < N := a
        have b2 : j2 < N := b
        rw [nI_inj (by omega) (by omega) c]
  have hp : qI h 7 5 = nI N := id.2.2.2.1.2.2.2.1
  by_cases g : ∃ x y, x < 8 ∧ v = nI x ∧ tOk N y ∧ t = tI y
  · left
    obtain ⟨x, y, hx, rfl, hy, rfl⟩ := g
    have fin : vp_in 0 (qL h 92) ∧ ∀ h3, h3 = qsJ h 92 (0 : Int32).toNatClampNeg (vvt N n Ds y x).toInt64 → (0 : Int32) = 0 ∧ wp_X12_value 70 (nI x) (tI y) h3 (Aft h 0) := by
      refine ⟨o_in i, fun h1 e1 => ⟨rfl, ?_⟩⟩
      have e2 : h1 = qsJ h 92 0 (vvt N n Ds y x).toInt64 := e1
      subst e2
      obtain ⟨i1, id1⟩ := o_set i id (vvt N n Ds y x).toInt64
      refine m_value i1 id1 (fun g x2 y2 hx2 ex hy2 ey ig f z => ?_) (fun g no => absurd ⟨x, y, hx, rfl, hy, rfl⟩ no)
      have a1 := nI_inj (by omega) (by omega) ex
      have a2 := tinj _ _ hy hy2 ey
      subst a1 a2
      exact aft_ok ig f z rfl
    have cv : wp_X8_valueAt 7 (nI x) (tI y) h (fun r7 h6 => vp_in 0 (qL h6 92) ∧ ∀ h3, h3 = qsJ h6 92 (0 : Int32).toNatClampNeg r7.toInt64 → (0 : Int32) = 0 ∧ wp_X12_value 70 (nI x) (tI y) h3 (Aft h 0)) := cval_ok id.2.2.2.2 hp N48 hx hy fin
    unfold wp_L_value wp_X11_value
    refine ⟨fun z => absurd z (nI_pos (by omega)), fun _ => ⟨fun z => absurd z (nI_ge (b := 8) hx (by decide)), fun _ => ⟨fun _ => ⟨7, r7, cv⟩, fun nm => ?_⟩⟩⟩
    cases y with
    | none => exact absurd rfl nm
    | some j => exact isPlace_ok id (fun _ _ _ => ⟨fun _ => ⟨7, r7, cv⟩, fun y => absurd y (by decide)⟩) (fun no => absurd rfl (no j hy))
  · right
    obtain ⟨i1, id1⟩ := o_new i id
    have fin : qn h + 1 ≤ 1000000 ∧ (1 : Int32) = 1 ∧ wp_X12_value 70 v t (qnew h 12 0 6) (Aft h 1) := ⟨hm, rfl, m_value i1 id1 (fun g2 x y hx ex hy ey => absurd ⟨x, y, hx, ex, hy, ey⟩ g) (fun g2 _ ig f z => aftx_ok ig f z)⟩
    unfold wx_L_value wx_X11_value
    refine ⟨fun _ => fin, fun nl => ⟨fun _ => fin, fun n8 => ?_⟩⟩
    obtain ⟨x, hx, ex⟩ := nI_of nl
    have hx8 : x < 8 := by
      rcases Nat.lt_or_ge x 8 with z | z
      · exact z
      · exact absurd (by rw [ex]; exact nI_le (a := 8) z hx) n8
    exact ⟨fun em => absurd ⟨x, none, hx8, ex, trivial, em⟩ g, fun nm => isPlace_ok id (fun j hj ej => absurd ⟨x, some j, hx8, ex, hj, ej⟩ g) (fun _ => ⟨fun y => absurd rfl y, fun _ => fin⟩)⟩
end

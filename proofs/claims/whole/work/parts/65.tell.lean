/-! ===== PURE: the class's totals are told anew ===== -/
theorem pArm_e' {f : Nat → Int32} {D : PD} (e : rowE f D) (j : Int32) : pArm f j = pArm (cRow D) j := by
  unfold pArm
  rw [pWithin_e e, e 5 (by decide) (by decide), e 4 (by decide) (by decide)]
theorem ix48 (v t : Nat) : nI v * 48 + nI t = nI (48 * v + t) := by
  rw [show (48 : Int32) = nI 48 from rfl, pk_mul, nI_add, Nat.mul_comm]
theorem lw_sh : ∀ l, l < 4 → (1 : Int32) <<< (nI l &&& 31) = nI (2 ^ l) := by decide
theorem lw_ij : ∀ a, a < 4 → ∀ l, l < 4 → (nI (2 ^ a) = nI (2 ^ l) ↔ a = l) := by decide
theorem lw_0j : ∀ l, l < 4 → ¬ (0 : Int32) = nI (2 ^ l) := by decide
/-- cell a is cleared up to n -/
theorem clr1 {h : PH} {a n : Nat} (hn : n < 1000) {C : PH → Prop} {body : (Int32 × PH → Prop) → Int32 × PH → Prop} (step : ∀ k g back, k < n → Fg [a] [] h g → (∀ w, w = nI (k + 1) → back (w, qsI g a k 0)) → body back (nI k, g)) (last : ∀ g back, Fg [a] [] h g → (∀ j, j < n → qI g a j = 0) → body back (nI n, g)) : qLoop body (0, h) := by
  refine loopR n (fun k s => s.1 = nI k ∧ Fg [a] [] h s.2 ∧ ∀ j, j < k → qI s.2 a j = 0) (fun s => s.1.toNatClampNeg) ⟨rfl, Fg.rf _ _ _, fun j hj => absurd hj (Nat.not_lt_zero j)⟩ (fun k s hk p => by rw [p.1]; exact nI_clamp (by omega)) ?_ ?_
  · rintro k ⟨k', g⟩ hk ⟨s1, s2, s3⟩ back hb
    dsimp only at s1 s2 s3
    subst s1
    refine step k g back hk s2 (fun w ew => hb _ ⟨ew, s2.push _ _, fun j hj => ?_⟩)
    show qI (qsI g a k 0) a j = 0
    rw [rI_sI, if_pos rfl, up_at]
    by_cases z : j = k
    · rw [if_pos z]
    · rw [if_neg z]; exact s3 j (by omega)
  · rintro ⟨k', g⟩ ⟨s1, s2, s3⟩ back
    dsimp only at s1 s2 s3
    subst s1
    exact last g back s2 s3
theorem clear_ok {h : PH} {Q : PH → Prop} (sh : Shp h) (q : ∀ h1, Fg [8, 9, 10, 11, 12] [] h h1 → (∀ j, j < 48 → qI h1 8 j = 0) → (∀ j, j < 48 → qI h1 9 j = 0) → (∀ j, j < 192 → qI h1 10 j = 0) → (∀ j, j < 384 → qI h1 11 j = 0) → (∀ j, j < 8 → qI h1 12 j = 0) → Q h1) : wp_X8_clear 7 h Q := by
  refine loopR 48 (fun k s => s.1 = nI k ∧ Fg [8, 9] [] h s.2 ∧ ∀ j, j < k → qI s.2 8 j = 0 ∧ qI s.2 9 j = 0) (fun s => s.1.toNatClampNeg) ⟨rfl, Fg.rf _ _ _, fun j hj => absurd hj (Nat.not_lt_zero j)⟩ (fun k s hk p => by rw [p.1]; exact nI_clamp (by omega)) ?_ ?_
  · rintro k ⟨k', g⟩ hk ⟨s1, s2, s3⟩ back hb
    dsimp only at s1 s2 s3
    subst s1
    have shg := sh.fg s2 rfl
    refine ⟨8, shg.R 7 0 8 (by decide), fun z => ?_, fun _ => ⟨8, shg.R 7 0 8 (by decide), by rw [shg.L 8 (n := 48) (by decide) rfl]; exact vp_in_nI hk (by decide), fun g2 e2 => ?_⟩⟩
    · exfalso
      rw [shg.L 8 (n := 48) (by decide) rfl] at z
      exact nI_ge hk (by decide) z
    · dsimp only at e2
      rw [nI_clamp (by omega)] at e2
      have f2 : Fg [8] [] g g2 := by rw [e2]; exact Fg.cI _ _ _ _
      have sh2 := shg.fg f2 rfl
      refine ⟨9, sh2.R 7 1 9 (by decide), by rw [sh2.L 9 (n := 48) (by decide) rfl]; exact vp_in_nI hk (by decide), fun g3 e3 w ew => hb _ ?_⟩
      dsimp only at e3
      rw [nI_clamp (by omega)] at e3
      have f3 : Fg [9] [] g2 g3 := by rw [e3]; exact Fg.cI _ _ _ _
      refine ⟨by rw [ew]; exact nI_1 k, (s2.tr f2 (U := [8, 9]) (V := []) rfl rfl).tr f3 rfl rfl, fun j hj => ⟨?_, ?_⟩⟩
      · show qI g3 8 j = 0
        rw [(f3.ne (by decide) j).1, e2, rI_sI, if_pos rfl, up_at]
        by_cases z : j = k
        · rw [if_pos z]
        · rw [if_neg z]; exact (s3 j (by omega)).1
      · show qI g3 9 j = 0
        rw [e3, rI_sI, if_pos rfl, up_at]
        by_cases z : j = k
        · rw [if_pos z]
        · rw [if_neg z, (f2.ne (by decide) j).1]; exact (s3 j (by omega)).2
  · rintro ⟨k', g⟩ ⟨s1, s2, s3⟩ back
    dsimp only at s1 s2 s3
    subst s1
    have shg := sh.fg s2 rfl
    refine ⟨8, shg.R 7 0 8 (by decide), fun _ => ?_, fun z => absurd (by rw [shg.L 8 (n := 48) (by decide) rfl]; exact nI_le (Nat.le_refl _) (by decide)) z⟩
    -- cell 10
    refine clr1 (h := g) (a := 10) (n := 192) (by decide) (C := Q) (fun k g2 back hk f2 hb => ?_) (fun g2 back f2 z2 => ?_)
    · have sh2 := shg.fg f2 rfl
      refine ⟨10, sh2.R 7 2 10 (by decide), fun z => ?_, fun _ => ⟨10, sh2.R 7 2 10 (by decide), by rw [sh2.L 10 (n := 192) (by decide) rfl]; exact vp_in_nI hk (by decide), fun g3 e3 w ew => ?_⟩⟩
      · exfalso
        rw [sh2.L 10 (n := 192) (by decide) rfl] at z
        exact nI_ge hk (by decide) z
      · dsimp only at e3 ew
        rw [nI_clamp (by omega)] at e3
        rw [e3]; exact hb w (by rw [ew]; exact nI_1 k)
    · have sh2 := shg.fg f2 rfl
      refine ⟨10, sh2.R 7 2 10 (by decide), fun _ => ?_, fun z => absurd (by rw [sh2.L 10 (n := 192) (by decide) rfl]; exact nI_le (Nat.le_refl _) (by decide)) z⟩
      refine clr1 (h := g2) (a := 11) (n := 384) (by decide) (C := Q) (fun k g3 back hk f3 hb => ?_) (fun g3 back f3 z3 => ?_)
      · have sh3 := sh2.fg f3 rfl
        refine ⟨11, sh3.R 7 3 11 (by decide), fun z => ?_, fun _ => ⟨11, sh3.R 7 3 11 (by decide), by rw [sh3.L 11 (n := 384) (by decide) rfl]; exact vp_in_nI hk (by decide), fun g4 e4 w ew => ?_⟩⟩
        · exfalso
          rw [sh3.L 11 (n := 384) (by decide) rfl] at z
          exact nI_ge hk (by decide) z
        · dsimp only at e4 ew
          rw [nI_clamp (by omega)] at e4
          rw [e4]; exact hb w (by rw [ew]; exact nI_1 k)
      · have sh3 := sh2.fg f3 rfl
        refine ⟨11, sh3.R 7 3 11 (by decide), fun _ => ?_, fun z => absurd (by rw [sh3.L 11 (n := 384) (by decide) rfl]; exact nI_le (Nat.le_refl _) (by decide)) z⟩
        refine clr1 (h := g3) (a := 12) (n := 8) (by decide) (C := Q) (fun k g4 back hk f4 hb => ?_) (fun g4 back f4 z4 => ?_)
        · have sh4 := sh3.fg f4 rfl
          refine ⟨12, sh4.R 7 4 12 (by decide), fun z => ?_, fun _ => ⟨12, sh4.R 7 4 12 (by decide), by rw [sh4.L 12 (n := 8) (by decide) rfl]; exact vp_in_nI hk (by decide), fun g5 e5 w ew => ?_⟩⟩
          · exfalso
            rw [sh4.L 12 (n := 8) (by decide) rfl] at z
            exact nI_ge hk (by decide) z
          · dsimp only at e5 ew
            rw [nI_clamp (by omega)] at e5
            rw [e5]; exact hb w (by rw [ew]; exact nI_1 k)
        · have sh4 := sh3.fg f4 rfl
          refine ⟨12, sh4.R 7 4 12 (by decide), fun _ => q g4 ?_ (fun j hj => ?_) (fun j hj => ?_) (fun j hj => ?_) (fun j hj => ?_) z4, fun z => absurd (by rw [sh4.L 12 (n := 8) (by decide) rfl]; exact nI_le (Nat.le_refl _) (by decide)) z⟩
          · exact ((s2.tr f2 (U := [8, 9, 10, 11, 12]) (V := []) rfl rfl).tr f3 (U := [8, 9, 10, 11, 12]) (V := []) rfl rfl).tr f4 rfl rfl
          · rw [(f4.ne (by decide) j).1, (f3.ne (by decide) j).1, (f2.ne (by decide) j).1]; exact (s3 j hj).1
          · rw [(f4.ne (by decide) j).1, (f3.ne (by decide) j).1, (f2.ne (by decide) j).1]; exact (s3 j hj).2
          · rw [(f4.ne (by decide) j).1, (f3.ne (by decide) j).1]; exact z2 j hj
          · rw [(f4.ne (by decide) j).1]; exact z3 j hj
/-- what is added to the VALUES at t -/
def AV (h h1 : PH) (t : Nat) (w : Nat → Int32) : Prop := ∀ v, v < 8 → ∀ s, s < 48 → qI h1 11 (48 * v + s) = qI h 11 (48 * v + s) + (if s = t then w v else 0)
theorem AV.tr {h h1 h2 : PH} {t : Nat} {w w2 : Nat → Int32} (a : AV h h1 t w) (c : AV h1 h2 t w2) : AV h h2 t (fun v => w v + w2 v) := by
  intro v hv s hs
  rw [c v hv s hs, a v hv s hs]
  by_cases z : s = t
  · rw [if_pos z, if_pos z, if_pos z, Int32.add_assoc]
  · rw [if_neg z, if_neg z, if_neg z, Int32.add_zero, Int32.add_zero]
theorem AV.k {h h1 h2 : PH} {t : Nat} {w : Nat → Int32} (a : AV h h1 t w) (f : ∀ j, qI h2 11 j = qI h1 11 j) : AV h h2 t w := fun v hv s hs => by rw [f]; exact a v hv s hs
theorem addV_ok {h : PH} {v0 t : Nat} {x : Int32} {Q : PH → Prop} (sh : Shp h) (hv : v0 < 8) (ht : t < 48) (q : ∀ h1, Fg [11] [] h h1 → AV h h1 t (fun v => if v = v0 then x else 0) → Q h1) : wp_X8_addValue 7 (nI v0) (nI t) x h Q := by
  have vin : vp_in (nI v0 * 48 + nI t) (qL h 11) := by
    rw [ix48, sh.L 11 (n := 384) (by decide) rfl]; exact vp_in_nI (by omega) (by decide)
  refine ⟨11, sh.R 7 3 11 (by decide), vin, vin, fun h1 e1 => ?_⟩
  rw [ix48, nI_clamp (by omega)] at e1
  refine q h1 (by rw [e1]; exact Fg.cI _ _ _ _) (fun v hv' s hs => ?_)
  rw [e1, rI_sI, if_pos rfl, up_at]
  by_cases z : s = t
  · rw [if_pos z]
    by_cases y : v = v0
    · rw [if_pos (by omega)]; dsimp only; rw [if_pos y, y, z]
    · rw [if_neg (by omega)]; dsimp only; rw [if_neg y, Int32.add_zero]
  · rw [if_neg z, if_neg (by omega), Int32.add_zero]
section
variable {h : PH} {p N t : Nat} {D : PD}
theorem addS_ok {Q : PH → Prop} (sh : Shp h) (hp : 13 ≤ p) (o : okD N D) (rE : rowE (qI h p) D) (hN : N ≤ 48) (a5 : qI h 7 5 = nI N) (ht : t < N)
    (q : ∀ h1, Fg [8, 9, 10, 11] [] h h1 → (∀ s, s < 48 → qI h1 8 s = qI h 8 s + (if s = t then gv D N t 0 else 0)) → (∀ s, s < 48 → qI h1 9 s = qI h 9 s + (if s = t then (if dk D = 4 then gv D N t 0 else 0) else 0)) → (∀ l, l < 4 → ∀ s, s < 48 → qI h1 10 (48 * l + s) = qI h 10 (48 * l + s) + (if s = t then (if dk D < 4 ∧ lwOf (dk D) = l then gv D N t (nI (2 ^ l)) - gv D N t 0 else 0) else 0)) → AV h h1 t (fun v => if v = 5 ∨ v = 6 then pval D N v t else 0) → Q h1) : wp_X8_addStep 7 p (nI t) h Q := by
  have row : ∀ {g : PH}, Fg [8, 9, 10, 11] [] h g → rowE (qI g p) D := fun {g} f => by
    have : qI g p = qI h p := by
      funext j
      exact (f.ne (by simp; omega) j).1
    rw [this]; exact rE
  have gvE : ∀ {g : PH} {L : Int32}, Fg [8, 9, 10, 11] [] h g → pGive (qI g p) (nI t) L (qI g 7 5) = gv D N t L := fun {g} {L} f => by
    rw [pGive_e (row f), (f.ne (by decide) 5).1, a5]; rfl
  refine gives_ok ?_
  rw [gvE (Fg.rf _ _ _)]
  have vin : vp_in (nI t) (qL h 8) := by rw [sh.L 8 (n := 48) (by decide) rfl]; exact vp_in_nI (by omega) (by decide)
  refine ⟨8, sh.R 7 0 8 (by decide), vin, vin, fun h1 e1 => ?_⟩
  rw [nI_clamp (by omega)] at e1
  have f1 : Fg [8] [] h h1 := by rw [e1]; exact Fg.cI _ _ _ _
  have sh1 := sh.fg f1 rfl
  have K8 : ∀ s, s < 48 → qI h1 8 s = qI h 8 s + (if s = t then gv D N t 0 else 0) := fun s hs => by
    rw [e1, rI_sI, if_pos rfl, up_at]
    by_cases z : s = t
    · rw [if_pos z, if_pos z, z]
    · rw [if_neg z, if_neg z, Int32.add_zero]
  -- behind the sign
  have main : ∀ v0, (v0 = 5 ∨ v0 = 6) → (∀ v, v < 8 → (if v = v0 then qabs (gv D N t 0) else 0) = (if v = 5 ∨ v = 6 then pval D N v t else 0)) → wp_X8_addStep_32 7 p (nI t) (gv D N t 0) (nI v0) 7 h1 Q := by
    intro v0 hv0 hw
    refine abs_ok (addV_ok sh1 (by omega) (by omega) (fun h2 f2 av => ?_))
    have sh2 := sh1.fg f2 rfl
    have f12 : Fg [8, 9, 10, 11] [] h h2 := f1.tr f2 rfl rfl
    have av2 : AV h h2 t (fun v => if v = 5 ∨ v = 6 then pval D N v t else 0) := fun v hv s hs => by
      rw [av v hv s hs, (f1.ne (by decide) _).1]; dsimp only; rw [hw v hv]
    have k2 : qI h2 p 0 = nI (dk D) := row f12 0 (by decide) (by decide)
    -- behind the fed
    have rest : ∀ h3, Fg [9] [] h2 h3 → (∀ s, s < 48 → qI h3 9 s = qI h 9 s + (if s = t then (if dk D = 4 then gv D N t 0 else 0) else 0)) → qLoop (wp_X8_addStep_61 7 p (nI t) (gv D N t 0) Q) (0, h3) := by
      intro h3 f3 K9
      have f13 : Fg [8, 9, 10, 11] [] h h3 := f12.tr f3 rfl rfl
      have t10 : ∀ j, qI h3 10 j = qI h 10 j := fun j => by rw [(f3.ne (by decide) j).1, (f2.ne (by decide) j).1, (f1.ne (by decide) j).1]
      refine loopR 4 (fun l st => st.1 = nI l ∧ Fg [10] [] h3 st.2 ∧ ∀ l', l' < 4 → ∀ s, s < 48 → qI st.2 10 (48 * l' + s) = qI h 10 (48 * l' + s) + (if s = t ∧ l' < l then (if dk D < 4 ∧ lwOf (dk D) = l' then gv D N t (nI (2 ^ l')) - gv D N t 0 else 0) else 0)) (fun st => st.1.toNatClampNeg) ⟨rfl, Fg.rf _ _ _, fun l' hl' s hs => by rw [t10, if_neg (by omega), Int32.add_zero]⟩ (fun k s hk p => by rw [p.1]; exact nI_clamp (by omega)) ?_ ?_
      · rintro l ⟨l0, g⟩ hl ⟨s1, s2, s3⟩ back hb
        dsimp only at s1 s2 s3
        subst s1
        have fg : Fg [8, 9, 10, 11] [] h g := f13.tr s2 rfl rfl
        have shg := sh.fg fg rfl
        refine ⟨fun z => absurd z (nI_ge hl (by decide)), fun _ => law_ok ?_⟩
        dsimp only
        rw [pLaw_e (row fg), lw_sh l hl]
        have vin10 : vp_in (nI l * 48 + nI t) (qL g 10) := by rw [ix48, shg.L 10 (n := 192) (by decide) rfl]; exact vp_in_nI (by omega) (by decide)
        have isl : pLaw (cRow D) = nI (2 ^ l) ↔ (dk D < 4 ∧ lwOf (dk D) = l) := by
          by_cases k4 : dk D < 4
          · rw [pLaw_e2 k4]
            have : lwOf (dk D) < 4 := by unfold lwOf; split <;> omega
            rw [lw_ij _ this l hl]
            exact ⟨fun y => ⟨k4, y⟩, fun y => y.2⟩
          · have : dk D = 4 := by have := o.1; omega
            rw [pLaw_e4 this]
            exact ⟨fun y => absurd y (lw_0j l hl), fun y => absurd y.1 k4⟩
        refine ⟨fun z w ew => hb _ ⟨by rw [ew]; exact nI_1 l, s2, fun l' hl' s hs => ?_⟩, fun z => ⟨10, shg.R 7 2 10 (by decide), vin10, law_ok (gives_ok ⟨vin10, fun g2 e2 w ew => hb _ ⟨by rw [ew]; exact nI_1 l, by rw [e2]; exact s2.push _ _, fun l' hl' s hs => ?_⟩⟩)⟩⟩
        · show qI g 10 (48 * l' + s) = _
          rw [s3 l' hl' s hs]
          by_cases y : s = t ∧ l' < l
          · rw [if_pos y, if_pos (show s = t ∧ l' < l + 1 from ⟨y.1, by omega⟩)]
          · rw [if_neg y]
            by_cases y2 : s = t ∧ l' < l + 1
            · have el : l' = l := by omega
              rw [if_pos y2, if_neg (fun u => z (isl.mpr (by rw [← el]; exact u)))]
            · rw [if_neg y2]
        · show qI g2 10 (48 * l' + s) = _
          rw [pLaw_e (row fg), z, gvE fg, ix48, nI_clamp (by omega)] at e2
          have st : qI g 10 (48 * l + t) = qI h 10 (48 * l + t) := by rw [s3 l hl t (by omega), if_neg (show ¬ (t = t ∧ l < l) by omega), Int32.add_zero]
          rw [st] at e2
          rw [e2, rI_sI, if_pos rfl, up_at]
          by_cases y : 48 * l' + s = 48 * l + t
          · have el : l' = l := by omega
            have es : s = t := by omega
            subst el es
            rw [if_pos rfl, if_pos (show s = s ∧ l' < l' + 1 from ⟨rfl, by omega⟩), if_pos (isl.mp z)]
          · rw [if_neg y, s3 l' hl' s hs]
            by_cases y1 : s = t ∧ l' < l
            · rw [if_pos y1, if_pos (show s = t ∧ l' < l + 1 from ⟨y1.1, by omega⟩)]
            · rw [if_neg y1, if_neg (show ¬ (s = t ∧ l' < l + 1) by omega)]
      · rintro ⟨l0, g⟩ ⟨s1, s2, s3⟩ back
        dsimp only at s1 s2 s3
        subst s1
        have fg : Fg [8, 9, 10, 11] [] h g := f13.tr s2 rfl rfl
        refine ⟨fun _ => q g fg (fun s hs => ?_) (fun s hs => ?_) (fun l' hl' s hs => ?_) (av2.k (fun j => ?_)), fun z => absurd (nI_le (Nat.le_refl _) (by decide)) z⟩
        · rw [(s2.ne (by decide) s).1, (f3.ne (by decide) s).1, (f2.ne (by decide) s).1]; exact K8 s hs
        · rw [(s2.ne (by decide) s).1]; exact K9 s hs
        · rw [s3 l' hl' s hs]
          by_cases y : s = t
          · rw [if_pos (show s = t ∧ l' < 4 from ⟨y, by omega⟩), if_pos y]
          · rw [if_neg (fun u => y u.1), if_neg y]
        · rw [(s2.ne (by decide) j).1, (f3.ne (by decide) j).1]
    refine n_eq (dk D) 4 (fun k4 => rest h2 (Fg.rf _ _ _) (fun s hs => ?_)) (fun k4 => ?_) k2 rfl (by have := o.1; omega)
    · rw [(f2.ne (by decide) s).1, (f1.ne (by decide) s).1, if_neg k4]
      split <;> rw [Int32.add_zero]
    · have vin9 : vp_in (nI t) (qL h2 9) := by rw [sh2.L 9 (n := 48) (by decide) rfl]; exact vp_in_nI (by omega) (by decide)
      refine ⟨9, sh2.R 7 1 9 (by decide), vin9, vin9, fun h3 e3 => rest h3 (by rw [e3]; exact Fg.cI _ _ _ _) (fun s hs => ?_)⟩
      rw [nI_clamp (by omega)] at e3
      rw [e3, rI_sI, if_pos rfl, up_at, (f2.ne (by decide) s).1, (f1.ne (by decide) s).1, (f2.ne (by decide) t).1, (f1.ne (by decide) t).1]
      by_cases z : s = t
      · rw [if_pos z, if_pos z, if_pos k4, z]
      · rw [if_neg z, if_neg z, Int32.add_zero]
  generalize hg : gv D N t 0 = gg at *
  have pv6 : pval D N 6 t = if gg < 0 then -gg else 0 := by
    unfold pval
    rw [if_neg (by decide), if_pos rfl, hg]
  have pv5 : pval D N 5 t = if 0 < gg then gg else 0 := by
    unfold pval
    rw [if_pos rfl, hg]
  refine ⟨fun z => main 6 (Or.inr rfl) (fun v hv => ?_), fun z => main 5 (Or.inl rfl) (fun v hv => ?_)⟩
  · by_cases y : v = 6
    · subst y
      rw [if_pos rfl, if_pos (Or.inr rfl), pv6]
      unfold qabs
      by_cases u : gg < 0
      · rw [if_pos u, if_neg (i_nle.mpr u)]
      · have e0 : gg = 0 := by
          rw [Int32.lt_iff_toInt_lt] at u
          rw [Int32.le_iff_toInt_le] at z
          rw [← Int32.toInt_inj]; omega
        rw [if_neg u, e0]; rfl
    · rw [if_neg y]
      by_cases y5 : v = 5
      · subst y5
        rw [if_pos (Or.inl rfl), pv5, if_neg]
        intro u
        exact i_nle.mpr u z
      · rw [if_neg (by omega)]
  · have pos : 0 < gg := i_nle.mp z
    by_cases y : v = 5
    · subst y
      rw [if_pos rfl, if_pos (Or.inl rfl), pv5]
      unfold qabs
      rw [if_pos pos, if_pos (i_le pos)]
    · rw [if_neg y]
      by_cases y6 : v = 6
      · subst y6
        rw [if_pos (Or.inr rfl), pv6, if_neg]
        intro u
        exact i_nle.mpr u (i_le pos)
      · rw [if_neg (by omega)]
end

/-! ===== PURE: the class's totals are told anew, place and loops ===== -/
theorem AV.c {h h1 : PH} {t : Nat} {w w2 : Nat → Int32} (a : AV h h1 t w) (e : ∀ v, v < 8 → w v = w2 v) : AV h h1 t w2 := fun v hv s hs => by rw [a v hv s hs, e v hv]
def w33 (D : PD) (N J v : Nat) : Int32 := if v = 4 ∨ v = 5 ∨ v = 6 then 0 else if dk D = 0 then (if v = 7 then pHigh (nI J) (nI N) else if (if v % 2 = 0 then N / 2 < J else 0 < J ∧ J < N / 2) then (if v < 2 then nI (dw D) * pArm (cRow D) (nI J) else 1) else 0) else 0
section
variable {h : PH} {p N t J : Nat} {D : PD}
theorem pl33_ok {Q : PH → Prop} (sh : Shp h) (hp : 13 ≤ p) (o : okD N D) (rE : rowE (qI h p) D) (hN8 : 8 ≤ N) (hN : N ≤ 48) (a5 : qI h 7 5 = nI N) (ht : t < N) (hJ : J < N)
    (q : ∀ h1, Fg [11] [] h h1 → AV h h1 t (w33 D N J) → Q h1) : wp_X8_addPlace_33 7 p (nI t) (nI J) h Q := by
  have row : ∀ {g : PH}, Fg [11] [] h g → rowE (qI g p) D := fun {g} f => by
    have : qI g p = qI h p := by
      funext j
      exact (f.ne (by simp; omega) j).1
    rw [this]; exact rE
  have k0 : qI h p 0 = nI (dk D) := rE 0 (by decide) (by decide)
  refine pk_eq (dk D) 0 (fun d0 => high_ok ?_) (fun d0 => q h (Fg.rf _ _ _) (fun v hv s hs => ?_)) k0 rfl (by have := o.1; omega)
  · rw [a5]
    refine addV_ok (v0 := 7) sh (by decide) (by omega) (fun h1 f1 av1 => ?_)
    have sh1 := sh.fg f1 rfl
    have e5 : qI h1 7 5 / 2 = nI (N / 2) := by
      rw [(f1.ne (by decide) 5).1, a5]
      exact pk_div (d := 2) (by omega) (by decide) (by decide)
    have e3 : qI h1 p 3 = nI (dw D) := row f1 3 (by decide) (by decide)
    have arm : ∀ {g : PH}, Fg [11] [] h g → pArm (qI g p) (nI J) = pArm (cRow D) (nI J) := fun f => pArm_e' (row f) _
    rw [e5]
    refine pk_le J (N / 2) (fun c1 => pk_le J 0 (fun c2 => q h1 f1 (av1.c (fun v hv => ?_))) (fun c2 => pk_le (N / 2) J (fun c3 => q h1 f1 (av1.c (fun v hv => ?_))) (fun c3 => arm_ok ?_))) (fun c1 => arm_ok ?_)
    · unfold w33
      rcases (show v = 0 ∨ v = 1 ∨ v = 2 ∨ v = 3 ∨ v = 4 ∨ v = 5 ∨ v = 6 ∨ v = 7 by omega) with y | y | y | y | y | y | y | y <;> subst y <;> simp [d0]
      all_goals first | omega | (intro u; omega)
    · unfold w33
      rcases (show v = 0 ∨ v = 1 ∨ v = 2 ∨ v = 3 ∨ v = 4 ∨ v = 5 ∨ v = 6 ∨ v = 7 by omega) with y | y | y | y | y | y | y | y <;> subst y <;> simp [d0]
      all_goals first | omega | (intro u; omega)
    · rw [arm f1, e3]
      refine addV_ok (v0 := 1) sh1 (by decide) (by omega) (fun h2 f2 av2 => ?_)
      have sh2 := sh1.fg f2 rfl
      refine addV_ok (v0 := 3) sh2 (by decide) (by omega) (fun h3 f3 av3 => ?_)
      refine q h3 ((f1.tr f2 (U := [11]) (V := []) rfl rfl).tr f3 rfl rfl) (((av1.tr av2).tr av3).c (fun v hv => ?_))
      have n1 : ¬ N / 2 < J := by omega
      have n2 : 0 < J ∧ J < N / 2 := by omega
      unfold w33
      rcases (show v = 0 ∨ v = 1 ∨ v = 2 ∨ v = 3 ∨ v = 4 ∨ v = 5 ∨ v = 6 ∨ v = 7 by omega) with y | y | y | y | y | y | y | y <;> subst y <;> simp [d0, n1, n2]
    · rw [arm f1, e3]
      refine addV_ok (v0 := 0) sh1 (by decide) (by omega) (fun h2 f2 av2 => ?_)
      have sh2 := sh1.fg f2 rfl
      refine addV_ok (v0 := 2) sh2 (by decide) (by omega) (fun h3 f3 av3 => ?_)
      refine q h3 ((f1.tr f2 (U := [11]) (V := []) rfl rfl).tr f3 rfl rfl) (((av1.tr av2).tr av3).c (fun v hv => ?_))
      have n2 : ¬ (0 < J ∧ J < N / 2) := by omega
      unfold w33
      rcases (show v = 0 ∨ v = 1 ∨ v = 2 ∨ v = 3 ∨ v = 4 ∨ v = 5 ∨ v = 6 ∨ v = 7 by omega) with y | y | y | y | y | y | y | y <;> subst y <;> simp [d0, c1, n2]
  · have : w33 D N J v = 0 := by
      unfold w33
      rw [if_neg d0]
      split <;> rfl
    rw [this]
    split <;> rw [Int32.add_zero]
theorem addPl_ok {Q : PH → Prop} (sh : Shp h) (hp : 13 ≤ p) (o : okD N D) (rE : rowE (qI h p) D) (hN8 : 8 ≤ N) (hN : N ≤ 48) (a5 : qI h 7 5 = nI N) (ht : t < N)
    (q : ∀ h1, Fg [11] [] h h1 → AV h h1 t (fun v => if v = 5 ∨ v = 6 then 0 else pval D N v t) → Q h1) : wp_X8_addPlace 7 p (nI t) h Q := by
  have row : ∀ {g : PH}, Fg [11] [] h g → rowE (qI g p) D := fun {g} f => by
    have : qI g p = qI h p := by
      funext j
      exact (f.ne (by simp; omega) j).1
    rw [this]; exact rE
  refine place_ok ?_
  rw [a5, pPlace_e rE, place_e o hN ht]
  have hJ : (dpin D + t) % N < N := Nat.mod_lt _ (by omega)
  have k0 : qI h p 0 = nI (dk D) := rE 0 (by decide) (by decide)
  generalize eJ : (dpin D + t) % N = J at *
  have pv : ∀ v, v < 8 → v ≠ 4 → w33 D N J v = (if v = 5 ∨ v = 6 then 0 else pval D N v t) := fun v hv n4 => by
    unfold w33 pval
    rw [eJ]
    by_cases y : v = 5 ∨ v = 6
    · rw [if_pos (by omega), if_pos y]
    · rw [if_neg (show ¬ (v = 4 ∨ v = 5 ∨ v = 6) by omega), if_neg y, if_neg (show ¬ v = 5 by omega), if_neg (show ¬ v = 6 by omega), if_neg n4]
  have w4 : w33 D N J 4 = 0 := by unfold w33; rw [if_pos (Or.inl rfl)]
  have p4 : pval D N 4 t = if dk D = 1 ∧ pWithin (cRow D) (nI J) = true then 1 else 0 := by
    unfold pval
    rw [if_neg (by decide), if_neg (by decide), if_pos rfl, eJ]
  -- nothing for the float
  have no : ¬ (dk D = 1 ∧ pWithin (cRow D) (nI J) = true) → wp_X8_addPlace_33 7 p (nI t) (nI J) h Q := fun z => pl33_ok sh hp o rE hN8 hN a5 ht hJ (fun h1 f1 av => q h1 f1 (av.c (fun v hv => by
    by_cases y : v = 4
    · subst y
      rw [w4, if_neg (by decide), p4, if_neg z]
    · exact pv v hv y)))
  refine n_eq (dk D) 1 (fun d1 => no (fun u => d1 u.1)) (fun d1 => within_ok ?_) k0 rfl (by have := o.1; omega)
  rw [pWithin_e rE]
  refine ⟨fun z => no (fun u => by rw [u.2] at z; exact absurd z (by decide)), fun z => ?_⟩
  refine addV_ok (v0 := 4) sh (by decide) (by omega) (fun h1 f1 av1 => ?_)
  have sh1 := sh.fg f1 rfl
  refine pl33_ok sh1 hp o (row f1) hN8 hN (by rw [(f1.ne (by decide) 5).1]; exact a5) ht hJ (fun h2 f2 av2 => q h2 (f1.tr f2 rfl rfl) ((av1.tr av2).c (fun v hv => ?_)))
  by_cases y : v = 4
  · subst y
    rw [if_pos rfl, w4, if_neg (by decide), p4, if_pos ⟨d1, b2i_t z⟩, Int32.add_zero]
  · rw [if_neg y, pv v hv y]
    simp
end
/-! the loops -/
def TS (h : PH) (N : Nat) (Ds : Nat → PD) (c : Nat → Nat) : Prop := ∀ t, t < N → qI h 8 t = tGiven N (c t) Ds t ∧ qI h 9 t = tFed N (c t) Ds t ∧ (∀ l, l < 4 → qI h 10 (48 * l + t) = tMore N (c t) Ds l t) ∧ ∀ v, v < 8 → qI h 11 (48 * v + t) = vval N (c t) Ds v t
section
variable {h : PH} {N : Nat} {Ds : Nat → PD}
theorem tstep_ok {Q : PH → Prop} {p t k : Nat} {c : Nat → Nat} (sh : Shp h) (hp : 13 ≤ p) (o : okD N (Ds k)) (rE : rowE (qI h p) (Ds k)) (hN8 : 8 ≤ N) (hN : N ≤ 48) (a5 : qI h 7 5 = nI N) (ht : t < N) (s : TS h N Ds c) (ct : c t = k)
    (q : ∀ h1, Fg [8, 9, 10, 11] [] h h1 → TS h1 N Ds (fun s => if s = t then k + 1 else c s) → Q h1) : wp_X8_addStep 7 p (nI t) h (fun h14 => wp_X8_addPlace 7 p (nI t) h14 Q) := by
  refine addS_ok sh hp o rE hN a5 ht (fun h1 f1 K8 K9 K10 av1 => ?_)
  have sh1 := sh.fg f1 rfl
  have r1 : rowE (qI h1 p) (Ds k) := by
    have : qI h1 p = qI h p := by
      funext j
      exact (f1.ne (by simp; omega) j).1
    rw [this]; exact rE
  refine addPl_ok sh1 hp o r1 hN8 hN (by rw [(f1.ne (by decide) 5).1]; exact a5) ht (fun h2 f2 av2 => q h2 (f1.tr f2 rfl rfl) (fun u hu => ?_))
  obtain ⟨s8, s9, s10, s11⟩ := s u hu
  have av := av1.tr av2
  rw [(f2.ne (by decide) u).1, (f2.ne (by decide) u).1, K8 u (by omega), K9 u (by omega), s8, s9]
  dsimp only
  by_cases z : u = t
  · subst z
    rw [if_pos rfl, if_pos rfl, if_pos rfl, ct]
    refine ⟨rfl, rfl, fun l hl => ?_, fun v hv => ?_⟩
    · rw [(f2.ne (by decide) _).1, K10 l hl u (by omega), s10 l hl, ct, if_pos rfl]; rfl
    · rw [av v hv u (by omega), s11 v hv, ct, if_pos rfl]
      show vval N k Ds v u + _ = vval N k Ds v u + pval (Ds k) N v u
      dsimp only
      by_cases y : v = 5 ∨ v = 6
      · rw [if_pos y, if_pos y, Int32.add_zero]
      · rw [if_neg y, if_neg y]; simp
  · rw [if_neg z, if_neg z, if_neg z, Int32.add_zero, Int32.add_zero]
    refine ⟨rfl, rfl, fun l hl => ?_, fun v hv => ?_⟩
    · rw [(f2.ne (by decide) _).1, K10 l hl u (by omega), s10 l hl, if_neg z, Int32.add_zero]
    · rw [av v hv u (by omega), s11 v hv, if_neg z, Int32.add_zero]
end
theorem told_ok {h : PH} {e N : Nat} {d : DD} {Q : PH → Prop} (sh : Shp h) (he : 26 ≤ e) (c : DCl h e N d) (hN8 : 8 ≤ N) (hN : N ≤ 48) (hr : (drb d).getD 0 ≤ 999)
    (q : ∀ h1, Fg [8, 9, 10, 11, 12] [(7, 5), (7, 6)] h h1 → TG h1 N ((drb d).getD 0) (dn d) (dp d) → TV h1 N (dn d) (dp d) → Q h1) : wp_X8_tell 7 e h Q := by
  obtain ⟨⟨u1, u2, u3⟩, ⟨v1, v2, v3⟩, w1, w2⟩ := c
  intro h1 e1 h2 e2
  have f2 : Fg [] [(7, 5), (7, 6)] h h2 := by rw [e2, e1]; exact (Fg.sI _ _ _ _).tr (Fg.sI _ _ _ _) rfl rfl
  have sh2 := sh.fg f2 rfl
  have x5 : qI h2 7 5 = nI N := by rw [e2, e1]; simp only [qI_sI]; simp; exact v2
  have x6 : qI h2 7 6 = nI ((drb d).getD 0) := by
    rw [e2, rI_sI, if_pos rfl, up_eq, e1, rI_ne _ _ _ (by omega)]; exact v3
  refine clear_ok sh2 (fun h3 f3 c8 c9 c10 c11 c12 => ?_)
  have sh3 := sh2.fg f3 rfl
  -- what no loop touches
  have out : ∀ {g : PH}, Fg [8, 9, 10, 11, 12] [] h3 g → (∀ a, 13 ≤ a → ∀ j, qI g a j = qI h a j ∧ qR g a j = qR h a j) ∧ qI g 7 5 = nI N ∧ qI g 7 6 = nI ((drb d).getD 0) := fun {g} f => by
    have f23 : Fg [8, 9, 10, 11, 12] [] h2 g := f3.tr f rfl rfl
    refine ⟨fun a ha j => ?_, ?_, ?_⟩
    · have k1 := f23.ne (show a ∉ [8, 9, 10, 11, 12] by simp; omega) j
      have k2 := f2.2 a List.not_mem_nil j (by simp; omega)
      exact ⟨k1.1.trans k2.1, k1.2.2.trans k2.2.2⟩
    · rw [(f23.ne (by decide) 5).1]; exact x5
    · rw [(f23.ne (by decide) 6).1]; exact x6
  have lng : ∀ {g : PH}, Fg [8, 9, 10, 11, 12] [] h3 g → qL g (e + 1) = 12 := fun f => by rw [f.L, f3.L, f2.L]; exact u2
  have T0 : TS h3 N (dp d) (fun _ => 0) := fun t ht => ⟨c8 t (by omega), c9 t (by omega), fun l hl => c10 _ (by omega), fun v hv => c11 _ (by omega)⟩
  -- the sums
  have sums : ∀ g, Fg [8, 9, 10, 11] [] h3 g → TS g N (dp d) (fun _ => dn d) → qLoop (wp_X8_tell_77 7 Q) (0, g) := by
    intro g fg ts
    have shg := sh3.fg fg rfl
    have z12 : ∀ j, j < 8 → qI g 12 j = 0 := fun j hj => by rw [(fg.ne (by decide) j).1]; exact c12 j hj
    have og := out (fg.mono (U := [8, 9, 10, 11, 12]) (V := []) rfl)
    refine loopR 8 (fun v st => st.1 = nI v ∧ Fg [12] [] g st.2 ∧ (∀ j, j < v → qI st.2 12 j = qsum (fun t => vval N (dn d) (dp d) j t) N) ∧ ∀ j, v ≤ j → j < 8 → qI st.2 12 j = 0) (fun st => st.1.toNatClampNeg) ⟨rfl, Fg.rf _ _ _, fun j hj => absurd hj (Nat.not_lt_zero j), fun j _ hj => z12 j hj⟩ (fun v st hv p => by rw [p.1]; exact nI_clamp (by omega)) ?_ ?_
    · rintro v ⟨v0, g1⟩ hv ⟨s1, s2, s3, s4⟩ back hb
      dsimp only at s1 s2 s3 s4
      subst s1
      refine ⟨fun z => absurd z (nI_ge hv (by decide)), fun _ => ?_⟩
      refine loopR N (fun t st => st.1 = nI t ∧ Fg [12] [] g st.2 ∧ (∀ j, j < v → qI st.2 12 j = qsum (fun t => vval N (dn d) (dp d) j t) N) ∧ (∀ j, v + 1 ≤ j → j < 8 → qI st.2 12 j = 0) ∧ qI st.2 12 v = qsum (fun t => vval N (dn d) (dp d) v t) t) (fun st => st.1.toNatClampNeg) ⟨rfl, s2, s3, fun j hj => s4 j (by omega), s4 v (Nat.le_refl v) hv⟩ (fun t st ht p => by rw [p.1]; exact nI_clamp (by omega)) ?_ ?_
      · rintro t ⟨t0, g2⟩ ht ⟨r1, r2, r3, r4, r5⟩ back2 hb2
        dsimp only at r1 r2 r3 r4 r5
        subst r1
        have sh2' := shg.fg r2 rfl
        have p5 : qI g2 7 5 = nI N := by rw [(r2.ne (by decide) 5).1]; exact og.2.1
        have vin12 : vp_in (nI v) (qL g2 12) := by rw [sh2'.L 12 (n := 8) (by decide) rfl]; exact vp_in_nI hv (by decide)
        refine ⟨fun z => ?_, fun _ => ⟨12, sh2'.R 7 4 12 (by decide), vin12, 11, sh2'.R 7 3 11 (by decide), by rw [ix48, sh2'.L 11 (n := 384) (by decide) rfl]; exact vp_in_nI (by omega) (by decide), vin12, fun g3 e3 w ew => hb2 _ ?_⟩⟩
        · exfalso
          dsimp only at z
          rw [p5] at z
          exact nI_ge ht (by omega) z
        · dsimp only at e3
          rw [ix48, nI_clamp (by omega), nI_clamp (by omega), r5, (r2.ne (by decide) _).1, (ts t ht).2.2.2 v hv] at e3
          refine ⟨by rw [ew]; exact nI_1 t, by rw [e3]; exact r2.push _ _, fun j hj => ?_, fun j hj hj8 => ?_, ?_⟩
          · show qI g3 12 j = _
            rw [e3, rI_sI, if_pos rfl, up_ne _ _ (by omega)]; exact r3 j hj
          · show qI g3 12 j = _
            rw [e3, rI_sI, if_pos rfl, up_ne _ _ (by omega)]; exact r4 j hj hj8
          · show qI g3 12 v = _
            rw [e3, rI_sI, if_pos rfl, up_eq]; rfl
      · rintro ⟨t0, g2⟩ ⟨r1, r2, r3, r4, r5⟩ back2
        dsimp only at r1 r2 r3 r4 r5
        subst r1
        have p5 : qI g2 7 5 = nI N := by rw [(r2.ne (by decide) 5).1]; exact og.2.1
        refine ⟨fun _ w ew => hb _ ⟨by rw [ew]; exact nI_1 v, r2, fun j hj => ?_, fun j hj hj8 => r4 j hj hj8⟩, fun z => absurd (by dsimp only; rw [p5]; exact nI_le (Nat.le_refl _) (by omega)) z⟩
        rcases (show j < v ∨ j = v by omega) with y | y
        · exact r3 j y
        · rw [y]; exact r5
    · rintro ⟨v0, g1⟩ ⟨s1, s2, s3, s4⟩ back
      dsimp only at s1 s2 s3 s4
      subst s1
      have sh1 := shg.fg s2 rfl
      have f31 : Fg [8, 9, 10, 11, 12] [] h3 g1 := fg.tr s2 rfl rfl
      have o1 := out f31
      refine ⟨fun _ => q g1 ((f2.tr f3 (U := [8, 9, 10, 11, 12]) (V := [(7, 5), (7, 6)]) rfl rfl).tr f31 rfl rfl) ?_ ?_, fun z => absurd (nI_le (Nat.le_refl _) (by decide)) z⟩
      · refine ⟨⟨sh1.R 7 0 8 (by decide), sh1.L 8 (by decide) rfl, fun t ht => ?_⟩, ⟨sh1.R 7 1 9 (by decide), sh1.L 9 (by decide) rfl, fun t ht => ?_⟩, ⟨sh1.R 7 2 10 (by decide), sh1.L 10 (by decide) rfl, fun l hl t ht => ?_⟩, o1.2.1, o1.2.2, hN8, hN, hr, w1, fun k hk => (w2 k hk).2.1⟩
        · rw [(s2.ne (by decide) t).1]; exact (ts t ht).1
        · rw [(s2.ne (by decide) t).1]; exact (ts t ht).2.1
        · rw [(s2.ne (by decide) _).1]; exact (ts t ht).2.2.1 l hl
      · refine ⟨⟨sh1.R 7 3 11 (by decide), sh1.L 11 (by decide) rfl, fun v hv t ht => ?_⟩, ⟨sh1.R 7 4 12 (by decide), sh1.L 12 (by decide) rfl, fun v hv => s3 v hv⟩⟩
        rw [(s2.ne (by decide) _).1]; exact (ts t ht).2.2.2 v hv
  -- part by part
  refine loopR (dn d) (fun k st => st.1 = nI k ∧ Fg [8, 9, 10, 11] [] h3 st.2 ∧ TS st.2 N (dp d) (fun _ => k)) (fun st => st.1.toNatClampNeg) ⟨rfl, Fg.rf _ _ _, T0⟩ (fun k st hk p => by rw [p.1]; exact nI_clamp (by omega)) ?_ ?_
  · rintro k ⟨k0, g⟩ hk ⟨s1, s2, s3⟩ back hb
    dsimp only at s1 s2 s3
    subst s1
    have f5 : Fg [8, 9, 10, 11, 12] [] h3 g := s2.mono rfl
    have og := out f5
    have n1 : qI g e 1 = nI (dn d) := by rw [(og.1 e (by omega) 1).1]; exact v1
    refine ⟨fun z => ?_, fun _ => ⟨e + 1, by rw [(og.1 e (by omega) 0).2]; exact u1, by rw [lng f5]; exact vp_in_nI (by omega) (by decide), e + 2 + k, by dsimp only; rw [nI_clamp (by omega), (og.1 (e + 1) (by omega) k).2]; exact u3 k (by omega), ?_⟩⟩
    · exfalso
      dsimp only at z
      rw [n1] at z
      exact nI_ge hk (by omega) z
    · refine loopR N (fun t st => st.1 = nI t ∧ Fg [8, 9, 10, 11] [] h3 st.2 ∧ TS st.2 N (dp d) (fun s => if s < t then k + 1 else k)) (fun st => st.1.toNatClampNeg) ⟨rfl, s2, fun t ht => by dsimp only; rw [if_neg (Nat.not_lt_zero t)]; exact s3 t ht⟩ (fun t st ht p => by rw [p.1]; exact nI_clamp (by omega)) ?_ ?_
      · rintro t ⟨t0, g1⟩ ht ⟨r1, r2, r3⟩ back2 hb2
        dsimp only at r1 r2 r3
        subst r1
        have o1 := out (r2.mono (U := [8, 9, 10, 11, 12]) (V := []) rfl)
        have rE : rowE (qI g1 (e + 2 + k)) (dp d k) := by
          have : qI g1 (e + 2 + k) = qI h (e + 2 + k) := by
            funext j
            exact (o1.1 (e + 2 + k) (by omega) j).1
          rw [this]; exact (w2 k hk).1
        refine ⟨fun z => ?_, fun _ => tstep_ok (sh3.fg r2 rfl) (by omega) (w2 k hk).2.1 rE hN8 hN o1.2.1 ht r3 (if_neg (Nat.lt_irrefl t)) (fun g2 f2' ts2 w ew => hb2 _ ⟨by rw [ew]; exact nI_1 t, r2.tr f2' rfl rfl, fun s hs => ?_⟩)⟩
        · exfalso
          dsimp only at z
          rw [o1.2.1] at z
          exact nI_ge ht (by omega) z
        · have := ts2 s hs
          dsimp only at this ⊢
          by_cases y : s = t
          · rw [if_pos y] at this
            rw [if_pos (by omega)]; exact this
          · rw [if_neg y] at this
            by_cases y2 : s < t
            · rw [if_pos y2] at this
              rw [if_pos (by omega)]; exact this
            · rw [if_neg y2] at this
              rw [if_neg (by omega)]; exact this
      · rintro ⟨t0, g1⟩ ⟨r1, r2, r3⟩ back2
        dsimp only at r1 r2 r3
        subst r1
        have o1 := out (r2.mono (U := [8, 9, 10, 11, 12]) (V := []) rfl)
        refine ⟨fun _ w ew => hb _ ⟨by rw [ew]; exact nI_1 k, r2, fun t ht => ?_⟩, fun z => absurd (by dsimp only; rw [o1.2.1]; exact nI_le (Nat.le_refl _) (by omega)) z⟩
        have := r3 t ht
        dsimp only at this
        rw [if_pos ht] at this
        exact this
  · rintro ⟨k0, g⟩ ⟨s1, s2, s3⟩ back
    dsimp only at s1 s2 s3
    subst s1
    have f5 : Fg [8, 9, 10, 11, 12] [] h3 g := s2.mono rfl
    have n1 : qI g e 1 = nI (dn d) := by rw [((out f5).1 e (by omega) 1).1]; exact v1
    refine ⟨fun _ => sums g s2 s3, fun z => absurd (by dsimp only; rw [n1]; exact nI_le (Nat.le_refl _) (by omega)) z⟩

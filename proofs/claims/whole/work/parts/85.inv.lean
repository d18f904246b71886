/-! ===== PURE: the invariant at the start ===== -/
theorem lkI_no {a j : Nat} : ∀ {is : List (Nat × Nat × Int32)}, is.all (fun q => q.1 != a) = true → lkI is a j = 0
  | [], _ => rfl
  | q :: r, c => by
    rw [List.all_cons, Bool.and_eq_true] at c
    have y : ¬ a = q.1 := fun y => by
      have z := c.1
      rw [y] at z
      simp at z
    show (if a = q.1 ∧ j = q.2.1 then q.2.2 else lkI r a j) = 0
    rw [if_neg (fun z => y z.1)]; exact lkI_no c.2
theorem lkR_no {a j : Nat} : ∀ {rs : List (Nat × Nat × Option Nat)}, rs.all (fun q => q.1 != a) = true → lkR rs a j = none
  | [], _ => rfl
  | q :: r, c => by
    rw [List.all_cons, Bool.and_eq_true] at c
    have y : ¬ a = q.1 := fun y => by
      have z := c.1
      rw [y] at z
      simp at z
    show (if a = q.1 ∧ j = q.2.1 then q.2.2 else lkR r a j) = none
    rw [if_neg (fun z => y z.1)]; exact lkR_no c.2
theorem st_refs : ∀ q ∈ rfL, (decide (q.1 < 93) && ((!X_4 q.1 && (lkR (st_M ++ st_R) q.1 q.2.1 == some q.2.2)) || q == (26, 0, 27) || q == (40, 0, 41))) = true := by decide +kernel
theorem qsum_nil : ∀ n : Nat, qsum (fun _ => (0 : Int32)) n = 0
  | 0 => rfl
  | n + 1 => by
    show qsum (fun _ => (0 : Int32)) n + 0 = 0
    rw [qsum_nil n]; rfl
theorem start_inv {h : PH} {gI : Nat → Nat → Int32} {gR : Nat → Nat → Option Nat} (s : NS h 93 (st_M ++ st_R) st_I X_4 gI gR) (g1 : G1 gI gR) (g2 : G2 gR) (g3 : ∀ j, j < 70 → gI 65 j = -1) : Inv h := by
  have R : ∀ a j v, a < 93 → X_4 a = false → lkR (st_M ++ st_R) a j = v → qR h a j = v := fun a j v ha hx e => ((s.2.2.1 a ha hx).1 j).trans e
  have I : ∀ a j v, a < 93 → X_4 a = false → lkI st_I a j = v → qI h a j = v := fun a j v ha hx e => ((s.2.2.1 a ha hx).2.1 j).trans e
  have I0 : ∀ a j, a < 93 → X_4 a = false → st_I.all (fun q => q.1 != a) = true → qI h a j = 0 := fun a j ha hx c => I a j 0 ha hx (lkI_no c)
  have L : ∀ a n, a < 93 → lnL.getD a 0 = n → qL h a = n := fun a n ha e => (s.2.1 a ha).2.trans e
  have i26 : qI h 26 = gI 26 := (s.2.2.2 26 (by decide) rfl).1
  have r26 : qR h 26 = gR 26 := (s.2.2.2 26 (by decide) rfl).2
  have r27 : qR h 27 = gR 27 := (s.2.2.2 27 (by decide) rfl).2
  have r40 : qR h 40 = gR 40 := (s.2.2.2 40 (by decide) rfl).2
  have r41 : qR h 41 = gR 41 := (s.2.2.2 41 (by decide) rfl).2
  have neg : ∀ i, i < 70 → qI h 65 i = -1 := fun i hi => by rw [(s.2.2.2 65 (by decide) rfl).1]; exact g3 i hi
  have r23 : ∀ k, qR h 23 k = none := fun k => R 23 k none (by decide) rfl (lkR_no rfl)
  refine ⟨⟨by rw [s.1]; decide, fun a ha => s.2.1 a ha, fun q hq => ?_, fun j hj => ⟨by rw [r27]; exact g1.2.2.2.2 j hj, by rw [r41]; exact g2.2 j hj⟩⟩, ⟨0, by decide, I 1 1 _ (by decide) rfl (by decide), I 70 2 _ (by decide) rfl (by decide), fun j _ => by rw [I0 71 j (by decide) rfl rfl, I0 2 j (by decide) rfl rfl]; decide⟩, ?_, ⟨⟨fun _ => I 70 33 0 (by decide) rfl (by decide), fun _ => I 16 0 0 (by decide) rfl (by decide)⟩, fun c => absurd (I 70 33 0 (by decide) rfl (by decide)) c⟩, ⟨0, by decide, I 0 16 _ (by decide) rfl (by decide), I 70 36 _ (by decide) rfl (by decide), fun j hj => absurd hj (Nat.not_lt_zero j)⟩, ⟨54, 59, 0, ⟨R 0 12 _ (by decide) rfl (by decide), R 0 13 _ (by decide) rfl (by decide), Or.inl ⟨rfl, rfl⟩⟩, I 54 4 _ (by decide) rfl (by decide), I 70 44 _ (by decide) rfl (by decide), by decide, Or.inl rfl⟩, ⟨⟨0, by decide, I 18 5 _ (by decide) rfl (by decide), I 70 52 _ (by decide) rfl (by decide), fun k hk => absurd hk (Nat.not_lt_zero k)⟩, ⟨fun _ => I 70 54 0 (by decide) rfl (by decide), fun _ => I 18 4 0 (by decide) rfl (by decide)⟩, ((s.2.2.1 18 (by decide) rfl).2.2 6).trans ((s.2.2.1 70 (by decide) rfl).2.2 53).symm, (I 18 9 0 (by decide) rfl (by decide)).trans (I 70 56 0 (by decide) rfl (by decide)).symm⟩, ⟨fun _ => 0, fun k hk => Or.inl ⟨r23 k, I0 77 k (by decide) rfl rfl⟩, fun k k2 _ _ _ a => absurd (r23 k) a⟩, ⟨64, 67, ⟨R 0 14 _ (by decide) rfl (by decide), R 0 15 _ (by decide) rfl (by decide), Or.inl ⟨rfl, rfl⟩⟩, fun i hi => ⟨Or.inl (neg i hi), fun _ => neg i hi, fun c => absurd (I 70 58 0 (by decide) rfl (by decide)) c⟩⟩, ⟨0, by decide, I 0 17 _ (by decide) rfl (by decide), I 70 61 _ (by decide) rfl (by decide), fun j hj => absurd hj (Nat.not_lt_zero j)⟩, (I 3 6 0 (by decide) rfl (by decide)).trans (I 70 10 0 (by decide) rfl (by decide)).symm⟩
  · have c := st_refs q hq
    rw [Bool.and_eq_true, Bool.or_eq_true, Bool.or_eq_true, Bool.and_eq_true] at c
    obtain ⟨c1, (⟨c2, c3⟩ | c4) | c5⟩ := c
    · exact R _ _ _ (of_decide_eq_true c1) (by simpa using c2) (by simpa using c3)
    · have e : q = (26, 0, 27) := by simpa using c4
      subst e
      show qR h 26 0 = some 27
      rw [r26]; exact g1.2.2.2.1
    · have e : q = (40, 0, 41) := by simpa using c5
      subst e
      show qR h 40 0 = some 41
      rw [r40]; exact g2.1
  · refine ⟨24, 0, 0, fun _ => default, 26, 40, ⟨R 0 10 _ (by decide) rfl (by decide), R 0 11 _ (by decide) rfl (by decide), Or.inl ⟨rfl, rfl⟩⟩, ⟨by rw [i26]; exact g1.1, by rw [i26]; exact g1.2.1, by rw [i26]; exact g1.2.2.1, fun k hk => absurd hk (Nat.not_lt_zero k)⟩, ?_, ?_, ?_⟩
    · exact ⟨⟨R 70 14 _ (by decide) rfl (by decide), L 72 8 (by decide) rfl, by decide, by decide, R 70 17 _ (by decide) rfl (by decide), L 75 768 (by decide) rfl⟩, ⟨R 70 15 _ (by decide) rfl (by decide), L 73 8 (by decide) rfl, I 73 0 _ (by decide) rfl (by decide)⟩, ⟨R 70 16 _ (by decide) rfl (by decide), L 74 8 (by decide) rfl, I 74 0 _ (by decide) rfl (by decide)⟩, ⟨by decide, by decide, fun k hk => absurd hk (Nat.not_lt_zero k)⟩, Or.inl ⟨I 70 20 0 (by decide) rfl (by decide), rfl⟩⟩
    · exact ⟨⟨R 7 0 _ (by decide) rfl (by decide), L 8 48 (by decide) rfl, fun t _ => (I0 8 t (by decide) rfl rfl).trans rfl⟩, ⟨R 7 1 _ (by decide) rfl (by decide), L 9 48 (by decide) rfl, fun t _ => (I0 9 t (by decide) rfl rfl).trans rfl⟩, ⟨R 7 2 _ (by decide) rfl (by decide), L 10 192 (by decide) rfl, fun l _ t _ => (I0 10 _ (by decide) rfl rfl).trans rfl⟩, I 7 5 _ (by decide) rfl (by decide), I 7 6 _ (by decide) rfl (by decide), by decide, by decide, by decide, by decide, fun k hk => absurd hk (Nat.not_lt_zero k)⟩
    · exact ⟨⟨R 7 3 _ (by decide) rfl (by decide), L 11 384 (by decide) rfl, fun v _ t _ => (I0 11 _ (by decide) rfl rfl).trans rfl⟩, ⟨R 7 4 _ (by decide) rfl (by decide), L 12 8 (by decide) rfl, fun v _ => (I0 12 v (by decide) rfl rfl).trans (qsum_nil 24).symm⟩⟩
theorem start_all {h : PH} (hn : qn h = 0) : ∀ h1, h1 = qnew h 10 0 18 → wp_X11_init 0 h1 (fun h2 => ∀ h3, h3 = qnew h2 11 0 62 → wp_X12_init 70 h3 (fun h4 => ∀ h5, h5 = qnew h4 15 1 1 → Inv h5)) := by
  intro h1 e1
  have s0 : NS h 0 [] [] X_0 (fun _ _ => 0) (fun _ _ => none) := ⟨hn, fun a ha => absurd ha (Nat.not_lt_zero a), fun a ha => absurd ha (Nat.not_lt_zero a), fun a ha => absurd ha (Nat.not_lt_zero a)⟩
  have s := s0.new (k1 := 1) e1 rfl rfl rfl rfl rfl rfl
  refine start_office s (fun h2 gI gR s g1 g2 g3 h3 e3 => ?_)
  have s := s.new (k1 := 71) e3 rfl rfl rfl rfl rfl rfl
  refine start_model s (fun h4 s h5 e5 => ?_)
  exact start_inv (s.new (k1 := 93) e5 rfl rfl rfl rfl rfl rfl) g1 g2 g3

/-! ===== PURE: a new cell (an exception) leaves all as it was ===== -/
def SmC (h h1 : PH) : Prop := qn h ≤ qn h1 ∧ ∀ a, a < qn h → qK h1 a = qK h a ∧ qL h1 a = qL h a ∧ qI h1 a = qI h a ∧ qJ h1 a = qJ h a ∧ qR h1 a = qR h a
theorem SmC.new (h : PH) (c l z : Nat) : SmC h (qnew h c l z) := by
  refine ⟨by rw [nw_n]; omega, fun a ha => ⟨?_, ?_, ?_, ?_, ?_⟩⟩
  · rw [nw_K, if_neg (by omega)]
  · rw [nw_L, if_neg (by omega)]
  · rw [nw_I, if_neg (by omega)]
  · rw [nw_J, if_neg (by omega)]
  · rw [nw_R, if_neg (by omega)]
theorem SmC.ag {h h1 : PH} (s : SmC h h1) (hn : 93 ≤ qn h) {C : List Nat} {G : List (Nat × Nat)} (c : (C.all (fun a => decide (a < 93)) && G.all (fun g => decide (g.1 < 93))) = true) : Ag C G h h1 := by
  rw [Bool.and_eq_true, List.all_eq_true, List.all_eq_true] at c
  refine ⟨fun a ha => ?_, fun g hg => ?_⟩
  · have := of_decide_eq_true (c.1 a ha)
    obtain ⟨_, y2, y3, y4, y5⟩ := s.2 a (by omega)
    exact ⟨y2, y3, y4, y5⟩
  · have := of_decide_eq_true (c.2 g hg)
    obtain ⟨_, y2, y3, y4, y5⟩ := s.2 g.1 (by omega)
    exact ⟨y2, by rw [y3], by rw [y4], by rw [y5]⟩
theorem rf93 : ∀ q ∈ rfL, q.1 < 93 := by decide
theorem Inv.sm {h h1 : PH} (i : Inv h) (s : SmC h h1) : Inv h1 := by
  obtain ⟨i0, i1, i2, i3, i4, i5, i6, i7, i8, i9, i10⟩ := i
  have hn := i0.1
  have R : ∀ a, a < qn h → ∀ j, qR h1 a j = qR h a j := fun a ha j => by rw [(s.2 a ha).2.2.2.2]
  have I : ∀ a, a < qn h → ∀ j, qI h1 a j = qI h a j := fun a ha j => by rw [(s.2 a ha).2.2.1]
  refine ⟨⟨by have := s.1; omega, fun a ha => ?_, fun q hq => ?_, fun j hj => ?_⟩, i1.ag (s.ag hn rfl), i2.ag (s.ag hn rfl), i3.ag (s.ag hn rfl), i4.ag (s.ag hn rfl), i5.ag (s.ag hn rfl), i6.ag (s.ag hn rfl), ?_, i8.ag (s.ag hn rfl), i9.ag (s.ag hn rfl), ?_⟩
  · obtain ⟨y1, y2, _⟩ := s.2 a (by omega)
    rw [y1, y2]; exact i0.2.1 a ha
  · have := rf93 q hq
    rw [R q.1 (by omega)]; exact i0.2.2.1 q hq
  · rw [R 27 (by omega), R 41 (by omega)]; exact i0.2.2.2 j hj
  · obtain ⟨B, k1, k2⟩ := i7
    refine ⟨B, fun k hk => ?_, fun k k2' hk hk2 hne a b => k2 k k2' hk hk2 hne (by rw [← R 23 (by omega)]; exact a) (by rw [← R 23 (by omega)]; exact b)⟩
    rw [R 23 (by omega), I 77 (by omega)]
    rcases k1 k hk with z | ⟨z1, z2, z3, z4, N, rb, n, Ds, ⟨p1, p2, p3, p4, p5, p6, p7⟩, m1, m2, m3, m4, m5⟩
    · exact Or.inl z
    · refine Or.inr ⟨z1, z2, z3, by have := s.1; omega, N, rb, n, Ds, ⟨by rw [R _ (by omega)]; exact p1, by rw [(s.2 (B k + 1) (by omega)).2.1]; exact p2, fun j hj => by rw [R _ (by omega)]; exact p3 j hj, by rw [I _ (by omega)]; exact p4, by rw [I _ (by omega)]; exact p5, by rw [I _ (by omega)]; exact p6, fun q hq x hx hx1 => by rw [I _ (by omega)]; exact p7 q hq x hx hx1⟩, ?_⟩
      refine ⟨by rw [I 72 (by omega)]; exact m1, by rw [I 73 (by omega)]; exact m2, by rw [I 74 (by omega)]; exact m3, m4, fun q hq => ⟨(m5 q hq).1, fun x hx => ?_⟩⟩
      show qI h1 75 _ = _
      rw [I 75 (by omega)]
      exact (m5 q hq).2 x hx
  · show qI h1 3 6 = qI h1 70 10
    rw [I 3 (by omega), I 70 (by omega)]; exact i10
theorem Inv.new {h : PH} (i : Inv h) (c l z : Nat) : Inv (qnew h c l z) := i.sm (SmC.new h c l z)

/-! ===== PURE: the heap behind the two constructors keeps the invariant ===== -/
/-- k cells, of the kinds and lengths of part 30; those outside X told by lists, those of X by functions -/
def NS (h : PH) (k : Nat) (rs : List (Nat × Nat × Option Nat)) (is : List (Nat × Nat × Int32)) (X : Nat → Bool) (fI : Nat → Nat → Int32) (fR : Nat → Nat → Option Nat) : Prop := qn h = k ∧ (∀ a, a < k → qK h a = kdL.getD a 0 ∧ qL h a = lnL.getD a 0) ∧ (∀ a, a < k → X a = false → (∀ j, qR h a j = lkR rs a j) ∧ (∀ j, qI h a j = lkI is a j) ∧ ∀ j, qJ h a j = 0) ∧ ∀ a, a < k → X a = true → qI h a = fI a ∧ qR h a = fR a
section
variable {h h1 : PH} {k : Nat} {rs : List (Nat × Nat × Option Nat)} {is : List (Nat × Nat × Int32)} {X : Nat → Bool} {fI : Nat → Nat → Int32} {fR : Nat → Nat → Option Nat}
theorem NS.new {c l z k1 : Nat} (s : NS h k rs is X fI fR) (e : h1 = qnew h c l z) (hk : k + 1 = k1) (hK : kdL.getD k 0 = c) (hL : lnL.getD k 0 = l) (hX : X k = false) (c1 : rs.all (fun q => decide (q.1 < k)) = true) (c2 : is.all (fun q => decide (q.1 < k)) = true) : NS h1 k1 rs is X fI fR := by
  obtain ⟨n, s1, s2, s3⟩ := s
  subst e hk
  refine ⟨by rw [nw_n, n], fun a ha => ?_, fun a ha hx => ?_, fun a ha hx => ?_⟩
  · rw [nw_K, nw_L, n]
    by_cases y : a = k
    · subst y
      rw [if_pos rfl, if_pos rfl]
      exact ⟨hK.symm, hL.symm⟩
    · rw [if_neg y, if_neg y]
      exact s1 a (by omega)
  · rw [nw_R, nw_I, nw_J, n]
    by_cases y : a = k
    · subst y
      rw [if_pos rfl, if_pos rfl, if_pos rfl]
      exact ⟨fun j => (lkR_lt c1).symm, fun j => (lkI_lt c2).symm, fun _ => rfl⟩
    · rw [if_neg y, if_neg y, if_neg y]
      exact s2 a (by omega) hx
  · have y : a ≠ k := fun y => by rw [y, hX] at hx; cases hx
    rw [nw_R, nw_I, n, if_neg y, if_neg y]
    exact s3 a (by omega) hx
theorem NS.sR {x j : Nat} {v : Option Nat} (s : NS h k rs is X fI fR) (e : h1 = qsR h x j v) (hX : X x = false) : NS h1 k ((x, j, v) :: rs) is X fI fR := by
  obtain ⟨n, s1, s2, s3⟩ := s
  subst e
  refine ⟨n, s1, fun a ha hx => ?_, fun a ha hx => ?_⟩
  · obtain ⟨y3, y4, y5⟩ := s2 a ha hx
    refine ⟨fun i => ?_, y4, y5⟩
    rw [qR_sR]
    show _ = (if a = x ∧ i = j then v else lkR rs a i)
    rw [y3]
  · have y : a ≠ x := fun y => by rw [y, hX] at hx; cases hx
    rw [rR_sR, if_neg y]
    exact s3 a ha hx
theorem NS.sI {x j : Nat} {v : Int32} (s : NS h k rs is X fI fR) (e : h1 = qsI h x j v) (hX : X x = false) : NS h1 k rs ((x, j, v) :: is) X fI fR := by
  obtain ⟨n, s1, s2, s3⟩ := s
  subst e
  refine ⟨n, s1, fun a ha hx => ?_, fun a ha hx => ?_⟩
  · obtain ⟨y3, y4, y5⟩ := s2 a ha hx
    refine ⟨y3, fun i => ?_, y5⟩
    rw [qI_sI]
    show _ = (if a = x ∧ i = j then v else lkI is a i)
    rw [y4]
  · have y : a ≠ x := fun y => by rw [y, hX] at hx; cases hx
    rw [rI_sI, if_neg y]
    exact s3 a ha hx
theorem NS.sJ {x j : Nat} (s : NS h k rs is X fI fR) (e : h1 = qsJ h x j 0) (_ : X x = false) : NS h1 k rs is X fI fR := by
  obtain ⟨n, s1, s2, s3⟩ := s
  subst e
  refine ⟨n, s1, fun a ha hx => ?_, s3⟩
  obtain ⟨y3, y4, y5⟩ := s2 a ha hx
  refine ⟨y3, y4, fun i => ?_⟩
  rw [qJ_sJ, y5]
  split <;> rfl
/-- what is known of the cells of X -/
def G1 (fI : Nat → Nat → Int32) (fR : Nat → Nat → Option Nat) : Prop := fI 26 1 = 0 ∧ fI 26 2 = 24 ∧ fI 26 3 = 0 ∧ fR 26 0 = some 27 ∧ ∀ j, j < 12 → fR 27 j = some (28 + j)
def G2 (fR : Nat → Nat → Option Nat) : Prop := fR 40 0 = some 41 ∧ ∀ j, j < 12 → fR 41 j = some (42 + j)
theorem G1.to {gI : Nat → Nat → Int32} {gR : Nat → Nat → Option Nat} (g : G1 fI fR) (e1 : gI 26 = fI 26) (e2 : gR 26 = fR 26) (e3 : gR 27 = fR 27) : G1 gI gR := by
  unfold G1
  rw [e1, e2, e3]
  exact g
theorem G2.to {gR : Nat → Nat → Option Nat} (g : G2 fR) (e2 : gR 40 = fR 40) (e3 : gR 41 = fR 41) : G2 gR := by
  unfold G2
  rw [e2, e3]
  exact g
/-- a drawing's constructor: cells b to b + 13 become cells of X -/
theorem NS.di {b k1 : Nat} {Y : Nat → Bool} (s : NS h k rs is X fI fR) (di : DI h b k 12 h1) (hb : k = b + 1) (hk : b + 14 = k1) (hY : ∀ a, Y a = (X a || (decide (b ≤ a) && decide (a < b + 14)))) (hK : kdL.getD (b + 1) 0 = 18 ∧ lnL.getD (b + 1) 0 = 12) (hp : ∀ j, j < 12 → kdL.getD (b + 2 + j) 0 = 4 ∧ lnL.getD (b + 2 + j) 0 = 0) : NS h1 k1 rs is Y (qI h1) (qR h1) ∧ (∀ a, a < b → X a = true → qI h1 a = fI a ∧ qR h1 a = fR a) := by
  obtain ⟨n, s1, s2, s3⟩ := s
  obtain ⟨⟨d1, _⟩, d2, _, ⟨d4, d5⟩, d6⟩ := di
  subst hb hk
  refine ⟨⟨by omega, fun a ha => ?_, fun a ha hx => ?_, fun a _ _ => ⟨rfl, rfl⟩⟩, fun a ha hx => ?_⟩
  · rcases Nat.lt_or_ge a (b + 1) with y | y
    · obtain ⟨y1, y2, _⟩ := d2 a y
      rw [y1, y2]; exact s1 a y
    · rcases Nat.eq_or_lt_of_le y with y2 | y2
      · subst y2
        rw [d4, d5]; exact ⟨hK.1.symm, hK.2.symm⟩
      · obtain ⟨j, rfl⟩ : ∃ j, a = b + 2 + j := ⟨a - (b + 2), by omega⟩
        obtain ⟨_, z2, z3, _⟩ := d6 j (by omega)
        rw [show b + 1 + 1 + j = b + 2 + j by omega] at z2 z3
        rw [z2, z3]; exact ⟨(hp j (by omega)).1.symm, (hp j (by omega)).2.symm⟩
  · rw [hY, Bool.or_eq_false_iff] at hx
    have hab : a < b := by
      rcases Nat.lt_or_ge a b with y | y
      · exact y
      · have z := hx.2
        rw [decide_eq_true y, decide_eq_true (show a < b + 14 by omega)] at z
        cases z
    obtain ⟨_, _, y3, y4⟩ := d2 a (by omega)
    obtain ⟨y5, y6⟩ := y4 (by omega)
    rw [y3, y5, y6]
    exact s2 a (by omega) hx.1
  · obtain ⟨_, _, _, y4⟩ := d2 a (by omega)
    obtain ⟨y5, y6⟩ := y4 (by omega)
    rw [y5, y6]
    exact s3 a (by omega) hx
/-- a row that is filled: cell r becomes one of X -/
theorem NS.fr {r : Nat} {Y : Nat → Bool} (s : NS h k rs is X fI fR) (f : Fr [r] h h1) (hY : ∀ a, Y a = (X a || (a == r))) : NS h1 k rs is Y (qI h1) (qR h1) ∧ (∀ a, a < k → a ≠ r → X a = true → qI h1 a = fI a ∧ qR h1 a = fR a) := by
  obtain ⟨n, s1, s2, s3⟩ := s
  refine ⟨⟨by rw [f.1.1]; exact n, fun a ha => by rw [f.K, f.L]; exact s1 a ha, fun a ha hx => ?_, fun a _ _ => ⟨rfl, rfl⟩⟩, fun a ha hr hx => ?_⟩
  · rw [hY, Bool.or_eq_false_iff] at hx
    have hr : a ∉ [r] := fun y => by
      rw [List.mem_singleton] at y
      have z := hx.2
      rw [y] at z
      simp at z
    obtain ⟨y1, y2, y3⟩ := f.2 a hr
    rw [y1, y2, y3]
    exact s2 a ha hx.1
  · obtain ⟨y1, _, y3⟩ := f.2 a (fun y => hr (List.mem_singleton.mp y))
    rw [y1, y3]
    exact s3 a ha hx
end
theorem linit_ok {h : PH} {b r : Nat} {Q : PH → Prop} (hR : qR h b 0 = some r) (hL : qL h r = 70) (q : ∀ h1, Fr [r] h h1 → (∀ j, j < 70 → qI h1 r j = -1) → Q h1) : qLoop (wp_X3_init_27 b Q) (0, h) := by
  refine ⟨fun s => ∃ m, m ≤ 70 ∧ s.1 = nI m ∧ Fr [r] h s.2 ∧ qR s.2 b = qR h b ∧ ∀ j, j < m → qI s.2 r j = -1, fun s => 70 - s.1.toNatClampNeg, ⟨0, by omega, rfl, Fr.rf _ _, rfl, fun j hj => absurd hj (Nat.not_lt_zero j)⟩, ?_⟩
  rintro ⟨l, h1⟩ ⟨m, hm, e1, f, r1, e2⟩
  dsimp only at e1 f r1 e2
  show wb_X3_init_27 b Q _ l h1
  unfold wb_X3_init_27
  have hR1 : qR h1 b 0 = some r := by rw [r1]; exact hR
  have hL1 : qL h1 r = 70 := by rw [f.L]; exact hL
  refine ⟨r, hR1, fun c => ?_, fun c => ⟨r, hR1, ?_, fun h2 eh v ev => ?_⟩⟩
  · rw [hL1, e1] at c
    have : m = 70 := by
      rcases Nat.lt_or_ge m 70 with y | y
      · exact absurd c (nI_ge y (by decide))
      · omega
    subst this
    exact q h1 f e2
  · rw [hL1, e1] at c
    have hm7 : m < 70 := by
      rcases Nat.lt_or_ge m 70 with y | y
      · exact y
      · exact absurd (nI_le y (by omega)) c
    rw [hL1, e1]; exact vp_in_nI hm7 (by decide)
  · rw [hL1, e1] at c
    have hm7 : m < 70 := by
      rcases Nat.lt_or_ge m 70 with y | y
      · exact y
      · exact absurd (nI_le y (by omega)) c
    rw [e1, nI_clamp (by omega)] at eh
    have ev2 : v = nI (m + 1) := by rw [ev, e1]; exact nI_add _ 1
    refine ⟨⟨m + 1, by omega, ev2, ?_, ?_, fun j hj => ?_⟩, ?_⟩
    · rw [eh]
      exact f.tr (Fr.sI _ _ _ _) (fun x hx => hx) (fun x hx => hx)
    · rw [eh]; exact r1
    · rw [eh, qI_sI]
      by_cases y : j = m
      · rw [if_pos ⟨rfl, y⟩]
      · rw [if_neg (fun z => y z.2)]
        exact e2 j (by omega)
    · show 70 - v.toNatClampNeg < 70 - l.toNatClampNeg
      rw [ev2, e1, nI_clamp (by omega), nI_clamp (by omega)]
      omega

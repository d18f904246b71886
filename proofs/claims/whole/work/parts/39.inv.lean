/-! ===== PURE: what ties the class's cells to the model's ===== -/
def shpC (S : List Nat) (F : List (Nat × Nat)) : Bool := rfL.all (fun q => fno S F q.1 q.2.1) && (List.range 12).all (fun j => fno S F 27 j && fno S F 41 j)
theorem Shp.fg {S : List Nat} {F : List (Nat × Nat)} {h h1 : PH} (s : Shp h) (f : Fg S F h h1) (c : shpC S F = true) : Shp h1 := by
  unfold shpC at c
  rw [Bool.and_eq_true, List.all_eq_true, List.all_eq_true] at c
  obtain ⟨s1, s2, s3, s4⟩ := s
  refine ⟨by rw [f.1.1]; exact s1, fun a ha => ⟨by rw [f.K]; exact (s2 a ha).1, by rw [f.L]; exact (s2 a ha).2⟩, fun q hq => by rw [f.R (c.1 q hq)]; exact s3 q hq, fun j hj => ?_⟩
  have := c.2 j (List.mem_range.mpr hj)
  rw [Bool.and_eq_true] at this
  exact ⟨by rw [f.R this.1]; exact (s4 j hj).1, by rw [f.R this.2]; exact (s4 j hj).2⟩
def ITape (h : PH) : Prop := ∃ len, len ≤ 640 ∧ qI h 1 1 = nI len ∧ qI h 70 2 = nI len ∧ ∀ j, j < 640 → qI h 71 j = qI h 2 j &&& 255
theorem ITape.ag {h h1 : PH} (i : ITape h) (f : Ag [2, 71] [(1, 1), (70, 2)] h h1) : ITape h1 := by
  obtain ⟨len, a, b, c, d⟩ := i
  exact ⟨len, a, by rw [f.i rfl]; exact b, by rw [f.i rfl]; exact c, fun j hj => by rw [f.I rfl, f.I rfl]; exact d j hj⟩
/-- what a part adds to VALUE v at t -/
def pval (D : PD) (N v t : Nat) : Int32 :=
  if v = 5 then (if 0 < gv D N t 0 then gv D N t 0 else 0)
  else if v = 6 then (if gv D N t 0 < 0 then -(gv D N t 0) else 0)
  else if v = 4 then (if dk D = 1 ∧ pWithin (cRow D) (nI ((dpin D + t) % N)) = true then 1 else 0)
  else if dk D = 0 then
    (if v = 7 then pHigh (nI ((dpin D + t) % N)) (nI N)
     else if (if v % 2 = 0 then N / 2 < (dpin D + t) % N else 0 < (dpin D + t) % N ∧ (dpin D + t) % N < N / 2) then (if v < 2 then nI (dw D) * pArm (cRow D) (nI ((dpin D + t) % N)) else 1)
     else 0)
  else 0
def vval (N n : Nat) (Ds : Nat → PD) (v t : Nat) : Int32 := qsum (fun k => pval (Ds k) N v t) n
def TV (h : PH) (N n : Nat) (Ds : Nat → PD) : Prop := (qR h 7 3 = some 11 ∧ qL h 11 = 384 ∧ ∀ v, v < 8 → ∀ t, t < N → qI h 11 (48 * v + t) = vval N n Ds v t) ∧ (qR h 7 4 = some 12 ∧ qL h 12 = 8 ∧ ∀ v, v < 8 → qI h 12 v = qsum (fun t => vval N n Ds v t) N)
theorem TV.ag {h h1 : PH} {N n : Nat} {Ds : Nat → PD} (d : TV h N n Ds) (f : Ag [11, 12] [(7, 3), (7, 4)] h h1) : TV h1 N n Ds := by
  obtain ⟨⟨a1, a2, a3⟩, ⟨b1, b2, b3⟩⟩ := d
  exact ⟨⟨by rw [f.r rfl]; exact a1, by rw [f.L rfl]; exact a2, fun v hv t ht => by rw [f.I rfl]; exact a3 v hv t ht⟩, ⟨by rw [f.r rfl]; exact b1, by rw [f.L rfl]; exact b2, fun v hv => by rw [f.I rfl]; exact b3 v hv⟩⟩
theorem TG.ag {h h1 : PH} {N rb n : Nat} {Ds : Nat → PD} (g : TG h N rb n Ds) (f : Ag [8, 9, 10] [(7, 0), (7, 1), (7, 2), (7, 5), (7, 6)] h h1) : TG h1 N rb n Ds := by
  obtain ⟨⟨a1, a2, a3⟩, ⟨b1, b2, b3⟩, ⟨c1, c2, c3⟩, d1, d2, d3⟩ := g
  exact ⟨⟨by rw [f.r rfl]; exact a1, by rw [f.L rfl]; exact a2, fun t ht => by rw [f.I rfl]; exact a3 t ht⟩, ⟨by rw [f.r rfl]; exact b1, by rw [f.L rfl]; exact b2, fun t ht => by rw [f.I rfl]; exact b3 t ht⟩, ⟨by rw [f.r rfl]; exact c1, by rw [f.L rfl]; exact c2, fun l hl t ht => by rw [f.I rfl]; exact c3 l hl t ht⟩, by rw [f.i rfl]; exact d1, by rw [f.i rfl]; exact d2, d3⟩
theorem Ag.sub {C C2 : List Nat} {G G2 : List (Nat × Nat)} {h h1 : PH} (f : Ag C G h h1) (c1 : C2.all (fun a => C.contains a) = true) (c2 : G2.all (fun g => G.contains g || C.contains g.1) = true) : Ag C2 G2 h h1 := by
  rw [List.all_eq_true] at c1 c2
  refine ⟨fun a ha => f.1 a (by have := c1 a ha; simpa using this), fun g hg => ?_⟩
  have := c2 g hg
  rw [Bool.or_eq_true] at this
  rcases this with z | z
  · exact f.2 g (by simpa using z)
  · obtain ⟨x1, x2, x3, x4⟩ := f.1 g.1 (by simpa using z)
    exact ⟨x1, by rw [x2], by rw [x3], by rw [x4]⟩
/-- the drawing d of the class -/
def DrC (h : PH) (d N rb n : Nat) (Ds : Nat → PD) : Prop := qI h d 1 = nI n ∧ qI h d 2 = nI N ∧ qI h d 3 = nI rb ∧ ∀ k, k < n → rowE (qI h (d + 2 + k)) (Ds k)
def two (h : PH) (j k a b d e : Nat) : Prop := qR h 0 j = some d ∧ qR h 0 k = some e ∧ (d = a ∧ e = b ∨ d = b ∧ e = a)
def drcL : List Nat := [26, 28, 29, 30, 31, 32, 33, 34, 35, 36, 37, 38, 39, 40, 42, 43, 44, 45, 46, 47, 48, 49, 50, 51, 52, 53]
def IDd (h : PH) (N rb n : Nat) (Ds : Nat → PD) (d e : Nat) : Prop := two h 10 11 26 40 d e ∧ DrC h d N rb n Ds ∧ DrL h N rb n Ds ∧ TG h N rb n Ds ∧ TV h N n Ds
def IDr (h : PH) : Prop := ∃ N rb n Ds d e, IDd h N rb n Ds d e
theorem IDd.ag {h h1 : PH} {N rb n d e : Nat} {Ds : Nat → PD} (i : IDd h N rb n Ds d e) (f : Ag (drcL ++ [8, 9, 10, 11, 12, 73, 74, 75]) [(0, 10), (0, 11), (7, 0), (7, 1), (7, 2), (7, 3), (7, 4), (7, 5), (7, 6), (70, 14), (70, 15), (70, 16), (70, 17), (70, 20), (72, 0)] h h1) : IDd h1 N rb n Ds d e := by
  obtain ⟨⟨a1, a2, a3⟩, ⟨b1, b2, b3, b4⟩, c1, c2, c3⟩ := i
  have hn : n ≤ 12 := c1.2.2.2.1.1
  have hd : ∀ x, (x < 4 ∨ 2 ≤ x ∧ x < 2 + n) → x ≠ 1 → ∀ j, qI h1 (d + x) j = qI h (d + x) j ∨ ¬ (x = 0 ∨ 2 ≤ x) := fun x hx h1' j => by
    rcases Nat.lt_or_ge x 1 with z | z
    · have : x = 0 := by omega
      subst this
      left
      rcases a3 with q | q <;> (rw [q.1]; exact f.I rfl j)
    · left
      have hx2 : 2 ≤ x ∧ x < 14 := by omega
      rcases a3 with q | q
      · rw [q.1]
        rw [(f.1 (26 + x) (by
          apply List.mem_append_left
          rcases (show x = 2 ∨ x = 3 ∨ x = 4 ∨ x = 5 ∨ x = 6 ∨ x = 7 ∨ x = 8 ∨ x = 9 ∨ x = 10 ∨ x = 11 ∨ x = 12 ∨ x = 13 by omega) with y | y | y | y | y | y | y | y | y | y | y | y <;> rw [y] <;> decide)).2.1]
      · rw [q.1]
        rw [(f.1 (40 + x) (by
          apply List.mem_append_left
          rcases (show x = 2 ∨ x = 3 ∨ x = 4 ∨ x = 5 ∨ x = 6 ∨ x = 7 ∨ x = 8 ∨ x = 9 ∨ x = 10 ∨ x = 11 ∨ x = 12 ∨ x = 13 by omega) with y | y | y | y | y | y | y | y | y | y | y | y <;> rw [y] <;> decide)).2.1]
  have hd0 : ∀ j, qI h1 d j = qI h d j := fun j => by
    have := hd 0 (by omega) (by omega) j
    rcases this with z | z
    · exact z
    · exact absurd (Or.inl rfl) z
  refine ⟨⟨by rw [f.r rfl]; exact a1, by rw [f.r rfl]; exact a2, a3⟩, ⟨by rw [hd0]; exact b1, by rw [hd0]; exact b2, by rw [hd0]; exact b3, fun k hk i hi hi1 => ?_⟩, c1.ag (f.sub rfl rfl), c2.ag (f.sub rfl rfl), c3.ag (f.sub rfl rfl)⟩
  have := hd (2 + k) (by omega) (by omega) i
  rcases this with z | z
  · rw [Nat.add_assoc, z, ← Nat.add_assoc]; exact b4 k hk i hi hi1
  · exact absurd (Or.inr (by omega)) z
theorem IDr.ag {h h1 : PH} (i : IDr h) (f : Ag (drcL ++ [8, 9, 10, 11, 12, 73, 74, 75]) [(0, 10), (0, 11), (7, 0), (7, 1), (7, 2), (7, 3), (7, 4), (7, 5), (7, 6), (70, 14), (70, 15), (70, 16), (70, 17), (70, 20), (72, 0)] h h1) : IDr h1 := by
  obtain ⟨N, rb, n, Ds, d, e, i⟩ := i
  exact ⟨N, rb, n, Ds, d, e, i.ag f⟩
def IRun (h : PH) : Prop := (qI h 16 0 = 0 ↔ qI h 70 33 = 0) ∧ (¬ qI h 70 33 = 0 → qI h 16 1 = qI h 70 29 ∧ qI h 16 2 = qI h 70 30 ∧ qI h 16 4 = qI h 70 31 ∧ qI h 16 5 = qI h 70 32 ∧ qI h 16 6 = qI h 70 34)
theorem IRun.ag {h h1 : PH} (i : IRun h) (f : Ag [16] [(70, 29), (70, 30), (70, 31), (70, 32), (70, 33), (70, 34)] h h1) : IRun h1 := by
  unfold IRun
  have h16 : ∀ j, qI h1 16 j = qI h 16 j := fun j => f.I rfl j
  simp only [h16]
  rw [f.i (a := 70) (j := 33) rfl, f.i (a := 70) (j := 29) rfl, f.i (a := 70) (j := 30) rfl, f.i (a := 70) (j := 31) rfl, f.i (a := 70) (j := 32) rfl, f.i (a := 70) (j := 34) rfl]
  exact i
def IStand (h : PH) : Prop := ∃ c, c ≤ 48 ∧ qI h 0 16 = nI c ∧ qI h 70 36 = nI c ∧ ∀ j, j < c → qI h 24 j = qI h 80 j
theorem IStand.ag {h h1 : PH} (i : IStand h) (f : Ag [24, 80] [(0, 16), (70, 36)] h h1) : IStand h1 := by
  obtain ⟨c, a, b, d, e⟩ := i
  exact ⟨c, a, by rw [f.i rfl]; exact b, by rw [f.i rfl]; exact d, fun j hj => by rw [f.I rfl, f.I rfl]; exact e j hj⟩
/-- a node: what, one, other, rule -/
abbrev ND := Nat × Nat × Nat × Nat
def nw (x : ND) : Nat := x.1
def na (x : ND) : Nat := x.2.1
def nb (x : ND) : Nat := x.2.2.1
def nr (x : ND) : Nat := x.2.2.2
def isOp (m : Nat) : Prop := m < 8 ∨ 100 ≤ m ∧ m ≤ 1099
def ndOk (x : ND) (k : Nat) (S S2 : List Nat) : Prop := (nw x = 4 ∧ isOp (na x) ∧ isOp (nb x) ∧ (nr x = 60 ∨ nr x = 61 ∨ nr x = 62) ∧ S2 = k :: S) ∨ (nw x = 1 ∧ ∃ r, S = na x :: r ∧ S2 = k :: r) ∨ ((nw x = 2 ∨ nw x = 3) ∧ ∃ r, S = nb x :: na x :: r ∧ S2 = k :: r)
def cop (m : Nat) : Int32 := if 100 ≤ m then nI (m - 100) else -1 - nI m
def cdeed (x : ND) : Int32 := if nw x = 4 then nI (nr x) else if nw x = 1 then 0 else if nw x = 2 then 1 else 2
def CLC (h : PH) (c sz : Nat) (nd : Nat → ND) : Prop := ∀ k, k < sz → qI h (c + 1) k = cdeed (nd k) ∧ (nw (nd k) = 4 → qI h (c + 2) k = cop (na (nd k)) ∧ qI h (c + 3) k = cop (nb (nd k)))
def CLM (h : PH) (off sz : Nat) (nd : Nat → ND) : Prop := ∀ k, k < sz → qI h 81 (off + k) = nI (nw (nd k)) ∧ qI h 82 (off + k) = nI (na (nd k)) ∧ qI h 83 (off + k) = nI (nb (nd k)) ∧ qI h 84 (off + k) = nI (nr (nd k))
def IClaim (h : PH) : Prop := ∃ c e kd, two h 12 13 54 59 c e ∧ qI h c 4 = nI kd ∧ qI h 70 44 = nI kd ∧ kd < 4 ∧ (kd = 0 ∨ ∃ (sz top : Nat) (nd : Nat → ND) (S : Nat → List Nat), sz ≤ 40 ∧ qI h c 5 = nI sz ∧ qI h 70 45 = nI top ∧ S 0 = [] ∧ S sz = [top] ∧ (∀ k, k < sz → ndOk (nd k) k (S k) (S (k + 1))) ∧ CLC h c sz nd ∧ CLM h 0 sz nd)
theorem IClaim.ag {h h1 : PH} (i : IClaim h) (f : Ag [54, 55, 56, 57, 59, 60, 61, 62, 81, 82, 83, 84] [(0, 12), (0, 13), (70, 44), (70, 45)] h h1) : IClaim h1 := by
  obtain ⟨c, e, kd, ⟨t1, t2, t3⟩, a, b, k4, d⟩ := i
  have hc : ∀ x, x < 4 → ∀ j, qI h1 (c + x) j = qI h (c + x) j := fun x hx j => by
    rcases t3 with q | q <;> rw [q.1] <;> (rcases (show x = 0 ∨ x = 1 ∨ x = 2 ∨ x = 3 by omega) with y | y | y | y <;> rw [y] <;> exact f.I rfl j)
  refine ⟨c, e, kd, ⟨by rw [f.r rfl]; exact t1, by rw [f.r rfl]; exact t2, t3⟩, by have := hc 0 (by decide) 4; rw [show qI h1 c 4 = qI h c 4 from this]; exact a, by rw [f.i rfl]; exact b, k4, ?_⟩
  rcases d with d | ⟨sz, top, nd, S, d1, d2, d3, d4, d5, d6, d7, d8⟩
  · exact Or.inl d
  · refine Or.inr ⟨sz, top, nd, S, d1, by have := hc 0 (by decide) 5; rw [show qI h1 c 5 = qI h c 5 from this]; exact d2, by rw [f.i rfl]; exact d3, d4, d5, d6, fun k hk => ?_, fun k hk => ?_⟩
    · rw [hc 1 (by decide), hc 2 (by decide), hc 3 (by decide)]; exact d7 k hk
    · rw [f.I rfl, f.I rfl, f.I rfl, f.I rfl]; exact d8 k hk
def IFind (h : PH) : Prop := (∃ T, T ≤ 100000 ∧ qI h 18 5 = nI T ∧ qI h 70 52 = nI (min T 200) ∧ ∀ k, k < T → k < 200 → qI h 20 k = qI h 86 k ∧ qI h 21 k = qI h 87 k) ∧ (qI h 18 4 = 0 ↔ qI h 70 54 = 0) ∧ qJ h 18 6 = qJ h 70 53 ∧ qI h 18 9 = qI h 70 56
theorem IFind.ag {h h1 : PH} (i : IFind h) (f : Ag [20, 21, 86, 87] [(18, 4), (18, 5), (18, 6), (18, 9), (70, 52), (70, 53), (70, 54), (70, 56)] h h1) : IFind h1 := by
  obtain ⟨⟨T, a, b, c, d⟩, e, g, k⟩ := i
  exact ⟨⟨T, a, by rw [f.i rfl]; exact b, by rw [f.i rfl]; exact c, fun k hk hk2 => by rw [f.I rfl, f.I rfl, f.I rfl, f.I rfl]; exact d k hk hk2⟩, by rw [f.i rfl, f.i rfl]; exact e, by rw [f.j rfl, f.j rfl]; exact g, by rw [f.i rfl, f.i rfl]; exact k⟩
def KpC (h : PH) (b N rb n : Nat) (Ds : Nat → PD) : Prop := qR h b 0 = some (b + 1) ∧ qL h (b + 1) = 12 ∧ (∀ j, j < 12 → qR h (b + 1) j = some (b + 2 + j)) ∧ DrC h b N rb n Ds
def KpM (h : PH) (k N rb n : Nat) (Ds : Nat → PD) : Prop := qI h 72 (2 + k) = nI N ∧ qI h 73 (2 + k) = nI rb ∧ qI h 74 (2 + k) = nI n ∧ (8 ≤ N ∧ N ≤ 48 ∧ n ≤ 12 ∧ rb ≤ 999) ∧ ∀ i, i < n → okD N (Ds i) ∧ rowM (mrow h (2 + k) i) (Ds i)
def IKept (h : PH) : Prop := ∃ B : Nat → Nat, (∀ k, k < 6 → (qR h 23 k = none ∧ qI h 77 k = 0) ∨ (qR h 23 k = some (B k) ∧ qI h 77 k = 1 ∧ 93 ≤ B k ∧ B k + 14 ≤ qn h ∧ ∃ N rb n Ds, KpC h (B k) N rb n Ds ∧ KpM h k N rb n Ds)) ∧ ∀ k k2, k < 6 → k2 < 6 → k ≠ k2 → qR h 23 k ≠ none → qR h 23 k2 ≠ none → B k + 14 ≤ B k2 ∨ B k2 + 14 ≤ B k
def low (S : List Nat) (F : List (Nat × Nat)) : Bool := S.all (fun a => a < 93) && F.all (fun g => g.1 < 93)
theorem low_S {S : List Nat} {F : List (Nat × Nat)} (c : low S F = true) {a : Nat} (ha : 93 ≤ a) : a ∉ S ∧ ∀ j, (a, j) ∉ F := by
  unfold low at c
  rw [Bool.and_eq_true, List.all_eq_true, List.all_eq_true] at c
  refine ⟨fun q => ?_, fun j q => ?_⟩
  · have := c.1 a q
    simp at this; omega
  · have := c.2 (a, j) q
    simp at this; omega
theorem Fg.hi {S : List Nat} {F : List (Nat × Nat)} {h h1 : PH} (f : Fg S F h h1) (c : low S F = true) {a : Nat} (ha : 93 ≤ a) (j : Nat) : qI h1 a j = qI h a j ∧ qJ h1 a j = qJ h a j ∧ qR h1 a j = qR h a j := f.2 a (low_S c ha).1 j ((low_S c ha).2 j)
def ikG : List (Nat × Nat) := [(72, 2), (72, 3), (72, 4), (72, 5), (72, 6), (72, 7), (73, 2), (73, 3), (73, 4), (73, 5), (73, 6), (73, 7), (74, 2), (74, 3), (74, 4), (74, 5), (74, 6), (74, 7)]
theorem ikG_in {a k : Nat} (ha : a = 72 ∨ a = 73 ∨ a = 74) (hk : k < 6) : ikG.contains (a, 2 + k) = true := by
  rcases ha with rfl | rfl | rfl <;> rcases (show k = 0 ∨ k = 1 ∨ k = 2 ∨ k = 3 ∨ k = 4 ∨ k = 5 by omega) with rfl | rfl | rfl | rfl | rfl | rfl <;> rfl
theorem IKept.fg {S : List Nat} {F : List (Nat × Nat)} {h h1 : PH} (i : IKept h) (f : Fg S F h h1) (c : (low S F && fag S F [23, 75, 77] ikG) = true) : IKept h1 := by
  rw [Bool.and_eq_true] at c
  obtain ⟨c1, c2⟩ := c
  have g := f.ag c2
  obtain ⟨B, i1, i2⟩ := i
  refine ⟨B, fun k hk => ?_, fun k k2 hk hk2 hne a b => i2 k k2 hk hk2 hne (by rw [← g.R rfl]; exact a) (by rw [← g.R rfl]; exact b)⟩
  rw [g.R rfl, g.I rfl]
  rcases i1 k hk with z | ⟨z1, z2, z3, z4, N, rb, n, Ds, ⟨p1, p2, p3, p4, p5, p6, p7⟩, m1, m2, m3, m4, m5⟩
  · exact Or.inl z
  · refine Or.inr ⟨z1, z2, z3, by rw [f.1.1]; exact z4, N, rb, n, Ds, ⟨by rw [(f.hi c1 z3 _).2.2]; exact p1, by rw [f.L]; exact p2, fun j hj => by rw [(f.hi c1 (by omega) _).2.2]; exact p3 j hj, by rw [(f.hi c1 z3 _).1]; exact p4, by rw [(f.hi c1 z3 _).1]; exact p5, by rw [(f.hi c1 z3 _).1]; exact p6, fun q hq x hx hx1 => by rw [(f.hi c1 (by omega) _).1]; exact p7 q hq x hx hx1⟩, ?_⟩
    refine ⟨by rw [g.i (ikG_in (by omega) hk)]; exact m1, by rw [g.i (ikG_in (by omega) hk)]; exact m2, by rw [g.i (ikG_in (by omega) hk)]; exact m3, m4, fun q hq => ⟨(m5 q hq).1, fun x hx => ?_⟩⟩
    show qI h1 75 _ = _
    rw [g.I rfl]
    exact (m5 q hq).2 x hx
def isLd (x : Int32) : Prop := x = -1 ∨ ∃ v, v < 10 ∧ x = nI v
def IInv (h : PH) : Prop := ∃ c e, two h 14 15 64 67 c e ∧ ∀ i, i < 70 → isLd (qI h (c + 1) i) ∧ (qI h 70 58 = 0 → qI h (c + 1) i = -1) ∧ (¬ qI h 70 58 = 0 → qI h 89 i = qI h (c + 1) i)
theorem IInv.ag {h h1 : PH} (i : IInv h) (f : Ag [65, 68, 89] [(0, 14), (0, 15), (70, 58)] h h1) : IInv h1 := by
  obtain ⟨c, e, ⟨t1, t2, t3⟩, d⟩ := i
  have hc : ∀ j, qI h1 (c + 1) j = qI h (c + 1) j := fun j => by
    rcases t3 with q | q <;> rw [q.1] <;> exact f.I rfl j
  exact ⟨c, e, ⟨by rw [f.r rfl]; exact t1, by rw [f.r rfl]; exact t2, t3⟩, fun i hi => by rw [hc, f.I (a := 89) rfl, f.i (a := 70) (j := 58) rfl]; exact d i hi⟩
def ISay (h : PH) : Prop := ∃ c, c ≤ 10 ∧ qI h 0 17 = nI c ∧ qI h 70 61 = nI c ∧ ∀ j, j < c → qI h 25 j = qI h 91 j
theorem ISay.ag {h h1 : PH} (i : ISay h) (f : Ag [25, 91] [(0, 17), (70, 61)] h h1) : ISay h1 := by
  obtain ⟨c, a, b, d, e⟩ := i
  exact ⟨c, a, by rw [f.i rfl]; exact b, by rw [f.i rfl]; exact d, fun j hj => by rw [f.I rfl, f.I rfl]; exact e j hj⟩
def IFault (h : PH) : Prop := qI h 3 6 = qI h 70 10
theorem IFault.ag {h h1 : PH} (i : IFault h) (f : Ag [] [(3, 6), (70, 10)] h h1) : IFault h1 := by
  unfold IFault
  rw [f.i rfl, f.i rfl]; exact i
def Inv (h : PH) : Prop := Shp h ∧ ITape h ∧ IDr h ∧ IRun h ∧ IStand h ∧ IClaim h ∧ IFind h ∧ IKept h ∧ IInv h ∧ ISay h ∧ IFault h
/-- what a call may do to the room -/
def Rm (h h1 : PH) : Prop := qn h ≤ qn h1 ∧ qn h1 ≤ qn h + 14 ∧ qz h1 ≤ qz h + 136
theorem Fg.rm {S : List Nat} {F : List (Nat × Nat)} {h h1 : PH} (f : Fg S F h h1) : Rm h h1 := ⟨by rw [f.1.1]; omega, by rw [f.1.1]; omega, by rw [f.1.2.1]; omega⟩
/-- both have answered alike -/
def Both (h : PH) (r r2 : Int32) (h2 : PH) : Prop := r = r2 ∧ Inv h2 ∧ Rm h h2
theorem Inv.fg {S : List Nat} {F : List (Nat × Nat)} {h h1 : PH} (i : Inv h) (f : Fg S F h h1) (c0 : shpC S F = true) (c1 : fag S F [2, 71] [(1, 1), (70, 2)] = true) (c2 : fag S F (drcL ++ [8, 9, 10, 11, 12, 73, 74, 75]) [(0, 10), (0, 11), (7, 0), (7, 1), (7, 2), (7, 3), (7, 4), (7, 5), (7, 6), (70, 14), (70, 15), (70, 16), (70, 17), (70, 20), (72, 0)] = true) (c3 : fag S F [16] [(70, 29), (70, 30), (70, 31), (70, 32), (70, 33), (70, 34)] = true) (c4 : fag S F [24, 80] [(0, 16), (70, 36)] = true) (c5 : fag S F [54, 55, 56, 57, 59, 60, 61, 62, 81, 82, 83, 84] [(0, 12), (0, 13), (70, 44), (70, 45)] = true) (c6 : fag S F [20, 21, 86, 87] [(18, 4), (18, 5), (18, 6), (18, 9), (70, 52), (70, 53), (70, 54), (70, 56)] = true) (c7 : (low S F && fag S F [23, 75, 77] ikG) = true) (c8 : fag S F [65, 68, 89] [(0, 14), (0, 15), (70, 58)] = true) (c9 : fag S F [25, 91] [(0, 17), (70, 61)] = true) (c10 : fag S F [] [(3, 6), (70, 10)] = true) : Inv h1 := by
  obtain ⟨i0, i1, i2, i3, i4, i5, i6, i7, i8, i9, i10⟩ := i
  exact ⟨i0.fg f c0, i1.ag (f.ag c1), i2.ag (f.ag c2), i3.ag (f.ag c3), i4.ag (f.ag c4), i5.ag (f.ag c5), i6.ag (f.ag c6), i7.fg f c7, i8.ag (f.ag c8), i9.ag (f.ag c9), i10.ag (f.ag c10)⟩
theorem Inv.thr {h : PH} (i : Inv h) (v : Int32) : Inv (qsI h 70 0 v) := i.fg (Fg.sI _ _ _ _) rfl rfl rfl rfl rfl rfl rfl rfl rfl rfl rfl

/-! ===== PURE: frames by fields; the model's lay and layWorld ===== -/
/-- the cells but S and the fields but F are as they were, the shape too -/
def Fg (S : List Nat) (F : List (Nat × Nat)) (h h1 : PH) : Prop := (qn h1 = qn h ∧ qz h1 = qz h ∧ qK h1 = qK h ∧ qL h1 = qL h) ∧ ∀ a, a ∉ S → ∀ j, (a, j) ∉ F → qI h1 a j = qI h a j ∧ qJ h1 a j = qJ h a j ∧ qR h1 a j = qR h a j
theorem Fg.rf (S : List Nat) (F : List (Nat × Nat)) (h : PH) : Fg S F h h := ⟨⟨rfl, rfl, rfl, rfl⟩, fun _ _ _ _ => ⟨rfl, rfl, rfl⟩⟩
/-- all of S T lies in U V: cells, and fields whose cell or self is there -/
def fsub (S : List Nat) (F : List (Nat × Nat)) (U : List Nat) (V : List (Nat × Nat)) : Bool := S.all (fun a => U.contains a) && F.all (fun g => U.contains g.1 || V.contains g)
theorem fsub_S {S U : List Nat} {F V : List (Nat × Nat)} (c : fsub S F U V = true) {a : Nat} (h : a ∉ U) : a ∉ S := fun q => by
  unfold fsub at c
  rw [Bool.and_eq_true, List.all_eq_true] at c
  exact h (by have := c.1 a q; simpa using this)
theorem fsub_F {S U : List Nat} {F V : List (Nat × Nat)} (c : fsub S F U V = true) {a j : Nat} (h : a ∉ U) (h2 : (a, j) ∉ V) : (a, j) ∉ F := fun q => by
  unfold fsub at c
  rw [Bool.and_eq_true, List.all_eq_true, List.all_eq_true] at c
  have := c.2 (a, j) q
  rw [Bool.or_eq_true] at this
  rcases this with z | z
  · exact h (by simpa using z)
  · exact h2 (by simpa using z)
theorem Fg.tr {S T U : List Nat} {F G V : List (Nat × Nat)} {h h1 h2 : PH} (a : Fg S F h h1) (b : Fg T G h1 h2) (c1 : fsub S F U V = true) (c2 : fsub T G U V = true) : Fg U V h h2 := by
  obtain ⟨⟨a1, a2, a3, a4⟩, a5⟩ := a
  obtain ⟨⟨b1, b2, b3, b4⟩, b5⟩ := b
  refine ⟨⟨b1.trans a1, b2.trans a2, b3.trans a3, b4.trans a4⟩, fun x hx j hj => ?_⟩
  obtain ⟨e1, e2, e3⟩ := a5 x (fsub_S c1 hx) j (fsub_F c1 hx hj)
  obtain ⟨d1, d2, d3⟩ := b5 x (fsub_S c2 hx) j (fsub_F c2 hx hj)
  exact ⟨d1.trans e1, d2.trans e2, d3.trans e3⟩
theorem Fg.mono {S U : List Nat} {F V : List (Nat × Nat)} {h h1 : PH} (a : Fg S F h h1) (c1 : fsub S F U V = true) : Fg U V h h1 := a.tr (Fg.rf [] [] h1) c1 rfl
theorem Fg.sI (h : PH) (a k : Nat) (v : Int32) : Fg [] [(a, k)] h (qsI h a k v) := ⟨⟨rfl, rfl, rfl, rfl⟩, fun x _ j hj => ⟨by rw [qI_sI, if_neg (fun e => hj (by rw [e.1, e.2]; exact List.mem_singleton.mpr rfl))], rfl, rfl⟩⟩
theorem Fg.cI (h : PH) (a k : Nat) (v : Int32) : Fg [a] [] h (qsI h a k v) := ⟨⟨rfl, rfl, rfl, rfl⟩, fun x hx j _ => ⟨by rw [qI_sI, if_neg (fun e => hx (by rw [e.1]; exact List.mem_singleton.mpr rfl))], rfl, rfl⟩⟩
theorem Fg.sJ (h : PH) (a k : Nat) (v : Int64) : Fg [] [(a, k)] h (qsJ h a k v) := ⟨⟨rfl, rfl, rfl, rfl⟩, fun x _ j hj => ⟨rfl, by rw [qJ_sJ, if_neg (fun e => hj (by rw [e.1, e.2]; exact List.mem_singleton.mpr rfl))], rfl⟩⟩
theorem Fg.cJ (h : PH) (a k : Nat) (v : Int64) : Fg [a] [] h (qsJ h a k v) := ⟨⟨rfl, rfl, rfl, rfl⟩, fun x hx j _ => ⟨rfl, by rw [qJ_sJ, if_neg (fun e => hx (by rw [e.1]; exact List.mem_singleton.mpr rfl))], rfl⟩⟩
theorem Fg.sR (h : PH) (a k : Nat) (v : Option Nat) : Fg [] [(a, k)] h (qsR h a k v) := ⟨⟨rfl, rfl, rfl, rfl⟩, fun x _ j hj => ⟨rfl, rfl, by rw [qR_sR, if_neg (fun e => hj (by rw [e.1, e.2]; exact List.mem_singleton.mpr rfl))]⟩⟩
theorem Fr.fg {S : List Nat} {h h1 : PH} (a : Fr S h h1) : Fg S [] h h1 := ⟨a.1, fun x hx j _ => ⟨by rw [a.I hx], by rw [a.J hx], by rw [a.R hx]⟩⟩
theorem Fg.L {S : List Nat} {F : List (Nat × Nat)} {h h1 : PH} (a : Fg S F h h1) (x : Nat) : qL h1 x = qL h x := by rw [a.1.2.2.2]
theorem Fg.K {S : List Nat} {F : List (Nat × Nat)} {h h1 : PH} (a : Fg S F h h1) (x : Nat) : qK h1 x = qK h x := by rw [a.1.2.2.1]
/-- field g is not written -/
def fno (S : List Nat) (F : List (Nat × Nat)) (a j : Nat) : Bool := !S.contains a && !F.contains (a, j)
theorem Fg.at {S : List Nat} {F : List (Nat × Nat)} {h h1 : PH} (f : Fg S F h h1) {a j : Nat} (c : fno S F a j = true) : qI h1 a j = qI h a j ∧ qJ h1 a j = qJ h a j ∧ qR h1 a j = qR h a j := by
  unfold fno at c
  simp at c
  exact f.2 a c.1 j c.2
theorem Fg.I {S : List Nat} {F : List (Nat × Nat)} {h h1 : PH} (f : Fg S F h h1) {a j : Nat} (c : fno S F a j = true) : qI h1 a j = qI h a j := (f.at c).1
theorem Fg.J {S : List Nat} {F : List (Nat × Nat)} {h h1 : PH} (f : Fg S F h h1) {a j : Nat} (c : fno S F a j = true) : qJ h1 a j = qJ h a j := (f.at c).2.1
theorem Fg.R {S : List Nat} {F : List (Nat × Nat)} {h h1 : PH} (f : Fg S F h h1) {a j : Nat} (c : fno S F a j = true) : qR h1 a j = qR h a j := (f.at c).2.2
/-- what a reader of cells C and fields G sees is as it was -/
def Ag (C : List Nat) (G : List (Nat × Nat)) (h h1 : PH) : Prop := (∀ a, a ∈ C → qL h1 a = qL h a ∧ qI h1 a = qI h a ∧ qJ h1 a = qJ h a ∧ qR h1 a = qR h a) ∧ ∀ g, g ∈ G → qL h1 g.1 = qL h g.1 ∧ qI h1 g.1 g.2 = qI h g.1 g.2 ∧ qJ h1 g.1 g.2 = qJ h g.1 g.2 ∧ qR h1 g.1 g.2 = qR h g.1 g.2
def fag (S : List Nat) (F : List (Nat × Nat)) (C : List Nat) (G : List (Nat × Nat)) : Bool := C.all (fun a => !S.contains a && F.all (fun g => g.1 != a)) && G.all (fun g => fno S F g.1 g.2)
theorem Fg.ag {S : List Nat} {F : List (Nat × Nat)} {C : List Nat} {G : List (Nat × Nat)} {h h1 : PH} (f : Fg S F h h1) (c : fag S F C G = true) : Ag C G h h1 := by
  unfold fag at c
  rw [Bool.and_eq_true, List.all_eq_true, List.all_eq_true] at c
  refine ⟨fun a ha => ?_, fun g hg => ?_⟩
  · have := c.1 a ha
    rw [Bool.and_eq_true, List.all_eq_true] at this
    have hS : a ∉ S := by simpa using this.1
    have hF : ∀ j, (a, j) ∉ F := fun j q => by
      have := this.2 (a, j) q
      simp at this
    exact ⟨f.L a, funext fun j => (f.2 a hS j (hF j)).1, funext fun j => (f.2 a hS j (hF j)).2.1, funext fun j => (f.2 a hS j (hF j)).2.2⟩
  · obtain ⟨x, y, z⟩ := f.at (c.2 g hg)
    exact ⟨f.L _, x, y, z⟩
theorem Ag.L {C : List Nat} {G : List (Nat × Nat)} {h h1 : PH} (f : Ag C G h h1) {a : Nat} (c : C.contains a = true) : qL h1 a = qL h a := (f.1 a (by simpa using c)).1
theorem Ag.I {C : List Nat} {G : List (Nat × Nat)} {h h1 : PH} (f : Ag C G h h1) {a : Nat} (c : C.contains a = true) (j : Nat) : qI h1 a j = qI h a j := by rw [(f.1 a (by simpa using c)).2.1]
theorem Ag.J {C : List Nat} {G : List (Nat × Nat)} {h h1 : PH} (f : Ag C G h h1) {a : Nat} (c : C.contains a = true) (j : Nat) : qJ h1 a j = qJ h a j := by rw [(f.1 a (by simpa using c)).2.2.1]
theorem Ag.R {C : List Nat} {G : List (Nat × Nat)} {h h1 : PH} (f : Ag C G h h1) {a : Nat} (c : C.contains a = true) (j : Nat) : qR h1 a j = qR h a j := by rw [(f.1 a (by simpa using c)).2.2.2]
theorem Ag.l {C : List Nat} {G : List (Nat × Nat)} {h h1 : PH} (f : Ag C G h h1) {a : Nat} (j : Nat) (c : G.contains (a, j) = true) : qL h1 a = qL h a := (f.2 (a, j) (by simpa using c)).1
theorem Ag.i {C : List Nat} {G : List (Nat × Nat)} {h h1 : PH} (f : Ag C G h h1) {a j : Nat} (c : G.contains (a, j) = true) : qI h1 a j = qI h a j := (f.2 (a, j) (by simpa using c)).2.1
theorem Ag.j {C : List Nat} {G : List (Nat × Nat)} {h h1 : PH} (f : Ag C G h h1) {a j : Nat} (c : G.contains (a, j) = true) : qJ h1 a j = qJ h a j := (f.2 (a, j) (by simpa using c)).2.2.1
theorem Ag.r {C : List Nat} {G : List (Nat × Nat)} {h h1 : PH} (f : Ag C G h h1) {a j : Nat} (c : G.contains (a, j) = true) : qR h1 a j = qR h a j := (f.2 (a, j) (by simpa using c)).2.2.2
theorem DrM.ag {h h1 : PH} {N rb n : Nat} {Ds : Nat → PD} (d : DrM h N rb n Ds) (f : Ag [73, 74, 75] [(70, 14), (70, 15), (70, 16), (70, 17), (72, 0)] h h1) : DrM h1 N rb n Ds := by
  obtain ⟨⟨a1, a2, a3, a4, a5, a6, a7⟩, ⟨b1, b2, b3⟩, ⟨c1, c2, c3⟩, d1, d2, d3⟩ := d
  refine ⟨⟨by rw [f.r rfl]; exact a1, by rw [f.l 0 rfl]; exact a2, by rw [f.i rfl]; exact a3, a4, a5, by rw [f.r rfl]; exact a6, by rw [f.L rfl]; exact a7⟩, ⟨by rw [f.r rfl]; exact b1, by rw [f.L rfl]; exact b2, by rw [f.I rfl]; exact b3⟩, ⟨by rw [f.r rfl]; exact c1, by rw [f.L rfl]; exact c2, by rw [f.I rfl]; exact c3⟩, d1, d2, fun k hk => ⟨(d3 k hk).1, fun i hi => ?_⟩⟩
  show qI h1 75 _ = _
  rw [f.I rfl]
  exact (d3 k hk).2 i hi
/-- the model's drawing, laid or not yet -/
def DrL (h : PH) (N rb n : Nat) (Ds : Nat → PD) : Prop := (qR h 70 14 = some 72 ∧ qL h 72 = 8 ∧ 8 ≤ N ∧ N ≤ 48 ∧ qR h 70 17 = some 75 ∧ qL h 75 = 768) ∧ (qR h 70 15 = some 73 ∧ qL h 73 = 8 ∧ qI h 73 0 = nI rb) ∧ (qR h 70 16 = some 74 ∧ qL h 74 = 8 ∧ qI h 74 0 = nI n) ∧ (n ≤ 12 ∧ rb ≤ 999 ∧ ∀ k, k < n → okD N (Ds k) ∧ rowM (mrow h 0 k) (Ds k)) ∧ (qI h 70 20 = 0 ∧ N = 24 ∨ ¬ qI h 70 20 = 0 ∧ qI h 72 0 = nI N)
theorem DrL.ag {h h1 : PH} {N rb n : Nat} {Ds : Nat → PD} (d : DrL h N rb n Ds) (f : Ag [73, 74, 75] [(70, 14), (70, 15), (70, 16), (70, 17), (70, 20), (72, 0)] h h1) : DrL h1 N rb n Ds := by
  obtain ⟨⟨a1, a2, a4, a5, a6, a7⟩, ⟨b1, b2, b3⟩, ⟨c1, c2, c3⟩, ⟨d1, d2, d3⟩, e⟩ := d
  refine ⟨⟨by rw [f.r rfl]; exact a1, by rw [f.l 0 rfl]; exact a2, a4, a5, by rw [f.r rfl]; exact a6, by rw [f.L rfl]; exact a7⟩, ⟨by rw [f.r rfl]; exact b1, by rw [f.L rfl]; exact b2, by rw [f.I rfl]; exact b3⟩, ⟨by rw [f.r rfl]; exact c1, by rw [f.L rfl]; exact c2, by rw [f.I rfl]; exact c3⟩, ⟨d1, d2, fun k hk => ⟨(d3 k hk).1, fun i hi => ?_⟩⟩, by rw [f.i rfl, f.i rfl]; exact e⟩
  show qI h1 75 _ = _
  rw [f.I rfl]
  exact (d3 k hk).2 i hi
theorem DrL.m {h : PH} {N rb n : Nat} {Ds : Nat → PD} (d : DrL h N rb n Ds) (e : qI h 72 0 = nI N) : DrM h N rb n Ds := ⟨⟨d.1.1, d.1.2.1, e, d.1.2.2.1, d.1.2.2.2.1, d.1.2.2.2.2.1, d.1.2.2.2.2.2⟩, d.2.1, d.2.2.1, d.2.2.2.1⟩
theorem lay_ok {h : PH} {N rb n : Nat} {Ds : Nat → PD} {Q : PH → Prop} (d : DrL h N rb n Ds) (q : ∀ h1, Fg [] [(70, 20), (72, 0)] h h1 → DrM h1 N rb n Ds → DrL h1 N rb n Ds → Q h1) : wp_X12_lay 70 h Q := by
  refine ⟨fun c h2 e2 => ⟨72, by rw [e2]; exact d.1.1, by rw [e2]; exact in0 d.1.2.1 (by decide) (by decide), fun h3 e3 => ?_⟩, fun c => ?_⟩
  · rw [c0_n] at e3
    have f : Fg [] [(70, 20), (72, 0)] h h3 := by rw [e3, e2]; exact (Fg.sI _ _ _ _).tr (Fg.sI _ _ _ _) rfl rfl
    obtain ⟨⟨a1, a2, a4, a5, a6, a7⟩, ⟨b1, b2, b3⟩, ⟨c1, c2, c3⟩, ⟨d1, d2, d3⟩, e⟩ := d
    have hN : N = 24 := by
      rcases e with z | z
      · exact z.2
      · exact absurd c z.1
    have e7 : qI h3 72 0 = nI N := by rw [e3, rI_sI, if_pos rfl, up_eq, hN]; rfl
    have e8 : ¬ qI h3 70 20 = 0 := by rw [e3, rI_sI, if_neg (by decide), e2, rI_sI, if_pos rfl, up_eq]; decide
    have dl : DrL h3 N rb n Ds := by
      refine ⟨⟨by rw [f.R rfl]; exact a1, by rw [f.L]; exact a2, a4, a5, by rw [f.R rfl]; exact a6, by rw [f.L]; exact a7⟩, ⟨by rw [f.R rfl]; exact b1, by rw [f.L]; exact b2, by rw [f.I rfl]; exact b3⟩, ⟨by rw [f.R rfl]; exact c1, by rw [f.L]; exact c2, by rw [f.I rfl]; exact c3⟩, ⟨d1, d2, fun k hk => ⟨(d3 k hk).1, fun i hi => ?_⟩⟩, Or.inr ⟨e8, e7⟩⟩
      show qI h3 75 _ = _
      rw [(f.ag (C := [75]) (G := []) rfl).I rfl]
      exact (d3 k hk).2 i hi
    exact q h3 f (dl.m e7) dl
  · have e : qI h 72 0 = nI N := by
      rcases d.2.2.2.2 with z | z
      · exact absurd z.1 c
      · exact z.2
    exact q h (Fg.rf _ _ _) (d.m e) d
theorem isTime_ok {h : PH} {N rb n : Nat} {t : Int32} {Ds : Nat → PD} {Q : Int32 → PH → Prop} (d : DrL h N rb n Ds) (q : ∀ h1, Fg [] [(70, 20), (72, 0)] h h1 → DrM h1 N rb n Ds → DrL h1 N rb n Ds → (∀ j, j < N → t = nI j → Q 1 h1) ∧ ((∀ j, j < N → t ≠ nI j) → Q 0 h1)) : wp_X12_isTime 70 t h Q := by
  refine lay_ok d (fun h1 f dm dl => ?_)
  have hN := dl.1.2.2.2.1
  obtain ⟨q1, q0⟩ := q h1 f dm dl
  refine ⟨fun c => q0 (fun j hj e => nI_pos (n := j) (by omega) (by rw [← e]; exact c)), fun c => ⟨72, dm.1.1, in08 dm.1, fun c2 => ?_, fun c2 => ?_⟩⟩
  · rw [c0_n, dm.1.2.2.1] at c2
    exact q0 (fun j hj e => nI_ge hj (by omega) (by rw [← e]; exact c2))
  · rw [c0_n, dm.1.2.2.1] at c2
    obtain ⟨j, hj, e⟩ := nI_of c
    have : j < N := by
      rcases Nat.lt_or_ge j N with z | z
      · exact z
      · exact absurd (by rw [e]; exact nI_le z hj) c2
    exact q1 j this e
/-- the model's world: 78 forward, 79 backward -/
def WM (h : PH) (N rb n : Nat) (Ds : Nat → PD) (L : Nat) : Prop := (qR h 70 21 = some 78 ∧ qL h 78 = 48 ∧ ∀ t, t < N → qI h 78 t = fwd N rb n Ds L t) ∧ (qR h 70 22 = some 79 ∧ qL h 79 = 48 ∧ ∀ t, t < N → qI h 79 t = bwd N rb n Ds L t)
theorem WM.ag {h h1 : PH} {N rb n L : Nat} {Ds : Nat → PD} (d : WM h N rb n Ds L) (f : Ag [78, 79] [(70, 21), (70, 22)] h h1) : WM h1 N rb n Ds L := by
  obtain ⟨⟨a1, a2, a3⟩, ⟨b1, b2, b3⟩⟩ := d
  exact ⟨⟨by rw [f.r rfl]; exact a1, by rw [f.L rfl]; exact a2, fun t ht => by rw [f.I rfl]; exact a3 t ht⟩, ⟨by rw [f.r rfl]; exact b1, by rw [f.L rfl]; exact b2, fun t ht => by rw [f.I rfl]; exact b3 t ht⟩⟩
/-- backward so far: behind k parts -/
def bwdk (N rb k : Nat) (Ds : Nat → PD) (L t : Nat) : Int32 := tFed N k Ds t - qsum (fun k => gv (Ds k) N t (nI L)) k - rubV rb (nI L)
theorem bwdk_0 (N rb : Nat) (Ds : Nat → PD) (L t : Nat) : bwdk N rb 0 Ds L t = -(rubV rb (nI L)) := by
  show (0 : Int32) - 0 - _ = _
  rw [Int32.sub_self, Int32.zero_sub]
theorem bwdk_s {N rb k : Nat} {Ds : Nat → PD} {L t : Nat} (hk : dk (Ds k) < 5) (hL : L < 32) : bwdk N rb (k + 1) Ds L t = if dk (Ds k) = 4 then bwdk N rb k Ds L t else bwdk N rb k Ds L t - gv (Ds k) N t (nI L) := by
  unfold bwdk tFed
  show (qsum _ k + (if dk (Ds k) = 4 then gv (Ds k) N t 0 else 0)) - (qsum _ k + gv (Ds k) N t (nI L)) - _ = _
  by_cases c : dk (Ds k) = 4
  · rw [if_pos c, if_pos c, gv_law hk hL, if_neg (show ¬ (dk (Ds k) < 4 ∧ _) from fun z => by omega)]
    have : ∀ a b s r : Int32, (a + b) - (s + b) - r = a - s - r := by
      intro a b s r
      simp only [Int32.sub_eq_add_neg, Int32.neg_add]
      have e : a + b + (-s + -b) + -r = a + -s + -r + (b + -b) := by ac_rfl
      rw [e, Int32.add_right_neg, Int32.add_zero]
    exact this _ _ _ _
  · rw [if_neg c, if_neg c, Int32.add_zero]
    have : ∀ a s g r : Int32, a - (s + g) - r = a - s - r - g := by
      intro a s g r
      simp only [Int32.sub_eq_add_neg, Int32.neg_add]
      ac_rfl
    exact this _ _ _ _
theorem layWorld_ok {h : PH} {N rb n L : Nat} {Ds : Nat → PD} {Q : PH → Prop} (d : DrL h N rb n Ds) (hL : L < 32) (r0 : qR h 70 21 = some 78) (r1 : qR h 70 22 = some 79) (l0 : qL h 78 = 48) (l1 : qL h 79 = 48)
    (q : ∀ h1, Fg [78, 79] [(70, 20), (72, 0)] h h1 → DrM h1 N rb n Ds → DrL h1 N rb n Ds → WM h1 N rb n Ds L → Q h1) : wp_X12_layWorld 70 (nI L) h Q := by
  refine lay_ok d (fun h0 f0 dm0 dl0 => ?_)
  have hN8 := dl0.1.2.2.1
  have hN := dl0.1.2.2.2.1
  have hn := dl0.2.2.2.1.1
  have qq : ∀ h1, Fg [78, 79] [] h0 h1 → WM h1 N rb n Ds L → Q h1 := fun h1 f w => q h1 (f0.tr f rfl rfl) (dm0.ag (f.ag rfl)) (dl0.ag (f.ag rfl)) w
  have r0' : qR h0 70 21 = some 78 := by rw [f0.R rfl]; exact r0
  have r1' : qR h0 70 22 = some 79 := by rw [f0.R rfl]; exact r1
  have l0' : qL h0 78 = 48 := by rw [f0.L]; exact l0
  have l1' : qL h0 79 = 48 := by rw [f0.L]; exact l1
  refine loopR N (fun i s => s.1 = nI i ∧ Fg [78, 79] [] h0 s.2 ∧ (∀ t, t < i → qI s.2 78 t = fwd N rb n Ds L t) ∧ (∀ t, t < i → qI s.2 79 t = bwd N rb n Ds L t)) (fun s => s.1.toNatClampNeg) ⟨rfl, Fg.rf _ _ _, fun t ht => absurd ht (Nat.not_lt_zero t), fun t ht => absurd ht (Nat.not_lt_zero t)⟩ (fun i s hi p => by rw [p.1]; exact nI_clamp (by omega)) ?_ ?_
  · rintro t ⟨t', h1⟩ ht ⟨e1, f1, e3, e4⟩ back hb
    dsimp only at e1 f1 e3 e4
    subst e1
    have dm1 := dm0.ag (f1.ag rfl)
    refine ⟨72, dm1.1.1, in08 dm1.1, fun c => ?_, fun c => ⟨78, by rw [f1.R rfl]; exact r0', mrub_ok dm1 ⟨by rw [f1.L, l0']; exact vp_in_nI (by omega) (by omega), fun h2 e2 => ?_⟩⟩⟩
    · rw [c0_n, dm1.1.2.2.1] at c
      exact absurd c (nI_ge ht (by omega))
    · rw [nI_clamp (by omega)] at e2
      have f2 : Fg [78, 79] [] h0 h2 := by rw [e2]; exact f1.tr (Fg.cI _ _ _ _) rfl rfl
      have dm2 := dm0.ag (f2.ag rfl)
      refine ⟨79, by rw [f2.R rfl]; exact r1', mrub_ok dm2 ⟨by rw [f2.L, l1']; exact vp_in_nI (by omega) (by omega), fun h3 e3' => ?_⟩⟩
      rw [nI_clamp (by omega)] at e3'
      have f3 : Fg [78, 79] [] h0 h3 := by rw [e3']; exact f2.tr (Fg.cI _ _ _ _) rfl rfl
      refine loopR n (fun k s => s.1 = nI k ∧ Fg [78, 79] [] h0 s.2 ∧ (∀ u, u < t → qI s.2 78 u = fwd N rb n Ds L u) ∧ (∀ u, u < t → qI s.2 79 u = bwd N rb n Ds L u) ∧ qI s.2 78 t = qsum (fun k => gv (Ds k) N t (nI L)) k - rubV rb (nI L) ∧ qI s.2 79 t = bwdk N rb k Ds L t) (fun s => s.1.toNatClampNeg) ⟨rfl, f3, ?_, ?_, ?_, ?_⟩ (fun i s hi p => by rw [p.1]; exact nI_clamp (by omega)) ?_ ?_
      · intro u hu
        show qI h3 78 u = _
        rw [e3', rI_sI, if_neg (by decide), e2, rI_sI, if_pos rfl, up_ne _ _ (by omega)]
        exact e3 u hu
      · intro u hu
        show qI h3 79 u = _
        rw [e3', rI_sI, if_pos rfl, up_ne _ _ (by omega), e2, rI_sI, if_neg (by decide)]
        exact e4 u hu
      · show qI h3 78 t = 0 - _
        rw [e3', rI_sI, if_neg (by decide), e2, rI_sI, if_pos rfl, up_eq, Int32.zero_sub]
      · show qI h3 79 t = _
        rw [e3', rI_sI, if_pos rfl, up_eq, bwdk_0]
      · rintro k ⟨k', h4⟩ hk ⟨b1, f4, b3, b4, b5, b6⟩ back2 hb2
        dsimp only at b1 f4 b3 b4 b5 b6
        subst b1
        have dm4 := dm0.ag (f4.ag rfl)
        obtain ⟨okk, rowk⟩ := dm4.2.2.2.2.2 k hk
        refine ⟨74, dm4.2.2.1.1, in0 dm4.2.2.1.2.1 (by decide) (by decide), fun c => ?_, fun c => mgives_ok dm4.1 (by omega) okk rowk ht ⟨78, by rw [f4.R rfl]; exact r0', by rw [f4.L, l0']; exact vp_in_nI (by omega) (by omega), by rw [f4.L, l0']; exact vp_in_nI (by omega) (by omega), fun h5 e5 => ?_⟩⟩
        · rw [c0_n, dm4.2.2.1.2.2] at c
          exact absurd c (nI_ge hk (by omega))
        · rw [nI_clamp (by omega), b5] at e5
          have f5 : Fg [78, 79] [] h0 h5 := by rw [e5]; exact f4.tr (Fg.cI _ _ _ _) rfl rfl
          have dm5 := dm0.ag (f5.ag rfl)
          have row5 := (dm5.2.2.2.2.2 k hk).2
          have g78 : qI h5 78 t = qsum (fun k => gv (Ds k) N t (nI L)) (k + 1) - rubV rb (nI L) := by
            rw [e5, rI_sI, if_pos rfl, up_eq]
            show _ = (qsum _ k + gv (Ds k) N t (nI L)) - _
            simp only [Int32.sub_eq_add_neg]
            show _ + _ + gv (Ds k) N t (nI L) = _
            ac_rfl
          have g78u : ∀ u, u < t → qI h5 78 u = fwd N rb n Ds L u := fun u hu => by
            rw [e5, rI_sI, if_pos rfl, up_ne _ _ (by omega)]; exact b3 u hu
          have g79 : ∀ u, qI h5 79 u = qI h4 79 u := fun u => by rw [e5, rI_sI, if_neg (by decide)]
          have srt : mrow h5 0 k 0 = nI (dk (Ds k)) := row5 0 (by decide)
          have s0 : qI h5 75 (nI (8 * k) + 0).toNatClampNeg = mrow h5 0 k 0 := slot_at (by omega) (i := 0) (by decide) rfl
          refine ⟨75, dm5.1.2.2.2.2.2.1, ?_⟩
          show wp_X12_slot 0 (nI k) h5 _
          unfold wp_X12_slot
          rw [slot0_n]
          refine ⟨slot_in dm5.1 (by omega) (i := 0) (by decide) rfl, fun c4 v ev => hb2 _ ?_, fun c4 => ⟨79, by rw [f5.R rfl]; exact r1', by rw [f5.L, l1']; exact vp_in_nI (by omega) (by omega), by rw [f5.L, l1']; exact vp_in_nI (by omega) (by omega), fun h6 e6 v ev => hb2 _ ?_⟩⟩
          · rw [s0, srt] at c4
            have k4 : dk (Ds k) = 4 := nI_inj (by have := okk.1; omega) (by decide) c4
            refine ⟨by rw [ev]; exact nI_1 k, f5, g78u, fun u hu => ?_, g78, ?_⟩
            · show qI h5 79 u = _
              rw [g79]; exact b4 u hu
            · show qI h5 79 t = _
              rw [g79, b6, bwdk_s okk.1 hL, if_pos k4]
          · rw [s0, srt] at c4
            have k4 : ¬ dk (Ds k) = 4 := fun z => c4 (by rw [z]; rfl)
            rw [nI_clamp (by omega), g79, b6] at e6
            refine ⟨by rw [ev]; exact nI_1 k, by show Fg _ _ h0 h6; rw [e6]; exact f5.tr (Fg.cI _ _ _ _) rfl rfl, fun u hu => ?_, fun u hu => ?_, ?_, ?_⟩
            · show qI h6 78 u = _
              rw [e6, rI_sI, if_neg (by decide)]; exact g78u u hu
            · show qI h6 79 u = _
              rw [e6, rI_sI, if_pos rfl, up_ne _ _ (by omega), g79]; exact b4 u hu
            · show qI h6 78 t = _
              rw [e6, rI_sI, if_neg (by decide)]; exact g78
            · show qI h6 79 t = _
              rw [e6, rI_sI, if_pos rfl, up_eq, bwdk_s okk.1 hL, if_neg k4]; rfl
      · rintro ⟨k', h4⟩ ⟨b1, f4, b3, b4, b5, b6⟩ back2
        dsimp only at b1 f4 b3 b4 b5 b6
        subst b1
        have dm4 := dm0.ag (f4.ag rfl)
        refine ⟨74, dm4.2.2.1.1, in0 dm4.2.2.1.2.1 (by decide) (by decide), fun c v ev => hb _ ⟨by rw [ev]; exact nI_1 t, f4, fun u hu => ?_, fun u hu => ?_⟩, fun c => ?_⟩
        · rcases (show u < t ∨ u = t by omega) with z | z
          · exact b3 u z
          · rw [z]; exact b5
        · rcases (show u < t ∨ u = t by omega) with z | z
          · exact b4 u z
          · rw [z]; exact b6
        · rw [c0_n, dm4.2.2.1.2.2] at c
          exact absurd (nI_le (Nat.le_refl n) (by omega)) c
  · rintro ⟨t', h1⟩ ⟨e1, f1, e3, e4⟩ back
    dsimp only at e1 f1 e3 e4
    subst e1
    have dm1 := dm0.ag (f1.ag rfl)
    refine ⟨72, dm1.1.1, in08 dm1.1, fun c => qq h1 f1 ⟨⟨by rw [f1.R rfl]; exact r0', by rw [f1.L]; exact l0', e3⟩, ⟨by rw [f1.R rfl]; exact r1', by rw [f1.L]; exact l1', e4⟩⟩, fun c => ?_⟩
    rw [c0_n, dm1.1.2.2.1] at c
    exact absurd (nI_le (Nat.le_refl N) (by omega)) c

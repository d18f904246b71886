/-! ===== PURE: rows of the pure heap, what a call leaves as it was ===== -/
theorem rI_sI (h : PH) (a k : Nat) (v : Int32) (b : Nat) : qI (qsI h a k v) b = if b = a then upd (qI h a) k v else qI h b := by
  by_cases hb : b = a
  · subst hb
    rw [if_pos rfl]
    funext j
    rw [qI_sI]
    by_cases hj : j = k
    · rw [if_pos ⟨rfl, hj⟩, hj]; simp [upd]
    · rw [if_neg (fun q => hj q.2)]; simp [upd, hj]
  · rw [if_neg hb]
    funext j
    rw [qI_sI, if_neg (fun q => hb q.1)]
theorem rJ_sJ (h : PH) (a k : Nat) (v : Int64) (b : Nat) : qJ (qsJ h a k v) b = if b = a then vp_updL (qJ h a) k v else qJ h b := by
  by_cases hb : b = a
  · subst hb
    rw [if_pos rfl]
    funext j
    rw [qJ_sJ]
    by_cases hj : j = k
    · rw [if_pos ⟨rfl, hj⟩, hj]; simp [vp_updL]
    · rw [if_neg (fun q => hj q.2)]; simp [vp_updL, hj]
  · rw [if_neg hb]
    funext j
    rw [qJ_sJ, if_neg (fun q => hb q.1)]
theorem rR_sR (h : PH) (a k : Nat) (v : Option Nat) (b : Nat) : qR (qsR h a k v) b = if b = a then va_up (qR h a) k v else qR h b := by
  by_cases hb : b = a
  · subst hb
    rw [if_pos rfl]
    funext j
    rw [qR_sR]
    by_cases hj : j = k
    · rw [if_pos ⟨rfl, hj⟩, hj]; simp [va_up]
    · rw [if_neg (fun q => hj q.2)]; simp [va_up, hj]
  · rw [if_neg hb]
    funext j
    rw [qR_sR, if_neg (fun q => hb q.1)]
/-- the cells but S are as they were, the shape too -/
def Fr (S : List Nat) (h h1 : PH) : Prop := (qn h1 = qn h ∧ qz h1 = qz h ∧ qK h1 = qK h ∧ qL h1 = qL h) ∧ ∀ a, a ∉ S → qI h1 a = qI h a ∧ qJ h1 a = qJ h a ∧ qR h1 a = qR h a
theorem Fr.rf (S : List Nat) (h : PH) : Fr S h h := ⟨⟨rfl, rfl, rfl, rfl⟩, fun _ _ => ⟨rfl, rfl, rfl⟩⟩
theorem Fr.tr {S T U : List Nat} {h h1 h2 : PH} (a : Fr S h h1) (b : Fr T h1 h2) (hS : ∀ x ∈ S, x ∈ U) (hT : ∀ x ∈ T, x ∈ U) : Fr U h h2 := by
  obtain ⟨⟨a1, a2, a3, a4⟩, a5⟩ := a
  obtain ⟨⟨b1, b2, b3, b4⟩, b5⟩ := b
  refine ⟨⟨b1.trans a1, b2.trans a2, b3.trans a3, b4.trans a4⟩, fun x hx => ?_⟩
  obtain ⟨c1, c2, c3⟩ := a5 x (fun q => hx (hS x q))
  obtain ⟨d1, d2, d3⟩ := b5 x (fun q => hx (hT x q))
  exact ⟨d1.trans c1, d2.trans c2, d3.trans c3⟩
theorem Fr.mono {S U : List Nat} {h h1 : PH} (a : Fr S h h1) (hS : ∀ x ∈ S, x ∈ U) : Fr U h h1 := a.tr (Fr.rf U h1) hS (fun _ q => q)
theorem Fr.sI (h : PH) (a k : Nat) (v : Int32) : Fr [a] h (qsI h a k v) := ⟨⟨rfl, rfl, rfl, rfl⟩, fun x hx => ⟨by rw [rI_sI, if_neg (fun e => hx (by rw [e]; exact List.mem_singleton.mpr rfl))], rfl, rfl⟩⟩
theorem Fr.sJ (h : PH) (a k : Nat) (v : Int64) : Fr [a] h (qsJ h a k v) := ⟨⟨rfl, rfl, rfl, rfl⟩, fun x hx => ⟨rfl, by rw [rJ_sJ, if_neg (fun e => hx (by rw [e]; exact List.mem_singleton.mpr rfl))], rfl⟩⟩
theorem Fr.sR (h : PH) (a k : Nat) (v : Option Nat) : Fr [a] h (qsR h a k v) := ⟨⟨rfl, rfl, rfl, rfl⟩, fun x hx => ⟨rfl, rfl, by rw [rR_sR, if_neg (fun e => hx (by rw [e]; exact List.mem_singleton.mpr rfl))]⟩⟩
theorem Fr.L {S : List Nat} {h h1 : PH} (a : Fr S h h1) (x : Nat) : qL h1 x = qL h x := by rw [a.1.2.2.2]
theorem Fr.K {S : List Nat} {h h1 : PH} (a : Fr S h h1) (x : Nat) : qK h1 x = qK h x := by rw [a.1.2.2.1]
theorem Fr.I {S : List Nat} {h h1 : PH} (a : Fr S h h1) {x : Nat} (hx : x ∉ S) : qI h1 x = qI h x := (a.2 x hx).1
theorem Fr.J {S : List Nat} {h h1 : PH} (a : Fr S h h1) {x : Nat} (hx : x ∉ S) : qJ h1 x = qJ h x := (a.2 x hx).2.1
theorem Fr.R {S : List Nat} {h h1 : PH} (a : Fr S h h1) {x : Nat} (hx : x ∉ S) : qR h1 x = qR h x := (a.2 x hx).2.2
theorem up_eq (f : Nat → Int32) (k : Nat) (v : Int32) : upd f k v k = v := by simp [upd]
theorem up_ne (f : Nat → Int32) {k j : Nat} (v : Int32) (h : j ≠ k) : upd f k v j = f j := by simp [upd, h]
theorem up_at (f : Nat → Int32) (k j : Nat) (v : Int32) : upd f k v j = if j = k then v else f j := by
  by_cases h : j = k
  · subst h; rw [up_eq, if_pos rfl]
  · rw [up_ne f v h, if_neg h]
/-! the places of the cells behind the two constructors: office 0, tape 1 (bytes 2), tokens 3 (4 5 6), totals 7 (8 to 12), world 13 (14 15), runs 16 17, finds 18 (19 to 22), kept 23, standing 24, sayings 25, drawings 26 (27, 28 to 39) and 40 (41, 42 to 53), claims 54 (55 to 58) and 59 (60 to 63), inventors 64 (65 66) and 67 (68 69); the model 70 (71 to 91), the law's row 92 -/
def kdL : List Nat := [10, 6, 13, 7, 14, 14, 14, 8, 14, 14, 14, 14, 14, 9, 14, 14, 5, 5, 2, 14, 14, 14, 15, 17, 14, 14, 1, 18, 4, 4, 4, 4, 4, 4, 4, 4, 4, 4, 4, 4, 1, 18, 4, 4, 4, 4, 4, 4, 4, 4, 4, 4, 4, 4, 0, 14, 14, 14, 16, 0, 14, 14, 14, 16, 3, 14, 14, 3, 14, 14, 11, 14, 14, 14, 14, 14, 15, 16, 14, 14, 14, 14, 14, 14, 14, 14, 14, 14, 15, 14, 14, 14, 15]
def lnL : List Nat := [0, 0, 640, 0, 641, 641, 641, 0, 48, 48, 192, 384, 8, 0, 48, 48, 0, 0, 0, 60, 200, 200, 10, 6, 48, 10, 0, 12, 0, 0, 0, 0, 0, 0, 0, 0, 0, 0, 0, 0, 0, 12, 0, 0, 0, 0, 0, 0, 0, 0, 0, 0, 0, 0, 0, 40, 40, 40, 40, 0, 40, 40, 40, 40, 0, 70, 10, 0, 70, 10, 0, 640, 8, 8, 8, 768, 12, 6, 48, 48, 48, 120, 120, 120, 120, 60, 200, 200, 10, 140, 10, 10, 1]
/-- references that never change: (cell, field, to) -/
def rfL : List (Nat × Nat × Nat) := [(0, 0, 1), (0, 1, 3), (0, 2, 7), (0, 3, 13), (0, 4, 16), (0, 5, 17), (0, 6, 18), (0, 7, 23), (0, 8, 24), (0, 9, 25), (1, 0, 2), (3, 0, 4), (3, 1, 5), (3, 2, 6), (7, 0, 8), (7, 1, 9), (7, 2, 10), (7, 3, 11), (7, 4, 12), (13, 0, 14), (13, 1, 15), (18, 0, 19), (18, 1, 20), (18, 2, 21), (18, 7, 22), (26, 0, 27), (40, 0, 41), (54, 0, 55), (54, 1, 56), (54, 2, 57), (54, 3, 58), (59, 0, 60), (59, 1, 61), (59, 2, 62), (59, 3, 63), (64, 0, 65), (64, 1, 66), (67, 0, 68), (67, 1, 69),
  (70, 1, 71), (70, 14, 72), (70, 15, 73), (70, 16, 74), (70, 17, 75), (70, 18, 76), (70, 19, 77), (70, 21, 78), (70, 22, 79), (70, 35, 80), (70, 37, 81), (70, 38, 82), (70, 39, 83), (70, 40, 84), (70, 48, 85), (70, 49, 86), (70, 50, 87), (70, 55, 88), (70, 57, 89), (70, 59, 90), (70, 60, 91)]
def Shp (h : PH) : Prop := 93 ≤ qn h ∧ (∀ a, a < 93 → qK h a = kdL.getD a 0 ∧ qL h a = lnL.getD a 0) ∧ (∀ q ∈ rfL, qR h q.1 q.2.1 = some q.2.2) ∧ (∀ j, j < 12 → qR h 27 j = some (28 + j) ∧ qR h 41 j = some (42 + j))
theorem Shp.L {h : PH} (s : Shp h) (a : Nat) {n : Nat} (ha : a < 93) (e : lnL.getD a 0 = n) : qL h a = n := ((s.2.1 a ha).2).trans e
theorem Shp.R {h : PH} (s : Shp h) (a k b : Nat) (e : (a, k, b) ∈ rfL) : qR h a k = some b := s.2.2.1 (a, k, b) e
/-! the tape: what four bytes more make of it -/
def cbt (w : Int32) (i : Nat) : Int32 := (q_ushr w (nI (24 - 8 * i))).toInt8.toInt32
def mbt (w : Int32) (i : Nat) : Int32 := q_ushr w (nI (24 - 8 * i)) &&& 255
theorem sh_step {i : Nat} (hi : i < 4) : nI (24 - 8 * i) + (-8) = if i < 3 then nI (24 - 8 * (i + 1)) else -8 := by
  rcases (show i = 0 ∨ i = 1 ∨ i = 2 ∨ i = 3 by omega) with rfl | rfl | rfl | rfl <;> decide
/-- the shift behind i bytes -/
def shf (i : Nat) : Int32 := if i < 4 then nI (24 - 8 * i) else -8
theorem shf_step {i : Nat} (hi : i < 4) : shf i + (-8) = shf (i + 1) := by
  rcases (show i = 0 ∨ i = 1 ∨ i = 2 ∨ i = 3 by omega) with rfl | rfl | rfl | rfl <;> decide
theorem shf_neg {i : Nat} (hi : i ≤ 4) : shf i < 0 ↔ i = 4 := by
  rcases (show i = 0 ∨ i = 1 ∨ i = 2 ∨ i = 3 ∨ i = 4 by omega) with rfl | rfl | rfl | rfl | rfl <;> decide
theorem append_ok {h : PH} {w : Int32} {Q : PH → Prop} {len : Nat} (hR : qR h 1 0 = some 2) (hL : qL h 2 = 640) (hl : qI h 1 1 = nI len) (hb : len + 4 ≤ 640)
    (k : ∀ h1, Fr [1, 2] h h1 → qR h1 1 = qR h 1 → qI h1 1 1 = nI (len + 4) → (∀ j, qI h1 2 j = if len ≤ j ∧ j < len + 4 then cbt w (j - len) else qI h 2 j) → Q h1) : wp_X6_append 1 w h Q := by
  unfold wp_X6_append
  refine ⟨fun s => ∃ i, i ≤ 4 ∧ s.1 = shf i ∧ Fr [1, 2] h s.2 ∧ qR s.2 1 = qR h 1 ∧ qI s.2 1 1 = nI (len + i) ∧ ∀ j, qI s.2 2 j = if len ≤ j ∧ j < len + i then cbt w (j - len) else qI h 2 j, fun s => (s.1.toInt + 9).toNat, ⟨0, by omega, rfl, Fr.rf _ _, rfl, hl, fun j => by rw [if_neg (by omega)]⟩, ?_⟩
  rintro ⟨l2, h1⟩ ⟨i, hi, e1, fr, r1, e2, e3⟩
  dsimp only at e1 fr r1 e2 e3
  show wb_X6_append_3 1 w Q _ l2 h1
  unfold wb_X6_append_3
  have hR1 : qR h1 1 0 = some 2 := by rw [r1]; exact hR
  have hL1 : qL h1 2 = 640 := by rw [fr.L]; exact hL
  refine ⟨fun c => ?_, fun c => ?_⟩
  · have : i = 4 := (shf_neg hi).mp (by rw [← e1]; exact c)
    subst this
    exact k h1 fr r1 e2 e3
  · have hi4 : i < 4 := by
      rcases Nat.lt_or_ge i 4 with q | q
      · exact q
      · exact absurd (by rw [e1]; exact (shf_neg hi).mpr (by omega)) c
    rw [e2]
    refine ⟨fun c => absurd c (nI_pos (by omega)), fun _ => ⟨2, hR1, ?_, fun _ => ⟨2, hR1, ?_, ?_⟩⟩⟩
    · intro c
      rw [hL1] at c
      exact absurd c (nI_ge (by omega) (by omega))
    · rw [hL1]; exact vp_in_nI (by omega) (by omega)
    · intro h2 eh2 h3 eh3 v ev
      have eI2 : qI h2 1 1 = nI (len + i) := by rw [eh2, rI_sI, if_neg (by decide)]; exact e2
      refine ⟨⟨i + 1, by omega, by rw [ev, e1]; exact shf_step hi4, ?_, ?_, ?_, ?_⟩, ?_⟩
      · show Fr [1, 2] h h3
        rw [eh3, eh2]
        exact (fr.tr (Fr.sI _ _ _ _) (fun _ q => q) (by decide)).tr (Fr.sI _ _ _ _) (fun _ q => q) (by decide)
      · show qR h3 1 = qR h 1
        rw [eh3, eh2]; exact r1
      · show qI h3 1 1 = nI (len + (i + 1))
        rw [eh3, rI_sI, if_pos rfl, up_eq, eI2, nI_1]; rfl
      · intro j
        show qI h3 2 j = _
        rw [eh3, rI_sI, if_neg (by decide), eh2, rI_sI, if_pos rfl, up_at, nI_clamp (by omega), e3 j]
        by_cases c1 : j = len + i
        · rw [if_pos c1, if_pos (by omega), pk_vb, c1, show len + i - len = i by omega, e1]
          unfold cbt shf
          rw [if_pos hi4]
        · rw [if_neg c1]
          by_cases c2 : len ≤ j ∧ j < len + i
          · rw [if_pos c2, if_pos (by omega)]
          · rw [if_neg c2, if_neg (by omega)]
      · show (v.toInt + 9).toNat < (l2.toInt + 9).toNat
        rw [ev, e1]
        rcases (show i = 0 ∨ i = 1 ∨ i = 2 ∨ i = 3 by omega) with rfl | rfl | rfl | rfl <;> decide
theorem come_ok {h : PH} {w : Int32} {Q : PH → Prop} {len : Nat} (hR : qR h 70 1 = some 71) (hL : qL h 71 = 640) (hl : qI h 70 2 = nI len) (hb : len + 4 ≤ 640)
    (k : ∀ h1, Fr [70, 71] h h1 → qR h1 70 = qR h 70 → qJ h1 70 = qJ h 70 → (∀ j, qI h1 70 j = if j = 2 then nI (len + 4) else qI h 70 j) → (∀ j, qI h1 71 j = if len ≤ j ∧ j < len + 4 then mbt w (j - len) else qI h 71 j) → Q h1) : wp_X12_come 70 w h Q := by
  unfold wp_X12_come
  refine ⟨fun s => ∃ i, i ≤ 4 ∧ s.1 = shf i ∧ Fr [70, 71] h s.2 ∧ qR s.2 70 = qR h 70 ∧ qJ s.2 70 = qJ h 70 ∧ (∀ j, qI s.2 70 j = if j = 2 then nI (len + i) else qI h 70 j) ∧ ∀ j, qI s.2 71 j = if len ≤ j ∧ j < len + i then mbt w (j - len) else qI h 71 j, fun s => (s.1.toInt + 9).toNat, ⟨0, by omega, rfl, Fr.rf _ _, rfl, rfl, fun j => by
    by_cases c : j = 2
    · rw [if_pos c, c]; exact hl
    · rw [if_neg c], fun j => by rw [if_neg (by omega)]⟩, ?_⟩
  rintro ⟨l2, h1⟩ ⟨i, hi, e1, fr, r1, j1, e2, e3⟩
  dsimp only at e1 fr r1 j1 e2 e3
  show wb_X12_come_3 70 w Q _ l2 h1
  unfold wb_X12_come_3
  have hR1 : qR h1 70 1 = some 71 := by rw [r1]; exact hR
  have hL1 : qL h1 71 = 640 := by rw [fr.L]; exact hL
  have e4 : qI h1 70 2 = nI (len + i) := by rw [e2, if_pos rfl]
  refine ⟨fun c => ?_, fun c => ?_⟩
  · have : i = 4 := (shf_neg hi).mp (by rw [← e1]; exact c)
    subst this
    exact k h1 fr r1 j1 e2 e3
  · have hi4 : i < 4 := by
      rcases Nat.lt_or_ge i 4 with q | q
      · exact q
      · exact absurd (by rw [e1]; exact (shf_neg hi).mpr (by omega)) c
    rw [e4]
    refine ⟨71, hR1, by rw [hL1]; exact vp_in_nI (by omega) (by omega), ?_⟩
    intro h2 eh2 h3 eh3 v ev
    have eI2 : qI h2 70 2 = nI (len + i) := by rw [eh2, rI_sI, if_neg (by decide)]; exact e4
    refine ⟨⟨i + 1, by omega, by rw [ev, e1]; exact shf_step hi4, ?_, ?_, ?_, ?_, ?_⟩, ?_⟩
    · show Fr [70, 71] h h3
      rw [eh3, eh2]
      exact (fr.tr (Fr.sI _ _ _ _) (fun _ q => q) (by decide)).tr (Fr.sI _ _ _ _) (fun _ q => q) (by decide)
    · show qR h3 70 = qR h 70
      rw [eh3, eh2]; exact r1
    · show qJ h3 70 = qJ h 70
      rw [eh3, eh2]; exact j1
    · intro j
      show qI h3 70 j = _
      rw [eh3, rI_sI, if_pos rfl, up_at, eI2, nI_1]
      by_cases c1 : j = 2
      · rw [if_pos c1, if_pos c1]; rfl
      · rw [if_neg c1, if_neg c1, eh2, rI_sI, if_neg (by decide), e2, if_neg c1]
    · intro j
      show qI h3 71 j = _
      rw [eh3, rI_sI, if_neg (by decide), eh2, rI_sI, if_pos rfl, up_at, nI_clamp (by omega), e3 j]
      by_cases c1 : j = len + i
      · rw [if_pos c1, if_pos (by omega), c1, show len + i - len = i by omega, e1]
        unfold mbt shf
        rw [if_pos hi4]
      · rw [if_neg c1]
        by_cases c2 : len ≤ j ∧ j < len + i
        · rw [if_pos c2, if_pos (by omega)]
        · rw [if_neg c2, if_neg (by omega)]
    · show (v.toInt + 9).toNat < (l2.toInt + 9).toNat
      rw [ev, e1]
      rcases (show i = 0 ∨ i = 1 ∨ i = 2 ∨ i = 3 by omega) with rfl | rfl | rfl | rfl <;> decide

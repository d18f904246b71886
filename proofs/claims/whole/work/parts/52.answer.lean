/-! ===== PURE: the shortest way to SEE; the call answer ===== -/
/-- where saying s leads from state k, if it is told (row L) -/
def ato (L : Nat → Int32) (k s : Nat) : Nat := (L (7 * k + s)).toNatClampNeg
def aeg (R : Nat → Bool) (L : Nat → Int32) (k s : Nat) : Prop := R s = true ∧ ¬ L (7 * k + s) = -1
def wnP (R : Nat → Bool) (L : Nat → Int32) : Nat → Nat → Prop
  | 0, k => k = 9
  | d + 1, k => wnP R L d k ∨ ∃ s, s < 7 ∧ aeg R L k s ∧ wnP R L d (ato L k s)
noncomputable def wnB (R : Nat → Bool) (L : Nat → Int32) (d k : Nat) : Bool := @decide (wnP R L d k) (Classical.propDecidable _)
theorem wnB_iff (R : Nat → Bool) (L : Nat → Int32) (d k : Nat) : wnB R L d k = true ↔ wnP R L d k := by
  unfold wnB
  exact @decide_eq_true_iff _ (Classical.propDecidable _)
theorem cn_lt {c c2 : Nat → Bool} : ∀ {n : Nat}, (∀ i, i < n → c i = true → c2 i = true) → (∃ k, k < n ∧ c2 k = true ∧ c k = false) → cn c n + 1 ≤ cn c2 n
  | 0, _, ⟨k, hk, _⟩ => absurd hk (Nat.not_lt_zero k)
  | n + 1, h, ⟨k, hk, a, b⟩ => by
    have le : cn c n ≤ cn c2 n := by
      have : ∀ m, m ≤ n → cn c m ≤ cn c2 m := by
        intro m
        induction m with
        | zero => intro _; exact Nat.le_refl _
        | succ m ih =>
          intro hm
          have := ih (by omega)
          have t := h m (by omega)
          show cn c m + _ ≤ cn c2 m + _
          by_cases z : c m = true
          · rw [if_pos z, if_pos (t z)]; omega
          · rw [if_neg z]; omega
      exact this n (Nat.le_refl n)
    show cn c n + _ + 1 ≤ cn c2 n + _
    rcases (show k = n ∨ k < n by omega) with z | z
    · subst z
      rw [if_neg (by rw [b]; decide), if_pos a]; omega
    · have ih := cn_lt (c := c) (c2 := c2) (n := n) (fun i hi => h i (by omega)) ⟨k, z, a, b⟩
      have t := h n (by omega)
      by_cases y : c n = true
      · rw [if_pos y, if_pos (t y)]; omega
      · rw [if_neg y]; omega
theorem wn_stab {R : Nat → Bool} {L : Nat → Int32} (hL : ∀ i, i < 70 → isLd (L i)) {d : Nat} (s : ∀ k, k < 10 → wnP R L (d + 1) k → wnP R L d k) : ∀ k, k < 10 → wnP R L (d + 2) k → wnP R L (d + 1) k := by
  intro k hk w
  rcases w with w | ⟨t, ht, e, w⟩
  · exact w
  · refine Or.inr ⟨t, ht, e, s _ ?_ w⟩
    rcases hL (7 * k + t) (by omega) with z | ⟨v, hv, z⟩
    · exact absurd z e.2
    · unfold ato
      rw [z, nI_clamp (by omega)]; exact hv
theorem wn_10 {R : Nat → Bool} {L : Nat → Int32} (hL : ∀ i, i < 70 → isLd (L i)) : ∀ k, k < 10 → wnP R L 10 k → wnP R L 9 k := by
  have key : ∀ d, d + 1 ≤ cn (wnB R L d) 10 ∨ ∀ k, k < 10 → wnP R L (d + 1) k → wnP R L d k := by
    intro d
    induction d with
    | zero =>
      left
      have := cn_lt (c := fun _ => false) (c2 := wnB R L 0) (n := 10) (fun i hi z => by cases z) ⟨9, by decide, (wnB_iff R L 0 9).mpr rfl, rfl⟩
      omega
    | succ d ih =>
      rcases ih with ih | ih
      · by_cases st : ∀ k, k < 10 → wnP R L (d + 1) k → wnP R L d k
        · exact Or.inr (wn_stab hL st)
        · left
          have ex : ∃ k, k < 10 ∧ wnP R L (d + 1) k ∧ ¬ wnP R L d k := by
            apply Classical.byContradiction
            intro z
            apply st
            intro k hk w
            apply Classical.byContradiction
            intro y
            exact z ⟨k, hk, w, y⟩
          obtain ⟨k, hk, w, nw⟩ := ex
          have := cn_lt (c := wnB R L d) (c2 := wnB R L (d + 1)) (n := 10) (fun i hi z => (wnB_iff _ _ _ _).mpr (Or.inl ((wnB_iff _ _ _ _).mp z))) ⟨k, hk, (wnB_iff _ _ _ _).mpr w, by
            cases z : wnB R L d k with
            | false => rfl
            | true => exact absurd ((wnB_iff _ _ _ _).mp z) nw⟩
          omega
      · exact Or.inr (wn_stab hL ih)
  rcases key 9 with z | z
  · have le := cn_le (wnB R L 9) 10
    have all := (cn_full 10).mp (show cn (wnB R L 9) 10 = 10 by omega)
    exact fun k hk _ => (wnB_iff _ _ _ _).mp (all k hk)
  · exact z
/-- how many right sayings it takes from k; 1000: never -/
noncomputable def dst (R : Nat → Bool) (L : Nat → Int32) (k : Nat) : Nat := if fj (fun d => wnB R L d k) 10 < 10 then fj (fun d => wnB R L d k) 10 else 1000
theorem wn_mono {R : Nat → Bool} {L : Nat → Int32} {d k : Nat} (w : wnP R L d k) : wnP R L (d + 1) k := Or.inl w
theorem dst_le {R : Nat → Bool} {L : Nat → Int32} {d k : Nat} (hd : d < 10) (w : wnP R L d k) : dst R L k ≤ d := by
  obtain ⟨a, b, c⟩ := fj_spec (fun d => wnB R L d k) 10
  unfold dst
  generalize fj (fun d => wnB R L d k) 10 = x at *
  have le : x ≤ d := by
    rcases Nat.lt_or_ge d x with z | z
    · have b2 : wnB R L d k = false := b d z
      rw [(wnB_iff R L d k).mpr w] at b2; cases b2
    · exact z
  rw [if_pos (by omega)]; exact le
theorem dst_w {R : Nat → Bool} {L : Nat → Int32} {k : Nat} (h : dst R L k < 1000) : ∃ d, d < 10 ∧ dst R L k = d ∧ wnP R L d k := by
  obtain ⟨a, b, c⟩ := fj_spec (fun d => wnB R L d k) 10
  unfold dst at h ⊢
  generalize fj (fun d => wnB R L d k) 10 = x at *
  by_cases z : x < 10
  · have c2 : wnB R L x k = true := c z
    exact ⟨x, z, if_pos z, (wnB_iff R L x k).mp c2⟩
  · rw [if_neg z] at h; omega
theorem dst_max (R : Nat → Bool) (L : Nat → Int32) (k : Nat) : dst R L k ≤ 1000 := by
  unfold dst
  split <;> omega
theorem dst_9 (R : Nat → Bool) (L : Nat → Int32) : dst R L 9 = 0 := by
  have := dst_le (R := R) (L := L) (d := 0) (k := 9) (by decide) rfl
  omega
theorem dst_n9 {R : Nat → Bool} {L : Nat → Int32} {k : Nat} (hk : k ≠ 9) : 1 ≤ dst R L k := by
  rcases Nat.eq_zero_or_pos (dst R L k) with z | z
  · obtain ⟨d, d1, d2, d3⟩ := dst_w (R := R) (L := L) (k := k) (by omega)
    have : d = 0 := by omega
    subst this
    exact absurd d3 hk
  · exact z
theorem dst_up {R : Nat → Bool} {L : Nat → Int32} (hL : ∀ i, i < 70 → isLd (L i)) {k s : Nat} (hk : k < 10) (hs : s < 7) (e : aeg R L k s) : dst R L k ≤ dst R L (ato L k s) + 1 := by
  by_cases z : dst R L (ato L k s) < 1000
  · obtain ⟨d, a, ed, b⟩ := dst_w z
    rw [ed]
    have w : wnP R L (d + 1) k := Or.inr ⟨s, hs, e, b⟩
    rcases (show d + 1 < 10 ∨ d = 9 by omega) with y | y
    · exact dst_le y w
    · subst y
      have := dst_le (d := 9) (by decide) (wn_10 hL k hk w)
      omega
  · have := dst_max R L k
    omega
theorem dst_dn {R : Nat → Bool} {L : Nat → Int32} (hL : ∀ i, i < 70 → isLd (L i)) {k d : Nat} (hk : k < 10) (h : dst R L k = d + 1) (hd : d < 9) : ∃ s, s < 7 ∧ aeg R L k s ∧ dst R L (ato L k s) = d := by
  obtain ⟨x, a, ex, b⟩ := dst_w (R := R) (L := L) (k := k) (by omega)
  have : x = d + 1 := by omega
  subst this
  rcases b with b | ⟨s, hs, e, b⟩
  · have := dst_le (R := R) (L := L) (by omega) b
    omega
  · have l1 := dst_le (R := R) (L := L) (by omega) b
    have l2 := dst_up hL hk hs e
    exact ⟨s, hs, e, by omega⟩
theorem dst_10 {R : Nat → Bool} {L : Nat → Int32} {k : Nat} (h : dst R L k < 1000) : dst R L k < 10 := by
  obtain ⟨d, a, ed, _⟩ := dst_w h
  omega
/-! the class's way -/
def aft (L : Nat → Int32) (k s : Nat) : Nat := if L (7 * k + s) = -1 then k else ato L k s
theorem ato_lt {L : Nat → Int32} (hL : ∀ i, i < 70 → isLd (L i)) {k s : Nat} (hk : k < 10) (hs : s < 7) (e : ¬ L (7 * k + s) = -1) : ato L k s < 10 ∧ L (7 * k + s) = nI (ato L k s) := by
  rcases hL (7 * k + s) (by omega) with z | ⟨v, hv, z⟩
  · exact absurd z e
  · unfold ato
    rw [z, nI_clamp (by omega)]; exact ⟨hv, rfl⟩
theorem aft_lt {L : Nat → Int32} (hL : ∀ i, i < 70 → isLd (L i)) {k s : Nat} (hk : k < 10) (hs : s < 7) : aft L k s < 10 := by
  unfold aft
  split
  · exact hk
  · rename_i z
    exact (ato_lt hL hk hs z).1
/-- the inventor c of the class -/
def Iv (h : PH) (c : Nat) (L : Nat → Int32) : Prop := (qR h c 0 = some (c + 1) ∧ qR h c 1 = some (c + 2)) ∧ (qL h (c + 1) = 70 ∧ qL h (c + 2) = 10) ∧ (∀ i, i < 70 → qI h (c + 1) i = L i) ∧ ∀ i, i < 70 → isLd (L i)
theorem Iv.fg {h h1 : PH} {c : Nat} {L : Nat → Int32} {S : List Nat} (v : Iv h c L) (f : Fg S [] h h1) (n1 : c ∉ S) (n2 : c + 1 ∉ S) : Iv h1 c L := by
  obtain ⟨⟨a1, a2⟩, ⟨b1, b2⟩, c1, d1⟩ := v
  exact ⟨⟨by rw [(f.ne n1 _).2.2]; exact a1, by rw [(f.ne n1 _).2.2]; exact a2⟩, ⟨by rw [f.L]; exact b1, by rw [f.L]; exact b2⟩, fun i hi => by rw [(f.ne n2 _).1]; exact c1 i hi, d1⟩
theorem x7 (k s : Nat) : nI k * 7 + nI s = nI (7 * k + s) := by rw [show (7 : Int32) = nI 7 from rfl, pk_mul, nI_add, Nat.mul_comm]
theorem saft_ok {h : PH} {c k s : Nat} {L : Nat → Int32} {Q : Int32 → PH → Prop} (v : Iv h c L) (hk : k < 10) (hs : s < 7) (q : Q (nI (aft L k s)) h) : wp_X3_stateAfter c (nI k) (nI s) h Q := by
  obtain ⟨⟨a1, a2⟩, ⟨b1, b2⟩, c1, d1⟩ := v
  refine ⟨c + 1, a1, ?_⟩
  rw [x7, b1, nI_clamp (by omega), c1 _ (by omega)]
  refine ⟨vp_in_nI (by omega) (by decide), fun v4 e4 => ⟨fun z => ?_, fun z => ?_⟩⟩
  · rw [e4] at z ⊢
    unfold aft at q
    rw [if_neg z] at q
    rw [(ato_lt d1 hk hs z).2]; exact q
  · rw [e4] at z
    unfold aft at q
    rw [if_pos z] at q; exact q
def fbs (R : Nat → Bool) (L : Nat → Int32) (F : Nat → Nat) (k : Nat) : Nat → Nat
  | 0 => 1000
  | s + 1 => if R s = true then min (fbs R L F k s) (F (aft L k s) + 1) else fbs R L F k s
theorem fbs_le (R : Nat → Bool) (L : Nat → Int32) (F : Nat → Nat) (k : Nat) : ∀ s, fbs R L F k s ≤ 1000
  | 0 => Nat.le_refl _
  | s + 1 => by
    have := fbs_le R L F k s
    unfold fbs
    split <;> omega
def FarC (h : PH) (c : Nat) (F : Nat → Nat) : Prop := ∀ k, k < 10 → qI h (c + 2) k = nI (F k) ∧ F k ≤ 1000
theorem bsR_lt (R : Nat → Bool) {k : Nat} (hk : k ≤ 7) : bs R k < 4096 := by
  have := bs_lt R k
  have p : 2 ^ k ≤ 2 ^ 7 := Nat.pow_le_pow_right (by decide) hk
  omega
theorem bsR_bit (R : Nat → Bool) {s : Nat} (hs : s < 7) : bs R 7 / 2 ^ s % 2 = 0 ↔ R s = false := by
  rw [bs_bit R 7 hs]
  cases R s <;> decide
theorem fbs_ok {h : PH} {c k : Nat} {R : Nat → Bool} {L : Nat → Int32} {F : Nat → Nat} {Q : Int32 → PH → Prop} (v : Iv h c L) (fc : FarC h c F) (hk : k < 10) (q : Q (nI (fbs R L F k 7)) h) : wp_X3_farBySaying c (nI k) (nI (bs R 7)) h Q := by
  refine loopR 7 (fun s st => st = (nI (fbs R L F k s), nI s, h)) (fun st => st.2.1.toNatClampNeg) rfl (fun k s hk p => by rw [p]; exact nI_clamp (by omega)) ?_ ?_
  · intro s st hs p back hb
    subst p
    have bt := (bitS (bsR_lt R (Nat.le_refl 7)) (show s < 12 by omega)).1
    have al := aft_lt v.2.2.2 hk hs
    have fl := fbs_le R L F k s
    have fa := (fc _ al).2
    refine pk_le 7 s (fun z => by omega) (fun _ => ⟨fun z w ew => hb _ ?_, fun z => ⟨c + 2, v.1.2, saft_ok v hk hs ⟨by rw [v.2.1.2]; exact vp_in_nI al (by decide), min_ok (fun w ew => hb _ ?_)⟩⟩⟩)
    · rw [ew, nI_1]
      show _ = (nI (if _ then _ else _), _, _)
      rw [if_neg (by rw [(bsR_bit R hs).mp (bt.mp z)]; decide)]
    · rw [nI_clamp (by omega), (fc _ al).1, nI_1, qmin_n (by omega) (by omega), ew, nI_1]
      show _ = (nI (if _ then _ else _), _, _)
      rw [if_pos]
      cases hR : R s with
      | true => rfl
      | false => exact absurd (bt.mpr ((bsR_bit R hs).mpr hR)) z
  · intro st p back
    subst p
    exact pk_le 7 7 (fun _ => q) (fun z => by omega)
/-- F is not below the true ways, and has those of at most r -/
def FI (R : Nat → Bool) (L : Nat → Int32) (F : Nat → Nat) (r l : Nat) : Prop := ∀ k, k < 10 → dst R L k ≤ F k ∧ F k ≤ 1000 ∧ (dst R L k ≤ r → F k = dst R L k) ∧ (k < l → dst R L k ≤ r + 1 → F k = dst R L k)
theorem fbs_lo {R : Nat → Bool} {L : Nat → Int32} {F : Nat → Nat} {r l k : Nat} (hL : ∀ i, i < 70 → isLd (L i)) (f : FI R L F r l) (hk : k < 10) : ∀ s, s ≤ 7 → dst R L k ≤ fbs R L F k s
  | 0, _ => dst_max R L k
  | s + 1, hs => by
    have ih := fbs_lo hL f hk s (by omega)
    unfold fbs
    by_cases z : R s = true
    · rw [if_pos z]
      have : dst R L k ≤ F (aft L k s) + 1 := by
        unfold aft
        by_cases y : L (7 * k + s) = -1
        · rw [if_pos y]
          have := (f k hk).1; omega
        · rw [if_neg y]
          have a := ato_lt hL hk (show s < 7 by omega) y
          have b := dst_up hL hk (show s < 7 by omega) ⟨z, y⟩
          have d := (f _ a.1).1
          omega
      omega
    · rw [if_neg z]; exact ih
theorem fbs_hi {R : Nat → Bool} {L : Nat → Int32} {F : Nat → Nat} {k s : Nat} (e : aeg R L k s) : ∀ m, s < m → fbs R L F k m ≤ F (ato L k s) + 1
  | 0, h => absurd h (Nat.not_lt_zero s)
  | m + 1, h => by
    unfold fbs
    rcases (show s = m ∨ s < m by omega) with z | z
    · subst z
      rw [if_pos e.1]
      unfold aft
      rw [if_neg e.2]
      omega
    · have := fbs_hi e m z (F := F)
      split <;> omega
theorem FI_step {R : Nat → Bool} {L : Nat → Int32} {F : Nat → Nat} {r l : Nat} (hL : ∀ i, i < 70 → isLd (L i)) (f : FI R L F r l) (hl : l < 9) (hr : r ≤ 9) : FI R L (fun k => if k = l then min (F l) (fbs R L F l 7) else F k) r (l + 1) := by
  intro k hk
  dsimp only
  obtain ⟨f1, f2, f3, f4⟩ := f k hk
  by_cases z : k = l
  · subst z
    rw [if_pos rfl]
    have lo := fbs_lo hL f hk 7 (Nat.le_refl 7)
    refine ⟨by omega, by omega, fun y => by have := f3 y; omega, fun _ y => ?_⟩
    rcases (show dst R L k ≤ r ∨ dst R L k = r + 1 by omega) with x | x
    · have := f3 x; omega
    · rcases (show r < 9 ∨ r = 9 by omega) with t | t
      · obtain ⟨s, hs, e, ed⟩ := dst_dn hL hk x t
        have a := ato_lt hL hk hs e.2
        have fa := (f _ a.1).2.2.1 (by omega)
        have hi := fbs_hi e (F := F) 7 hs
        omega
      · have := dst_10 (R := R) (L := L) (k := k) (by omega)
        omega
  · rw [if_neg z]
    exact ⟨f1, f2, f3, fun y1 y2 => f4 (by omega) y2⟩
theorem FI_end {R : Nat → Bool} {L : Nat → Int32} {F : Nat → Nat} {r : Nat} (f : FI R L F r 9) : FI R L F (r + 1) 0 := by
  intro k hk
  obtain ⟨f1, f2, f3, f4⟩ := f k hk
  refine ⟨f1, f2, fun y => ?_, fun y => by omega⟩
  rcases (show k < 9 ∨ k = 9 by omega) with z | z
  · exact f4 z y
  · subst z
    exact f3 (by rw [dst_9]; omega)
theorem meas_ok {h : PH} {c : Nat} {R : Nat → Bool} {L : Nat → Int32} {Q : PH → Prop} (v : Iv h c L) (q : ∀ h1, Fg [c + 2] [] h h1 → FarC h1 c (dst R L) → Q h1) : wp_X3_measure c (nI (bs R 7)) h Q := by
  have hL := v.2.2.2
  have iv : ∀ h1, Fg [c + 2] [] h h1 → Iv h1 c L := fun h1 f => v.fg f (by simp) (by simp)
  refine loopR 10 (fun k s => s.1 = nI k ∧ Fg [c + 2] [] h s.2 ∧ ∀ j, j < k → qI s.2 (c + 2) j = nI (if j = 9 then 0 else 1000)) (fun s => s.1.toNatClampNeg) ⟨rfl, Fg.rf _ _ _, fun j hj => absurd hj (Nat.not_lt_zero j)⟩ (fun k s hk p => by rw [p.1]; exact nI_clamp (by omega)) ?_ ?_
  · rintro k ⟨k', g⟩ hk ⟨s1, s2, s3⟩ back hb
    dsimp only at s1 s2 s3
    subst s1
    have vg := iv g s2
    have i10 : vp_in (nI k) (qL g (c + 2)) := by rw [vg.2.1.2]; exact vp_in_nI hk (by decide)
    have fin : ∀ (g2 : PH) (x w : Int32), g2 = qsI g (c + 2) (nI k).toNatClampNeg x → x = nI (if k = 9 then 0 else 1000) → w = nI k + 1 → back (w, g2) := fun g2 x w e2 ex ew => hb _ ⟨by rw [ew]; exact nI_1 k, by rw [e2]; exact s2.push _ _, fun j hj => by
      show qI g2 (c + 2) j = _
      rw [e2, nI_clamp (by omega), rI_sI, if_pos rfl, up_at]
      by_cases z : j = k
      · rw [if_pos z, ex, z]
      · rw [if_neg z]; exact s3 j (by omega)⟩
    exact pk_le 10 k (fun z => by omega) (fun _ => ⟨c + 2, vg.1.2, n_eq k 9 (fun z => ⟨i10, fun g2 e2 w ew => fin g2 _ w e2 (by rw [if_neg z]; rfl) ew⟩) (fun z => ⟨i10, fun g2 e2 w ew => fin g2 _ w e2 (by rw [if_pos z]; rfl) ew⟩)⟩)
  · rintro ⟨k', g⟩ ⟨s1, s2, s3⟩ back
    dsimp only at s1 s2 s3
    subst s1
    refine pk_le 10 10 (fun _ => ?_) (fun z => by omega)
    refine loopR 10 (fun r s => s.1 = nI r ∧ Fg [c + 2] [] h s.2 ∧ ∃ F, FarC s.2 c F ∧ FI R L F r 0) (fun s => s.1.toNatClampNeg) ⟨rfl, s2, fun k => if k = 9 then 0 else 1000, fun k hk => ⟨s3 k hk, by dsimp only; split <;> omega⟩, fun k hk => ?_⟩ (fun k s hk p => by rw [p.1]; exact nI_clamp (by omega)) ?_ ?_
    · dsimp only
      by_cases z : k = 9
      · subst z
        rw [if_pos rfl, dst_9]
        exact ⟨by omega, by omega, fun _ => rfl, fun _ _ => rfl⟩
      · rw [if_neg z]
        have := dst_max R L k
        have := dst_n9 (R := R) (L := L) z
        exact ⟨by omega, by omega, fun y => by omega, fun y => by omega⟩
    · rintro r ⟨r', g1⟩ hr ⟨u1, u2, F, u3, u4⟩ back2 hb2
      dsimp only at u1 u2 u3
      subst u1
      refine pk_le 10 r (fun z => by omega) (fun _ => ?_)
      refine loopR 9 (fun l s => s.1 = nI l ∧ Fg [c + 2] [] h s.2 ∧ ∃ F, FarC s.2 c F ∧ FI R L F r l) (fun s => s.1.toNatClampNeg) ⟨rfl, u2, F, u3, u4⟩ (fun k s hk p => by rw [p.1]; exact nI_clamp (by omega)) ?_ ?_
      · rintro l ⟨l', g2⟩ hl ⟨w1, w2, F2, w3, w4⟩ back3 hb3
        dsimp only at w1 w2 w3
        subst w1
        have vg := iv g2 w2
        have i10 : vp_in (nI l) (qL g2 (c + 2)) := by rw [vg.2.1.2]; exact vp_in_nI (by omega) (by decide)
        refine pk_le 9 l (fun z => by omega) (fun _ => ⟨c + 2, vg.1.2, c + 2, vg.1.2, i10, fbs_ok vg w3 (by omega) (min_ok ⟨i10, fun g3 e3 w ew => hb3 _ ?_⟩)⟩)
        have fl := fbs_le R L F2 l 7
        have fl2 := (w3 l (by omega)).2
        dsimp only at e3
        rw [nI_clamp (by omega), (w3 l (by omega)).1, qmin_n (by omega) (by omega)] at e3
        refine ⟨by rw [ew]; exact nI_1 l, by rw [e3]; exact w2.push _ _, _, fun k hk => ⟨?_, (FI_step hL w4 hl (by omega) k hk).2.1⟩, FI_step hL w4 hl (by omega)⟩
        show qI g3 (c + 2) k = _
        rw [e3, rI_sI, if_pos rfl, up_at]
        by_cases z : k = l
        · rw [if_pos z, if_pos z]
        · rw [if_neg z, if_neg z]; exact (w3 k hk).1
      · rintro ⟨l', g2⟩ ⟨w1, w2, F2, w3, w4⟩ back3
        dsimp only at w1 w2 w3
        subst w1
        exact pk_le 9 9 (fun _ w ew => hb2 _ ⟨by rw [ew]; exact nI_1 r, w2, F2, w3, FI_end w4⟩) (fun z => by omega)
    · rintro ⟨r', g1⟩ ⟨u1, u2, F, u3, u4⟩ back2
      dsimp only at u1 u2 u3
      subst u1
      refine pk_le 10 10 (fun _ => q g1 u2 (fun k hk => ?_)) (fun z => by omega)
      obtain ⟨f1, f2, f3, _⟩ := u4 k hk
      have e : F k = dst R L k := by
        by_cases z : dst R L k < 1000
        · exact f3 (by have := dst_10 z; omega)
        · omega
      rw [← e]; exact u3 k hk
/-! the row that is told -/
def pok (R : Nat → Bool) (L : Nat → Int32) (k s : Nat) : Prop := aeg R L k s ∧ dst R L (ato L k s) + 1 = dst R L k
noncomputable def pokB (R : Nat → Bool) (L : Nat → Int32) (k s : Nat) : Bool := @decide (pok R L k s) (Classical.propDecidable _)
theorem pokB_iff (R : Nat → Bool) (L : Nat → Int32) (k s : Nat) : pokB R L k s = true ↔ pok R L k s := by
  unfold pokB
  exact @decide_eq_true_iff _ (Classical.propDecidable _)
theorem pokB_no {R : Nat → Bool} {L : Nat → Int32} {k s : Nat} (h : ¬ pok R L k s) : pokB R L k s = false := by
  cases z : pokB R L k s with
  | false => rfl
  | true => exact absurd ((pokB_iff R L k s).mp z) h
noncomputable def pick (R : Nat → Bool) (L : Nat → Int32) (k : Nat) : Nat := fj (pokB R L k) 7
noncomputable def stt (R : Nat → Bool) (L : Nat → Int32) : Nat → Nat
  | 0 => 0
  | i + 1 => ato L (stt R L i) (pick R L (stt R L i))
theorem pick_ok {R : Nat → Bool} {L : Nat → Int32} (hL : ∀ i, i < 70 → isLd (L i)) {k : Nat} (hk : k < 10) (h1 : 1 ≤ dst R L k) (h2 : dst R L k < 10) : pick R L k < 7 ∧ pok R L k (pick R L k) ∧ ∀ s, s < pick R L k → ¬ pok R L k s := by
  obtain ⟨s, hs, e, ed⟩ := dst_dn (R := R) hL hk (d := dst R L k - 1) (by omega) (by omega)
  obtain ⟨a, b, c⟩ := fj_spec (pokB R L k) 7
  unfold pick
  generalize fj (pokB R L k) 7 = x at *
  have lt : x < 7 := by
    rcases Nat.lt_or_ge s x with z | z
    · have b2 := b s z
      rw [(pokB_iff R L k s).mpr ⟨e, by omega⟩] at b2; cases b2
    · omega
  exact ⟨lt, (pokB_iff R L k x).mp (c lt), fun t ht z => by have b2 := b t ht; rw [(pokB_iff R L k t).mpr z] at b2; cases b2⟩
theorem stt_ok {R : Nat → Bool} {L : Nat → Int32} (hL : ∀ i, i < 70 → isLd (L i)) (h0 : dst R L 0 < 10) : ∀ i, i ≤ dst R L 0 → stt R L i < 10 ∧ dst R L (stt R L i) + i = dst R L 0
  | 0, _ => ⟨by show 0 < 10; decide, by show dst R L 0 + 0 = dst R L 0; exact Nat.add_zero _⟩
  | i + 1, hi => by
    obtain ⟨a, b⟩ := stt_ok hL h0 i (by omega)
    obtain ⟨p1, p2, p3⟩ := pick_ok (R := R) hL a (by omega) (by omega)
    show ato L (stt R L i) (pick R L (stt R L i)) < 10 ∧ dst R L (ato L (stt R L i) (pick R L (stt R L i))) + (i + 1) = dst R L 0
    refine ⟨(ato_lt hL a p1 p2.1.2).1, ?_⟩
    have := p2.2
    omega
theorem near_ok {h : PH} {c k : Nat} {R : Nat → Bool} {L : Nat → Int32} {Q : Int32 → PH → Prop} (v : Iv h c L) (fc : FarC h c (dst R L)) (hk : k < 10) (h1 : 1 ≤ dst R L k) (h2 : dst R L k < 10) (q : Q (nI (pick R L k)) h) : wp_X3_nearingSaying c (nI k) (nI (bs R 7)) h Q := by
  have hL := v.2.2.2
  obtain ⟨p1, p2, p3⟩ := pick_ok hL hk h1 h2
  refine loopR (pick R L k) (fun s st => st = (nI s, h)) (fun st => st.1.toNatClampNeg) rfl (fun k s hk p => by rw [p]; exact nI_clamp (by omega)) ?_ ?_
  · intro s st hs p back hb
    subst p
    have bt := (bitS (bsR_lt R (Nat.le_refl 7)) (show s < 12 by omega)).1
    have np := p3 s hs
    have al := aft_lt hL hk (show s < 7 by omega)
    refine pk_le 7 s (fun z => by omega) (fun _ => ⟨fun z => ⟨fun _ w ew => hb _ (by rw [ew, nI_1]), fun y => absurd rfl y⟩, fun z => ⟨fun y => absurd y (by decide), fun _ => ⟨c + 2, v.1.2, saft_ok v hk (by omega) ⟨by rw [v.2.1.2]; exact vp_in_nI al (by decide), c + 2, v.1.2, by rw [v.2.1.2]; exact vp_in_nI hk (by decide), ?_⟩⟩⟩⟩)
    rw [nI_clamp (by omega), nI_clamp (by omega), (fc _ al).1, (fc _ hk).1]
    have fa := (fc _ al).2
    have Rs : R s = true := by
      cases hR : R s with
      | true => rfl
      | false => exact absurd (bt.mpr ((bsR_bit R (by omega)).mpr hR)) z
    refine pk_le (dst R L k) (dst R L (aft L k s)) (fun y w ew => hb _ (by rw [ew, nI_1])) (fun y => absurd ?_ np)
    unfold aft at y
    by_cases x : L (7 * k + s) = -1
    · rw [if_pos x] at y; omega
    · rw [if_neg x] at y
      have := dst_up hL hk (show s < 7 by omega) (R := R) ⟨Rs, x⟩
      exact ⟨⟨Rs, x⟩, by omega⟩
  · intro st p back
    subst p
    generalize pick R L k = s at *
    have bt := (bitS (bsR_lt R (Nat.le_refl 7)) (show s < 12 by omega)).1
    have al := aft_lt hL hk p1
    obtain ⟨⟨e1, e2⟩, e3⟩ := p2
    refine pk_le 7 s (fun z => by omega) (fun _ => ⟨fun z => absurd ((bsR_bit R p1).mp (bt.mp z)) (by rw [e1]; decide), fun z => ⟨fun y => absurd y (by decide), fun _ => ⟨c + 2, v.1.2, saft_ok v hk p1 ⟨by rw [v.2.1.2]; exact vp_in_nI al (by decide), c + 2, v.1.2, by rw [v.2.1.2]; exact vp_in_nI hk (by decide), ?_⟩⟩⟩⟩)
    rw [nI_clamp (by omega), nI_clamp (by omega), (fc _ al).1, (fc _ hk).1]
    have fa := (fc _ al).2
    refine pk_le (dst R L k) (dst R L (aft L k s)) (fun y => ?_) (fun _ => q)
    unfold aft at y
    rw [if_neg e2] at y
    omega
theorem tell_ok {h : PH} {c : Nat} {R : Nat → Bool} {L : Nat → Int32} {Q : PH → Prop} (hc : c = 64 ∨ c = 67) (v : Iv h c L) (fc : FarC h c (dst R L)) (l25 : qL h 25 = 10) (h0 : dst R L 0 < 10) (q : ∀ h1, Fg [25] [] h h1 → (∀ j, j < dst R L 0 → qI h1 25 j = nI (pick R L (stt R L j))) → Q h1) : wp_X3_tellShortest c (nI (bs R 7)) 25 h Q := by
  have hL := v.2.2.2
  refine loopR (dst R L 0) (fun i s => s.1 = nI (stt R L i) ∧ s.2.1 = nI i ∧ Fg [25] [] h s.2.2 ∧ ∀ j, j < i → qI s.2.2 25 j = nI (pick R L (stt R L j))) (fun s => s.2.1.toNatClampNeg) ⟨rfl, rfl, Fg.rf _ _ _, fun j hj => absurd hj (Nat.not_lt_zero j)⟩ (fun k s hk p => by rw [p.2.1]; exact nI_clamp (by omega)) ?_ ?_
  · rintro i ⟨a, b, g⟩ hi ⟨s1, s2, s3, s4⟩ back hb
    dsimp only at s1 s2 s3 s4
    subst s1 s2
    obtain ⟨t1, t2⟩ := stt_ok hL h0 i (by omega)
    have vg : Iv g c L := v.fg s3 (by simp; omega) (by simp; omega)
    have fg : FarC g c (dst R L) := fun k hk => ⟨by rw [(s3.ne (by simp; omega) k).1]; exact (fc k hk).1, (fc k hk).2⟩
    have lg : qL g 25 = 10 := by rw [s3.L]; exact l25
    obtain ⟨p1, p2, p3⟩ := pick_ok hL t1 (R := R) (by omega) (by omega)
    refine ⟨fun z => absurd z ?_, fun _ => pk_eq (stt R L i) 9 (fun z => ?_) (fun z => near_ok vg fg t1 (by omega) (by omega) ⟨by rw [lg]; exact vp_in_nI (by omega) (by decide), fun g2 e2 => ⟨by rw [show qL g2 25 = 10 by rw [e2]; exact lg]; exact vp_in_nI (by omega) (by decide), ?_⟩⟩)⟩
    · rw [lg]; exact nI_ge (b := 10) (by omega) (by decide)
    · rw [z, dst_9] at t2; omega
    · rw [nI_clamp (show i < 2 ^ 31 by omega)] at e2 ⊢
      have e25 : qI g2 25 i = nI (pick R L (stt R L i)) := by rw [e2, rI_sI, if_pos rfl, up_eq]
      rw [e25]
      have f2 : Fg [25] [] h g2 := by rw [e2]; exact s3.push _ _
      refine saft_ok (v.fg f2 (by simp; omega) (by simp; omega)) t1 p1 (fun w ew => hb _ ⟨?_, by rw [ew]; exact nI_1 i, f2, fun j hj => ?_⟩)
      · show nI (aft L _ _) = nI (stt R L (i + 1))
        unfold aft
        rw [if_neg p2.1.2]; rfl
      · rcases (show j < i ∨ j = i by omega) with y | y
        · show qI g2 25 j = _
          rw [e2, rI_sI, if_pos rfl, up_ne _ _ (by omega)]; exact s4 j y
        · rw [y]; exact e25
  · rintro ⟨a, b, g⟩ ⟨s1, s2, s3, s4⟩ back
    dsimp only at s1 s2 s3 s4
    subst s1 s2
    obtain ⟨t1, t2⟩ := stt_ok hL h0 _ (Nat.le_refl _)
    refine ⟨fun _ => q g s3 s4, fun _ => ⟨fun _ => q g s3 s4, fun z => absurd ?_ z⟩⟩
    have : stt R L (dst R L 0) = 9 := by
      apply Classical.byContradiction
      intro y
      have := dst_n9 (R := R) (L := L) y
      omega
    show nI (stt R L (dst R L 0)) = 9
    rw [this]; rfl
/-! the model's way -/
noncomputable def mv (R : Nat → Bool) (L : Nat → Int32) (n k : Nat) : Int32 := if dst R L k ≤ n then nI (dst R L k) else -1
theorem mv_eq {R : Nat → Bool} {L : Nat → Int32} {n k i : Nat} (hi : i ≤ n) (hi2 : i < 1000) : mv R L n k = nI i ↔ dst R L k = i := by
  have dm := dst_max R L k
  unfold mv
  constructor
  · intro h
    by_cases z : dst R L k ≤ n
    · rw [if_pos z] at h; exact nI_inj (by omega) (by omega) h
    · rw [if_neg z] at h; exact absurd h.symm (nI_m1 (by omega))
  · intro h
    rw [if_pos (by omega), h]
theorem x7b (k s : Nat) : 7 * nI k + nI s = nI (7 * k + s) := by rw [show (7 : Int32) = nI 7 from rfl, pk_mul, nI_add]
theorem mans_ok {h : PH} {R : Nat → Bool} {L : Nat → Int32} {Q : Int32 → PH → Prop} (sh : Shp h) (v89 : ∀ i, i < 70 → qI h 89 i = L i) (hL : ∀ i, i < 70 → isLd (L i))
    (q0 : ¬ dst R L 0 < 10 → ∀ h1, Fg [90] [] h h1 → Q (-1) h1) (q1 : dst R L 0 < 10 → ∀ h1, Fg [90, 91] [(70, 61)] h h1 → qI h1 70 61 = nI (dst R L 0) → (∀ j, j < dst R L 0 → qI h1 91 j = nI (pick R L (stt R L j))) → Q (nI (dst R L 0)) h1) : qLoop (wp_X12_answer_58 70 (nI (bs R 7)) Q) (0, h) := by
  have Sh : ∀ {g : PH} {S : List Nat} {F : List (Nat × Nat)}, Fg S F h g → shpC S F = true → Shp g := fun f c => sh.fg f c
  have r59 : ∀ g, Fg [90] [] h g → qR g 70 59 = some 90 := fun g f => by rw [f.R rfl]; exact sh.R 70 59 90 (by decide)
  have r57 : ∀ g, Fg [90] [] h g → qR g 70 57 = some 89 := fun g f => by rw [f.R rfl]; exact sh.R 70 57 89 (by decide)
  have l90 : ∀ g, Fg [90] [] h g → qL g 90 = 10 := fun g f => by rw [f.L]; exact sh.L 90 (by decide) rfl
  have l89 : ∀ g, Fg [90] [] h g → qL g 89 = 140 := fun g f => by rw [f.L]; exact sh.L 89 (by decide) rfl
  have w89 : ∀ g, Fg [90] [] h g → ∀ i, i < 70 → qI g 89 i = L i := fun g f i hi => by rw [(f.ne (by decide) i).1]; exact v89 i hi
  refine loopR 10 (fun k s => s.1 = nI k ∧ Fg [90] [] h s.2 ∧ ∀ j, j < k → qI s.2 90 j = mv R L 0 j) (fun s => s.1.toNatClampNeg) ⟨rfl, Fg.rf _ _ _, fun j hj => absurd hj (Nat.not_lt_zero j)⟩ (fun k s hk p => by rw [p.1]; exact nI_clamp (by omega)) ?_ ?_
  · rintro k ⟨k', g⟩ hk ⟨s1, s2, s3⟩ back hb
    dsimp only at s1 s2 s3
    subst s1
    have i10 : vp_in (nI k) (qL g 90) := by rw [l90 g s2]; exact vp_in_nI hk (by decide)
    have fin : ∀ (g2 : PH) (x w : Int32), g2 = qsI g 90 (nI k).toNatClampNeg x → x = mv R L 0 k → w = nI k + 1 → back (w, g2) := fun g2 x w e2 ex ew => hb _ ⟨by rw [ew]; exact nI_1 k, by rw [e2]; exact s2.push _ _, fun j hj => by
      show qI g2 90 j = _
      rw [e2, nI_clamp (by omega), rI_sI, if_pos rfl, up_at]
      by_cases z : j = k
      · rw [if_pos z, ex, z]
      · rw [if_neg z]; exact s3 j (by omega)⟩
    refine pk_le 10 k (fun z => by omega) (fun _ => ⟨90, r59 g s2, n_eq k 9 (fun z => ⟨i10, fun g2 e2 w ew => fin g2 _ w e2 ?_ ew⟩) (fun z => ⟨i10, fun g2 e2 w ew => fin g2 _ w e2 ?_ ew⟩)⟩)
    · unfold mv
      have := dst_n9 (R := R) (L := L) z
      rw [if_neg (by omega)]
    · unfold mv
      rw [z, dst_9, if_pos (Nat.le_refl 0)]; rfl
  · rintro ⟨k', g⟩ ⟨s1, s2, s3⟩ back
    dsimp only at s1 s2 s3
    subst s1
    refine pk_le 10 10 (fun _ => ?_) (fun z => by omega)
    refine loopR 9 (fun i s => s.1 = nI (1 + i) ∧ Fg [90] [] h s.2 ∧ ∀ j, j < 10 → qI s.2 90 j = mv R L i j) (fun s => s.1.toNatClampNeg - 1) ⟨rfl, s2, s3⟩ (fun k s hk p => by rw [p.1, nI_clamp (by omega)]; omega) ?_ ?_
    · rintro i ⟨i', g1⟩ hi ⟨u1, u2, u3⟩ back2 hb2
      dsimp only at u1 u2 u3
      subst u1
      refine pk_le 10 (1 + i) (fun z => by omega) (fun _ => ?_)
      refine loopR 9 (fun k s => s.1 = nI k ∧ Fg [90] [] h s.2 ∧ ∀ j, j < 10 → qI s.2 90 j = if j < k then mv R L (1 + i) j else mv R L i j) (fun s => s.1.toNatClampNeg) ⟨rfl, u2, fun j hj => by rw [if_neg (by omega)]; exact u3 j hj⟩ (fun k s hk p => by rw [p.1]; exact nI_clamp (by omega)) ?_ ?_
      · rintro k ⟨k', g2⟩ hk ⟨w1, w2, w3⟩ back3 hb3
        dsimp only at w1 w2 w3
        subst w1
        have ck : (nI k).toNatClampNeg = k := nI_clamp (by omega)
        have ek : qI g2 90 (nI k).toNatClampNeg = mv R L i k := by rw [ck, w3 k (by omega), if_neg (by omega)]
        have i10 : vp_in (nI k) (qL g2 90) := by rw [l90 g2 w2]; exact vp_in_nI (by omega) (by decide)
        have dm := dst_max R L k
        refine pk_le 9 k (fun z => by omega) (fun _ => ⟨90, r59 g2 w2, i10, fun z => ?_, fun z w ew => hb3 _ ⟨by rw [ew]; exact nI_1 k, w2, fun j hj => ?_⟩⟩)
        · rw [ek] at z
          have nd : ¬ dst R L k ≤ i := fun y => by
            unfold mv at z
            rw [if_pos y] at z
            exact nI_m1 (by omega) z
          refine loopR 7 (fun s st => st.1 = nI s ∧ Fg [90] [] h st.2 ∧ (∀ j, j < 10 → j ≠ k → qI st.2 90 j = if j < k then mv R L (1 + i) j else mv R L i j) ∧ ((∃ t, t < s ∧ aeg R L k t ∧ dst R L (ato L k t) = i) → qI st.2 90 k = nI (1 + i)) ∧ (¬ (∃ t, t < s ∧ aeg R L k t ∧ dst R L (ato L k t) = i) → qI st.2 90 k = -1)) (fun st => st.1.toNatClampNeg) ⟨rfl, w2, fun j hj hne => w3 j hj, fun ⟨t, ht, _⟩ => absurd ht (Nat.not_lt_zero t), fun _ => by rw [← ck]; exact ek.trans z⟩ (fun k s hk p => by rw [p.1]; exact nI_clamp (by omega)) ?_ ?_
          · rintro s ⟨s', g3⟩ hs ⟨x1, x2, x3, x4, x5⟩ back4 hb4
            dsimp only at x1 x2 x3 x4 x5
            subst x1
            have bt := (bitS (bsR_lt R (Nat.le_refl 7)) (show s < 12 by omega)).2
            have same : ¬ (aeg R L k s ∧ dst R L (ato L k s) = i) → ∀ w, w = nI s + 1 → back4 (w, g3) := fun y w ew => hb4 _ ⟨by rw [ew]; exact nI_1 s, x2, x3, fun ⟨t, ht, t1, t2⟩ => x4 (by
              rcases (show t < s ∨ t = s by omega) with r | r
              · exact ⟨t, r, t1, t2⟩
              · exact absurd (by rw [← r]; exact ⟨t1, t2⟩) y), fun n => x5 (fun ⟨t, ht, t1⟩ => n ⟨t, by omega, t1⟩)⟩
            refine pk_le 7 s (fun z => by omega) (fun _ => ⟨89, r57 g3 x2, ?_⟩)
            dsimp only
            rw [x7b, nI_clamp (show 7 * k + s < 2 ^ 31 by omega), l89 g3 x2, w89 g3 x2 _ (by omega)]
            refine ⟨vp_in_nI (by omega) (by decide), fun v61 e61 => ⟨fun y => same (fun r => ?_), fun y => ⟨fun y2 => same (fun r => r.1.2 (by rw [← e61]; exact y2)), fun y2 => ?_⟩⟩⟩
            · exact y (bt.mpr (fun r2 => by have := (bsR_bit R hs).mp r2; rw [r.1.1] at this; cases this))
            · rw [e61] at y2
              obtain ⟨a1, a2⟩ := ato_lt hL (show k < 10 by omega) hs y2
              rw [a2] at e61
              subst e61
              have Rs : R s = true := by
                cases hR : R s with
                | true => rfl
                | false => exact absurd ((bsR_bit R hs).mpr hR) (bt.mp y)
              refine ⟨90, r59 g3 x2, by rw [l90 g3 x2]; exact vp_in_nI a1 (by decide), ?_⟩
              rw [nI_clamp (by omega), show nI (1 + i) - 1 = nI i by rw [Nat.add_comm]; exact nI_pred i]
              have far : qI g3 90 (ato L k s) = nI i ↔ dst R L (ato L k s) = i := by
                by_cases r : ato L k s = k
                · constructor
                  · intro t
                    rw [r] at t
                    by_cases hit : ∃ t, t < s ∧ aeg R L k t ∧ dst R L (ato L k t) = i
                    · rw [x4 hit] at t
                      have := nI_inj (by omega) (by omega) t
                      omega
                    · rw [x5 hit] at t
                      exact absurd t.symm (nI_m1 (by omega))
                  · intro t
                    rw [r] at t; omega
                · rw [x3 _ a1 r]
                  split
                  · exact mv_eq (by omega) (by omega)
                  · exact mv_eq (by omega) (by omega)
              refine ⟨fun t => same (fun r => t (far.mpr r.2)), fun t => ⟨90, r59 g3 x2, by rw [l90 g3 x2]; exact vp_in_nI (by omega) (by decide), fun g4 e4 w ew => hb4 _ ?_⟩⟩
              rw [ck] at e4
              have hit : ∃ t, t < s + 1 ∧ aeg R L k t ∧ dst R L (ato L k t) = i := ⟨s, by omega, ⟨Rs, y2⟩, far.mp t⟩
              refine ⟨by rw [ew]; exact nI_1 s, by rw [e4]; exact x2.push _ _, fun j hj hne => ?_, fun _ => ?_, fun n => absurd hit n⟩
              · show qI g4 90 j = _
                rw [e4, rI_sI, if_pos rfl, up_ne _ _ hne]; exact x3 j hj hne
              · show qI g4 90 k = _
                rw [e4, rI_sI, if_pos rfl, up_eq]
          · rintro ⟨s', g3⟩ ⟨x1, x2, x3, x4, x5⟩ back4
            dsimp only at x1 x2 x3 x4 x5
            subst x1
            refine pk_le 7 7 (fun _ w ew => hb3 _ ⟨by rw [ew]; exact nI_1 k, x2, fun j hj => ?_⟩) (fun z => by omega)
            show qI g3 90 j = _
            by_cases r : j = k
            · subst r
              rw [if_pos (by omega)]
              unfold mv
              by_cases y : dst R L j ≤ 1 + i
              · rw [if_pos y]
                have ed : dst R L j = i + 1 := by omega
                obtain ⟨t, ht, t1, t2⟩ := dst_dn hL hj ed (by omega)
                rw [x4 ⟨t, ht, t1, t2⟩, ed, Nat.add_comm]
              · rw [if_neg y]
                exact x5 (fun ⟨t, ht, t1, t2⟩ => by have := dst_up hL hj ht t1; omega)
            · rw [x3 j hj r]
              by_cases y : j < k
              · rw [if_pos y, if_pos (by omega)]
              · rw [if_neg y, if_neg (by omega)]
        · show qI g2 90 j = _
          rw [w3 j hj]
          by_cases y : j < k
          · rw [if_pos y, if_pos (by omega)]
          · rw [if_neg y]
            by_cases r : j = k
            · subst r
              rw [if_pos (by omega)]
              rw [ek] at z
              unfold mv at z ⊢
              by_cases t : dst R L j ≤ i
              · rw [if_pos t, if_pos (by omega)]
              · rw [if_neg t] at z; exact absurd rfl z
            · rw [if_neg (by omega)]
      · rintro ⟨k', g2⟩ ⟨w1, w2, w3⟩ back3
        dsimp only at w1 w2 w3
        subst w1
        refine pk_le 9 9 (fun _ w ew => hb2 _ ⟨by rw [ew, nI_1, Nat.add_assoc], w2, fun j hj => ?_⟩) (fun z => by omega)
        show qI g2 90 j = _
        rw [w3 j hj, Nat.add_comm i 1]
        by_cases y : j < 9
        · rw [if_pos y]
        · rw [if_neg y, show j = 9 by omega]
          unfold mv
          rw [dst_9, if_pos (by omega), if_pos (by omega)]
    · rintro ⟨i', g1⟩ ⟨u1, u2, u3⟩ back2
      dsimp only at u1 u2 u3
      subst u1
      have e0 : qI g1 90 (0 : Int32).toNatClampNeg = mv R L 9 0 := by rw [c0_n]; exact u3 0 (by decide)
      have i0' : vp_in 0 (qL g1 90) := in0 (l90 g1 u2) (by decide) (by decide)
      refine pk_le 10 10 (fun _ => ⟨90, r59 g1 u2, i0', ?_⟩) (fun z => by omega)
      rw [e0]
      have dm := dst_max R L 0
      by_cases h0 : dst R L 0 < 10
      · have em : mv R L 9 0 = nI (dst R L 0) := by unfold mv; rw [if_pos (by omega)]
        rw [em]
        refine ⟨fun _ => ⟨90, r59 g1 u2, i0', fun g2 e2 => ?_⟩, fun z => absurd z (nI_m1 (by omega))⟩
        dsimp only at e2
        rw [e0, em] at e2
        have f2 : Fg [90, 91] [(70, 61)] h g2 := by rw [e2]; exact u2.tr (Fg.sI _ _ _ _) rfl rfl
        have v61 : qI g2 70 61 = nI (dst R L 0) := by rw [e2]; simp only [qI_sI]; simp
        have v90 : ∀ j, j < 10 → qI g2 90 j = mv R L 9 j := fun j hj => by rw [e2, rI_ne _ _ _ (by decide)]; exact u3 j hj
        refine loopR (dst R L 0) (fun i s => s.1 = nI (stt R L i) ∧ s.2.1 = nI i ∧ Fg [91] [] g2 s.2.2 ∧ ∀ j, j < i → qI s.2.2 91 j = nI (pick R L (stt R L j))) (fun s => s.2.1.toNatClampNeg) ⟨rfl, rfl, Fg.rf _ _ _, fun j hj => absurd hj (Nat.not_lt_zero j)⟩ (fun k s hk p => by rw [p.2.1]; exact nI_clamp (by omega)) ?_ ?_
        · rintro i ⟨a, b, g3⟩ hi ⟨x1, x2, x3, x4⟩ back3 hb3
          dsimp only at x1 x2 x3 x4
          subst x1 x2
          obtain ⟨t1, t2⟩ := stt_ok hL h0 i (by omega)
          obtain ⟨p1, p2, p3⟩ := pick_ok hL t1 (R := R) (by omega) (by omega)
          have fA : Fg [90, 91] [(70, 61)] h g3 := f2.tr x3 rfl rfl
          have sg := sh.fg fA rfl
          have k90 : ∀ j, j < 10 → qI g3 90 j = mv R L 9 j := fun j hj => by rw [(x3.ne (by decide) j).1]; exact v90 j hj
          have k89 : ∀ j, j < 70 → qI g3 89 j = L j := fun j hj => by rw [(fA.ag (C := [89]) (G := []) rfl).I rfl]; exact v89 j hj
          refine ⟨fun z => absurd z (by rw [show qI g3 70 61 = nI (dst R L 0) by rw [x3.I rfl]; exact v61]; exact nI_ge hi (by omega)), fun _ => ?_⟩
          dsimp only
          have lead : ∀ s, s < 7 → ∀ Q : Int32 → PH → Prop, (pok R L (stt R L i) s → Q 1 g3) → (¬ pok R L (stt R L i) s → Q 0 g3) → wp_X12_leadsOn 70 (nI (stt R L i)) (nI s) (nI (bs R 7)) g3 Q := by
            intro s hs Q y1 y0
            have bt := (bitS (bsR_lt R (Nat.le_refl 7)) (show s < 12 by omega)).2
            refine ⟨89, sg.R 70 57 89 (by decide), ?_⟩
            rw [x7b, nI_clamp (by omega), sg.L 89 (n := 140) (by decide) rfl, k89 _ (by omega)]
            refine ⟨vp_in_nI (by omega) (by decide), fun v4 e4 => ⟨fun z => y0 (fun r => z (bt.mpr (fun r2 => by have := (bsR_bit R hs).mp r2; rw [r.1.1] at this; cases this))), fun z => ⟨fun z2 => y0 (fun r => r.1.2 (by rw [← e4]; exact z2)), fun z2 => ?_⟩⟩⟩
            rw [e4] at z2
            obtain ⟨a1, a2⟩ := ato_lt hL t1 hs z2
            rw [a2] at e4
            subst e4
            have Rs : R s = true := by
              cases hR : R s with
              | true => rfl
              | false => exact absurd ((bsR_bit R hs).mpr hR) (bt.mp z)
            refine ⟨90, sg.R 70 59 90 (by decide), by rw [sg.L 90 (n := 10) (by decide) rfl]; exact vp_in_nI a1 (by decide), 90, sg.R 70 59 90 (by decide), by rw [sg.L 90 (n := 10) (by decide) rfl]; exact vp_in_nI t1 (by decide), ?_⟩
            have es : mv R L 9 (stt R L i) = nI (dst R L (stt R L i)) := by unfold mv; rw [if_pos (by omega)]
            rw [nI_clamp (by omega), nI_clamp (by omega), k90 _ a1, k90 _ t1, es, show nI (dst R L (stt R L i)) - 1 = nI (dst R L (stt R L i) - 1) by
              obtain ⟨y, ey⟩ : ∃ y, dst R L (stt R L i) = y + 1 := ⟨dst R L (stt R L i) - 1, by omega⟩
              rw [ey, nI_pred]; rfl]
            have far := mv_eq (R := R) (L := L) (n := 9) (k := ato L (stt R L i) s) (i := dst R L (stt R L i) - 1) (by omega) (by omega)
            exact ⟨fun r => y0 (fun r2 => r (far.mpr (by have := r2.2; omega))), fun r => y1 ⟨⟨Rs, z2⟩, by have := far.mp r; omega⟩⟩
          refine loopR (pick R L (stt R L i)) (fun s st => st = (nI s, g3)) (fun st => st.1.toNatClampNeg) rfl (fun k s hk p => by rw [p]; exact nI_clamp (by omega)) ?_ ?_
          · intro s st hs p back4 hb4
            subst p
            unfold wp_X12_answer_231 wb_X12_answer_231
            dsimp only
            exact lead s (by omega) _ (fun y => absurd y (p3 s hs)) (fun y => ⟨fun z => absurd rfl z, fun _ w ew => hb4 _ (by rw [ew, nI_1])⟩)
          · intro st p back4
            subst p
            unfold wp_X12_answer_231 wb_X12_answer_231
            dsimp only
            refine lead _ p1 _ (fun y => ⟨fun _ => ⟨91, sg.R 70 60 91 (by decide), by rw [sg.L 91 (n := 10) (by decide) rfl]; exact vp_in_nI (by omega) (by decide), fun g4 e4 => ⟨89, by rw [e4]; exact sg.R 70 57 89 (by decide), ?_⟩⟩, fun z => absurd z (by decide)⟩) (fun y => absurd p2 y)
            rw [nI_clamp (by omega)] at e4
            rw [x7b, nI_clamp (by omega), show qL g4 89 = 140 by rw [e4]; exact sg.L 89 (by decide) rfl, show qI g4 89 (7 * stt R L i + pick R L (stt R L i)) = L (7 * stt R L i + pick R L (stt R L i)) by rw [e4, rI_ne _ _ _ (by decide)]; exact k89 _ (by omega)]
            refine ⟨vp_in_nI (by omega) (by decide), fun v53 e53 w ew => hb3 _ ⟨?_, by rw [ew]; exact nI_1 i, by rw [e4]; exact x3.push _ _, fun j hj => ?_⟩⟩
            · rw [e53, (ato_lt hL t1 p1 p2.1.2).2]; rfl
            · show qI g4 91 j = _
              rw [e4, rI_sI, if_pos rfl, up_at]
              by_cases y : j = i
              · rw [if_pos y, y]
              · rw [if_neg y]; exact x4 j (by omega)
        · rintro ⟨a, b, g3⟩ ⟨x1, x2, x3, x4⟩ back3
          dsimp only at x1 x2 x3 x4
          subst x1 x2
          have v61' : qI g3 70 61 = nI (dst R L 0) := by rw [x3.I rfl]; exact v61
          refine ⟨fun _ => ?_, fun z => absurd (by rw [v61']; exact nI_le (Nat.le_refl _) (by omega)) z⟩
          dsimp only
          rw [v61']
          exact q1 h0 g3 (f2.tr x3 rfl rfl) v61' x4
      · have em : mv R L 9 0 = -1 := by unfold mv; rw [if_neg (by omega)]
        rw [em]
        exact ⟨fun z => absurd rfl z, fun _ => q0 h0 g1 u2⟩
theorem invent_ok {h : PH} {b : Nat} {Q : PH → Prop} (sh : Shp h) (hb : b = 0 ∨ b = 70) (q : ∀ h1, Fg [89] [] h h1 → (∀ i, qI h1 89 i = if b ≤ i ∧ i < b + 70 then -1 else qI h 89 i) → Q h1) : wp_X12_invent 70 (nI b) h Q := by
  refine loopR 70 (fun k s => s.1 = nI k ∧ Fg [89] [] h s.2 ∧ ∀ i, qI s.2 89 i = if b ≤ i ∧ i < b + k then -1 else qI h 89 i) (fun s => s.1.toNatClampNeg) ⟨rfl, Fg.rf _ _ _, fun i => by rw [if_neg (by omega)]⟩ (fun k s hk p => by rw [p.1]; exact nI_clamp (by omega)) ?_ ?_
  · rintro k ⟨k', g⟩ hk ⟨s1, s2, s3⟩ back hb2
    dsimp only at s1 s2 s3
    subst s1
    refine pk_le 70 k (fun z => by omega) (fun _ => ⟨89, by rw [s2.R rfl]; exact sh.R 70 57 89 (by decide), ?_⟩)
    dsimp only
    rw [nI_add, nI_clamp (by omega), s2.L, sh.L 89 (n := 140) (by decide) rfl]
    refine ⟨vp_in_nI (by omega) (by decide), fun g2 e2 w ew => hb2 _ ⟨by rw [ew]; exact nI_1 k, by rw [e2]; exact s2.push _ _, fun i => ?_⟩⟩
    show qI g2 89 i = _
    rw [e2, rI_sI, if_pos rfl, up_at, s3]
    by_cases z : i = b + k
    · rw [if_pos z, if_pos (by omega)]
    · rw [if_neg z]
      by_cases y : b ≤ i ∧ i < b + k
      · rw [if_pos y, if_pos (by omega)]
      · rw [if_neg y, if_neg (by omega)]
  · rintro ⟨k', g⟩ ⟨s1, s2, s3⟩ back
    dsimp only at s1 s2 s3
    subst s1
    exact pk_le 70 70 (fun _ => q g s2 s3) (fun z => by omega)
noncomputable def RB (N rb n : Nat) (Ds : Nat → PD) (s : Nat) : Bool := @decide (rgt N rb n Ds s) (Classical.propDecidable _)
theorem RB_r {N rb n s : Nat} {Ds : Nat → PD} {r : Int32} (g : rgR N rb n Ds s r) : (r = 0 → RB N rb n Ds s = false) ∧ (¬ r = 0 → RB N rb n Ds s = true) := by
  unfold RB
  rcases g with ⟨a, b⟩ | ⟨a, b⟩
  · subst a
    exact ⟨fun z => absurd z (by decide), fun _ => @decide_eq_true _ (Classical.propDecidable _) b⟩
  · subst a
    exact ⟨fun _ => @decide_eq_false _ (Classical.propDecidable _) b, fun z => absurd rfl z⟩
theorem bsR_or (R : Nat → Bool) {s : Nat} (hs : s < 7) : nI (bs R s) ||| (1 <<< (nI s &&& 31)) = nI (bs R s + 2 ^ s) := by
  refine orS (bsR_lt R (by omega)) (by omega) ?_
  rw [Nat.div_eq_of_lt (bs_lt R s)]
theorem op_answer {h : PH} (i : Inv h) : wp_X11_answer 0 h (fun r h1 => wp_X12_answer 70 h1 (Both h r)) := by
  obtain ⟨N, rb, n, Ds, d, e, id⟩ := i.2.2.1
  have sh := i.1
  obtain ⟨c, e', ⟨c14, c15, cc⟩, iv⟩ := i.2.2.2.2.2.2.2.2.1
  have hc : c = 64 ∨ c = 67 := by omega
  obtain ⟨L, eL⟩ : ∃ L : Nat → Int32, L = qI h (c + 1) := ⟨_, rfl⟩
  have hL : ∀ i, i < 70 → isLd (L i) := fun j hj => by rw [eL]; exact (iv j hj).1
  generalize hR : RB N rb n Ds = R
  have stp : ∀ s, s < 7 → ∀ b, R s = b → bs R (s + 1) = if b = true then bs R s + 2 ^ s else bs R s := fun s hs b eb => by
    show bs R s + _ = _
    rw [eb]
    cases b <;> rfl
  have rgb : ∀ s r, rgR N rb n Ds s r → (r = 0 → R s = false) ∧ (¬ r = 0 → R s = true) := fun s r g => by rw [← hR]; exact RB_r g
  -- the model, from where the class has answered
  have mod : ∀ (h9 : PH) (r : Int32), Fg [14, 15, 17, 25, 66, 69] [(13, 2), (0, 17)] h h9 → (∀ j, j < 70 → qI h9 (c + 1) j = L j) → (¬ dst R L 0 < 10 → r = -1 ∧ Fg [14, 15, 17, 66, 69] [(13, 2)] h h9) → (dst R L 0 < 10 → r = nI (dst R L 0) ∧ qI h9 0 17 = nI (dst R L 0) ∧ ∀ j, j < dst R L 0 → qI h9 25 j = nI (pick R L (stt R L j))) → wp_X12_answer 70 h9 (Both h r) := by
    intro h9 r f9 l9 a1 a2 g0 e0
    have sh9 := sh.fg f9 rfl
    have k0 : Fg [] [(70, 0)] h9 g0 := by rw [e0]; exact Fg.sI _ _ _ _
    have k0' : Fg [14, 15, 17, 25, 66, 69] [(13, 2), (0, 17), (70, 0)] h g0 := f9.tr k0 rfl rfl
    refine lay_ok (id.2.2.1.ag (k0'.ag rfl)) (fun g1 k1 dm1 dl1 => ?_)
    have k01 : Fg [] [(70, 0), (70, 20), (72, 0)] h9 g1 := k0.tr k1 rfl rfl
    have q58 : qI g1 70 58 = qI h 70 58 := by rw [k01.I rfl, f9.I rfl]
    -- with the model's leads as the class's
    have loop : ∀ g, Fg [89] [(70, 58)] g1 g → (∀ j, j < 70 → qI g 89 j = L j) → qI g 70 58 = 1 → qLoop (wp_X12_answer_30 70 (Both h r)) (0, 0, g) := by
      intro g kg v89 v58
      have kg9 : Fg [89] [(70, 0), (70, 20), (72, 0), (70, 58)] h9 g := k01.tr kg rfl rfl
      have shg := sh9.fg kg9 rfl
      have dmg : DrM g N rb n Ds := dm1.ag (kg.ag rfl)
      have dlg : DrL g N rb n Ds := dl1.ag (kg.ag rfl)
      refine loopR 7 (fun s st => st.1 = nI (bs R s) ∧ st.2.1 = nI s ∧ Fg [78, 79] ([(70, 20), (72, 0)] ++ mfF) g st.2.2 ∧ DrM st.2.2 N rb n Ds ∧ DrL st.2.2 N rb n Ds) (fun st => st.2.1.toNatClampNeg) ⟨rfl, rfl, Fg.rf _ _ _, dmg, dlg⟩ (fun k s hk p => by rw [p.2.1]; exact nI_clamp (by omega)) ?_ ?_
      · rintro s ⟨a, b, g2⟩ hs ⟨s1, s2, s3, s4, s5⟩ back hb
        dsimp only at s1 s2 s3 s4 s5
        subst s1 s2
        refine pk_le 7 s (fun z => by omega) (fun _ => mrt_ok (shg.fg s3 rfl) s4 s5 hs (fun g3 r3 k3 dm3 dl3 rg => ?_))
        obtain ⟨x0, x1⟩ := rgb s r3 rg
        have k23 : Fg [78, 79] ([(70, 20), (72, 0)] ++ mfF) g g3 := s3.tr k3 rfl rfl
        exact ⟨fun y w ew => hb _ ⟨by rw [stp s hs false (x0 y)]; rfl, by rw [ew]; exact nI_1 s, k23, dm3, dl3⟩, fun y v ev w ew => hb _ ⟨by rw [stp s hs true (x1 y), if_pos rfl, ev]; exact bsR_or R hs, by rw [ew]; exact nI_1 s, k23, dm3, dl3⟩⟩
      · rintro ⟨a, b, g2⟩ ⟨s1, s2, s3, s4, s5⟩ back
        dsimp only at s1 s2 s3 s4 s5
        subst s1 s2
        refine pk_le 7 7 (fun _ => ?_) (fun z => by omega)
        have kA : Fg [78, 79, 89] ([(70, 0), (70, 20), (72, 0), (70, 58)] ++ mfF) h9 g2 := kg9.tr s3 rfl rfl
        have fin : ∀ (g3 : PH) (S : List Nat) (F : List (Nat × Nat)), Fg S F g2 g3 → fsub S F [78, 79, 89, 90, 91] ([(70, 0), (70, 20), (72, 0), (70, 58), (70, 61)] ++ mfF) = true → fag S F [73, 74, 75, 89] [(70, 14), (70, 15), (70, 16), (70, 17), (70, 20), (72, 0), (70, 58)] = true → ISay g3 → ∀ r2, r = r2 → Both h r r2 g3 := by
          intro g3 S F k3 c1 c2 is r2 er
          have kB : Fg [78, 79, 89, 90, 91] ([(70, 0), (70, 20), (72, 0), (70, 58), (70, 61)] ++ mfF) h9 g3 := kA.tr k3 rfl c1
          have kC : Fg [14, 15, 17, 25, 66, 69, 78, 79, 89, 90, 91] ([(13, 2), (0, 17), (70, 0), (70, 20), (72, 0), (70, 58), (70, 61)] ++ mfF) h g3 := f9.tr kB rfl rfl
          have ag3 := k3.ag c2
          have e58 : qI g3 70 58 = 1 := by rw [ag3.i rfl, s3.I rfl]; exact v58
          have e89 : ∀ j, j < 70 → qI g3 89 j = L j := fun j hj => by rw [ag3.I rfl, (s3.ag (C := [89]) (G := []) rfl).I rfl]; exact v89 j hj
          have ec : ∀ j, j < 70 → qI g3 (c + 1) j = L j := fun j hj => by
            rw [← l9 j hj]
            rcases hc with z | z <;> (subst z; exact (kB.ag (C := [65, 68]) (G := []) rfl).I rfl j)
          obtain ⟨i0, i1, i2, i3, i4, i5, i6, i7, i8, i9, i10⟩ := i
          refine ⟨er, ⟨i0.fg kC rfl, i1.ag (kC.ag rfl), ⟨N, rb, n, Ds, d, e, id.re (kC.ag rfl) (s5.ag (ag3.sub rfl rfl))⟩, i3.ag (kC.ag rfl), i4.ag (kC.ag rfl), i5.ag (kC.ag rfl), i6.ag (kC.ag rfl), i7.fg kC rfl, ⟨c, e', ⟨by rw [kC.R rfl]; exact c14, by rw [kC.R rfl]; exact c15, cc⟩, fun j hj => ?_⟩, is, i10.ag (kC.ag rfl)⟩, kC.rm⟩
          rw [ec j hj, e58, e89 j hj]
          exact ⟨hL j hj, fun z => absurd z (by decide), fun _ => rfl⟩
        refine mans_ok (L := L) (shg.fg s3 rfl) (fun j hj => by rw [(s3.ag (C := [89]) (G := []) rfl).I rfl]; exact v89 j hj) hL (fun y g3 k3 => ?_) (fun y g3 k3 v61 v91 => ?_)
        · obtain ⟨x1, x2⟩ := a1 y
          refine fin g3 _ _ k3 rfl rfl ?_ _ x1
          have kD : Fg [14, 15, 17, 66, 69, 78, 79, 89, 90] ([(13, 2), (70, 0), (70, 20), (72, 0), (70, 58)] ++ mfF) h g3 := (x2.tr kA (U := [14, 15, 17, 66, 69, 78, 79, 89, 90]) (V := ([(13, 2), (70, 0), (70, 20), (72, 0), (70, 58)] ++ mfF)) rfl rfl).tr k3 rfl rfl
          exact i.2.2.2.2.2.2.2.2.2.1.ag (kD.ag rfl)
        · obtain ⟨x1, x2, x3⟩ := a2 y
          refine fin g3 _ _ k3 rfl rfl ⟨dst R L 0, by omega, ?_, v61, fun j hj => ?_⟩ _ x1
          · rw [k3.I rfl, kA.I rfl]; exact x2
          · rw [v91 j hj, (k3.ag (C := [25]) (G := []) rfl).I rfl, (kA.ag (C := [25]) (G := []) rfl).I rfl]; exact x3 j hj
    refine ⟨fun c58 g5 e5 => loop g5 (by rw [e5]; exact (Fg.sI _ _ _ _).mono rfl) (fun j hj => ?_) (by rw [e5]; simp only [qI_sI]; simp), fun c58 => invent_ok (b := 0) (sh9.fg k01 rfl) (Or.inl rfl) (fun g6 k6 v6 g8 e8 => loop g8 (by rw [e8]; exact k6.tr (Fg.sI _ _ _ _) rfl rfl) (fun j hj => ?_) (by rw [e8]; simp only [qI_sI]; simp))⟩
    · rw [e5, rI_ne _ _ _ (by decide), (k01.ag (C := [89]) (G := []) rfl).I rfl, (f9.ag (C := [89]) (G := []) rfl).I rfl, eL]
      exact (iv j hj).2.2 (by rw [← q58]; exact c58)
    · rw [e8, rI_ne _ _ _ (by decide), v6, if_pos (by omega), eL]
      exact ((iv j hj).2.1 (by rw [← q58]; exact c58)).symm
  -- the class
  refine loopR 7 (fun s st => st.1 = nI (bs R s) ∧ st.2.1 = nI s ∧ Fg [14, 15, 17] [(13, 2)] h st.2.2) (fun st => st.2.1.toNatClampNeg) ⟨rfl, rfl, Fg.rf _ _ _⟩ (fun k s hk p => by rw [p.2.1]; exact nI_clamp (by omega)) ?_ ?_
  · rintro s ⟨a, b, g⟩ hs ⟨s1, s2, s3⟩ back hb
    dsimp only at s1 s2 s3
    subst s1 s2
    refine pk_le 7 s (fun z => by omega) (fun _ => crt_ok (sh.fg s3 rfl) (id.ag (s3.ag rfl)) hs (fun g2 r2 f2 rg => ?_))
    obtain ⟨x0, x1⟩ := rgb s r2 rg
    have f12 : Fg [14, 15, 17] [(13, 2)] h g2 := s3.tr f2 rfl rfl
    exact ⟨fun y w ew => hb _ ⟨by rw [stp s hs false (x0 y)]; rfl, by rw [ew]; exact nI_1 s, f12⟩, fun y v ev w ew => hb _ ⟨by rw [stp s hs true (x1 y), if_pos rfl, ev]; exact bsR_or R hs, by rw [ew]; exact nI_1 s, f12⟩⟩
  · rintro ⟨a, b, g⟩ ⟨s1, s2, s3⟩ back
    dsimp only at s1 s2 s3
    subst s1 s2
    have shg := sh.fg s3 rfl
    have lg : ∀ j, qI g (c + 1) j = qI h (c + 1) j := fun j => by rcases hc with z | z <;> (subst z; exact (s3.ag (C := [65, 68]) (G := []) rfl).I rfl j)
    have vg : Iv g c L := by
      refine ⟨?_, ?_, fun j hj => by rw [lg, eL], hL⟩
      · rcases hc with z | z <;> subst z
        · exact ⟨shg.R 64 0 65 (by decide), shg.R 64 1 66 (by decide)⟩
        · exact ⟨shg.R 67 0 68 (by decide), shg.R 67 1 69 (by decide)⟩
      · rcases hc with z | z <;> subst z
        · exact ⟨shg.L 65 (by decide) rfl, shg.L 66 (by decide) rfl⟩
        · exact ⟨shg.L 68 (by decide) rfl, shg.L 69 (by decide) rfl⟩
    refine pk_le 7 7 (fun _ => ⟨c, by rw [s3.R rfl]; exact c14, meas_ok vg (fun h4 f4 fc => ?_)⟩) (fun z => by omega)
    have v4 : Iv h4 c L := vg.fg f4 (by simp) (by simp)
    have f04 : Fg [14, 15, 17, 66, 69] [(13, 2)] h h4 := by rcases hc with z | z <;> (subst z; exact s3.tr f4 rfl rfl)
    have r14 : qR h4 0 14 = some c := by rw [f04.R rfl]; exact c14
    have l25 : qL h4 25 = 10 := by rw [f04.L]; exact sh.L 25 (by decide) rfl
    have dm := dst_max R L 0
    refine ⟨c, r14, c + 2, v4.1.2, in0 v4.2.1.2 (by decide) (by decide), fun v11 e11 => ⟨c, r14, c + 2, v4.1.2, ?_⟩⟩
    rw [c0_n, (fc 0 (by decide)).1] at e11
    subst e11
    rw [v4.2.1.2]
    refine pk_le (dst R L 0) 10 (fun z => ?_) (fun z => mod h4 (-1) (f04.mono rfl) v4.2.2.1 (fun _ => ⟨rfl, f04⟩) (fun y => by omega))
    have h0 : dst R L 0 < 10 := dst_10 (by omega)
    refine ⟨c, r14, 25, by rw [f04.R rfl]; exact sh.R 0 9 25 (by decide), tell_ok hc v4 fc l25 h0 (fun h5 f5 v25 h6 e6 => ?_)⟩
    have f6 : Fg [25] [(0, 17)] h4 h6 := by rw [e6]; exact f5.tr (Fg.sI _ _ _ _) rfl rfl
    have v5 : Iv h5 c L := v4.fg f5 (by simp; omega) (by simp; omega)
    refine mod h6 _ (f04.tr f6 rfl rfl) (fun j hj => ?_) (fun y => absurd h0 y) (fun _ => ⟨rfl, by rw [e6]; simp only [qI_sI]; simp, fun j hj => ?_⟩)
    · rw [e6, rI_ne _ _ _ (by omega)]; exact v5.2.2.1 j hj
    · rw [e6, rI_ne _ _ _ (by decide)]; exact v25 j hj

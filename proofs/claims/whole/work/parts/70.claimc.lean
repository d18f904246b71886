/-! ===== PURE: a CLAIM's text, as the class reads it ===== -/
def XFr (e : Nat) (h h1 : PH) : Prop := (qn h1 = qn h ∧ qz h1 = qz h ∧ qK h1 = qK h ∧ qL h1 = qL h) ∧ ∀ a j, ¬ (a = 3 ∧ (j = 4 ∨ j = 6)) → (¬ ((a = e ∧ (j = 5 ∨ j = 6)) ∨ (e + 1 ≤ a ∧ a ≤ e + 3)) → qI h1 a j = qI h a j) ∧ qJ h1 a j = qJ h a j ∧ qR h1 a j = qR h a j
theorem XFr.rf (e : Nat) (h : PH) : XFr e h h := ⟨⟨rfl, rfl, rfl, rfl⟩, fun _ _ _ => ⟨fun _ => rfl, rfl, rfl⟩⟩
theorem XFr.tr {e : Nat} {h h1 h2 : PH} (a : XFr e h h1) (b : XFr e h1 h2) : XFr e h h2 := ⟨⟨b.1.1.trans a.1.1, b.1.2.1.trans a.1.2.1, b.1.2.2.1.trans a.1.2.2.1, b.1.2.2.2.trans a.1.2.2.2⟩, fun x j z => ⟨fun y => ((b.2 x j z).1 y).trans ((a.2 x j z).1 y), (b.2 x j z).2.1.trans (a.2 x j z).2.1, (b.2 x j z).2.2.trans (a.2 x j z).2.2⟩⟩
theorem XFr.s' {e a k : Nat} {h h1 : PH} {v : Int32} (ha : (a = e ∧ (k = 5 ∨ k = 6)) ∨ (e + 1 ≤ a ∧ a ≤ e + 3)) (q : h1 = qsI h a k v) : XFr e h h1 := by
  rw [q]
  refine ⟨⟨rfl, rfl, rfl, rfl⟩, fun x j _ => ⟨fun y => ?_, rfl, rfl⟩⟩
  rw [qI_sI, if_neg (fun z => y (by rw [z.1, z.2]; exact ha))]
theorem XFr.t {e : Nat} {h h1 : PH} (f : Fg [] tF h h1) : XFr e h h1 := ⟨f.1, fun a j hj => by
  have n : (a, j) ∉ tF := fun z => by
    simp [tF] at z
    exact hj (by omega)
  have q := f.2 a List.not_mem_nil j n
  exact ⟨fun _ => q.1, q.2.1, q.2.2⟩⟩
theorem XFr.t4 {e : Nat} {h h1 : PH} (f : Fg [] [(3, 4)] h h1) : XFr e h h1 := XFr.t (f.mono rfl)
theorem TC.x {h h1 : PH} {m i a k : Nat} {tk : Nat → TK} {v : Int32} (t : TC h m tk i) (ha : 26 ≤ a) (q : h1 = qsI h a k v) : TC h1 m tk i := t.e ha q
def XR (h : PH) (e : Nat) : Prop := (qR h e 0 = some (e + 1) ∧ qR h e 1 = some (e + 2) ∧ qR h e 2 = some (e + 3)) ∧ qL h (e + 1) = 40 ∧ qL h (e + 2) = 40 ∧ qL h (e + 3) = 40
theorem XR.x {h h1 : PH} {e : Nat} (r : XR h e) (he : 26 ≤ e) (f : XFr e h h1) : XR h1 e := by
  obtain ⟨⟨a1, a2, a3⟩, b1, b2, b3⟩ := r
  exact ⟨⟨by rw [(f.2 e 0 (by omega)).2.2]; exact a1, by rw [(f.2 e 1 (by omega)).2.2]; exact a2, by rw [(f.2 e 2 (by omega)).2.2]; exact a3⟩, by rw [f.1.2.2.2]; exact b1, by rw [f.1.2.2.2]; exact b2, by rw [f.1.2.2.2]; exact b3⟩
def CCl (h : PH) (e : Nat) (d : CD) : Prop := XR h e ∧ qI h e 5 = nI (xn d) ∧ qI h e 6 = nI (xc d) ∧ CLC h e (xn d) (xd d)
theorem CCl.t {h h1 : PH} {e : Nat} {d : CD} (c : CCl h e d) (he : 26 ≤ e) (f : Fg [] tF h h1) : CCl h1 e d := by
  obtain ⟨r, a, b, cl⟩ := c
  have I : ∀ x, 26 ≤ x → ∀ j, qI h1 x j = qI h x j := fun x hx j => (f.2 x List.not_mem_nil j (by simp [tF]; omega)).1
  refine ⟨r.x he (XFr.t f), by rw [I e he]; exact a, by rw [I e he]; exact b, fun k hk => ?_⟩
  rw [I (e + 1) (by omega), I (e + 2) (by omega), I (e + 3) (by omega)]; exact cl k hk
section
variable {h : PH} {b : Nat → Nat} {sz lim m i e : Nat} {tk : Nat → TK} {d : CD}
/-- a node more -/
theorem add_ok {x : ND} {s : List Nat} {o1 o2 : Int32} {Q : PH → Prop} (he : 26 ≤ e) (c : CCl h e d) (hn : xn d < 40) (ho : nw x = 4 → cop (na x) = o1 ∧ cop (nb x) = o2) (t : TC h m tk i)
    (q : ∀ h1, XFr e h h1 → TC h1 m tk i → CCl h1 e (addN d x s) → qI h1 3 6 = qI h 3 6 → Q h1) : wp_X0_add e (cdeed x) o1 o2 h Q := by
  obtain ⟨r, a5, a6, cl⟩ := c
  obtain ⟨⟨r0, r1, r2⟩, l1, l2, l3⟩ := r
  have cl5 : (qI h e 5).toNatClampNeg = xn d := by rw [a5]; exact nI_clamp (by omega)
  refine ⟨fun z => ?_, fun _ => ⟨e + 1, r0, fun z => ?_, fun _ => ⟨e + 1, r0, by rw [a5, l1]; exact vp_in_nI hn (by decide), fun h1 e1 => ?_⟩⟩⟩
  · exfalso
    rw [a5] at z
    exact nI_pos (show xn d < 2 ^ 31 by omega) z
  · exfalso
    rw [a5, l1] at z
    exact nI_ge hn (by decide) z
  · rw [cl5] at e1
    have k1 : ∀ j, qI h1 e j = qI h e j := fun j => by rw [e1, rI_ne _ _ _ (by omega)]
    refine ⟨e + 2, by rw [e1]; exact r1, by rw [k1, a5, e1]; show vp_in _ (qL h (e + 2)); rw [l2]; exact vp_in_nI hn (by decide), fun h2 e2 => ?_⟩
    rw [k1, cl5] at e2
    have k2 : ∀ j, qI h2 e j = qI h e j := fun j => by rw [e2, rI_ne _ _ _ (by omega)]; exact k1 j
    refine ⟨e + 3, by rw [e2, e1]; exact r2, by rw [k2, a5, e2, e1]; show vp_in _ (qL h (e + 3)); rw [l3]; exact vp_in_nI hn (by decide), fun h3 e3 h4 e4 => ?_⟩
    rw [k2, cl5] at e3
    have k3 : ∀ j, qI h3 e j = qI h e j := fun j => by rw [e3, rI_ne _ _ _ (by omega)]; exact k2 j
    rw [k3, a5, nI_1] at e4
    have X4 : XFr e h h4 := (((XFr.s' (by omega) e1).tr (XFr.s' (by omega) e2)).tr (XFr.s' (by omega) e3)).tr (XFr.s' (by omega) e4)
    refine q h4 X4 (((t.e (by omega) e1).e (by omega) e2).e (by omega) e3 |>.e (by omega) e4) ⟨XR.x ⟨⟨r0, r1, r2⟩, l1, l2, l3⟩ he X4, ?_, ?_, fun k hk => ?_⟩ ?_
    · rw [e4, rI_sI, if_pos rfl, up_eq]; rfl
    · rw [e4, rI_sI, if_pos rfl, up_ne _ _ (by decide), k3]; exact a6
    · have hk : k < xn d + 1 := hk
      show qI h4 (e + 1) k = cdeed (if k = xn d then x else xd d k) ∧ (nw (if k = xn d then x else xd d k) = 4 → qI h4 (e + 2) k = cop (na (if k = xn d then x else xd d k)) ∧ qI h4 (e + 3) k = cop (nb (if k = xn d then x else xd d k)))
      have v1 : qI h4 (e + 1) k = if k = xn d then cdeed x else qI h (e + 1) k := by
        rw [e4, rI_ne _ _ _ (by omega), e3, rI_ne _ _ _ (by omega), e2, rI_ne _ _ _ (by omega), e1, rI_sI, if_pos rfl, up_at]
      have v2 : qI h4 (e + 2) k = if k = xn d then o1 else qI h (e + 2) k := by
        rw [e4, rI_ne _ _ _ (by omega), e3, rI_ne _ _ _ (by omega), e2, rI_sI, if_pos rfl, up_at, e1, rI_ne _ _ _ (by omega)]
      have v3 : qI h4 (e + 3) k = if k = xn d then o2 else qI h (e + 3) k := by
        rw [e4, rI_ne _ _ _ (by omega), e3, rI_sI, if_pos rfl, up_at, e2, rI_ne _ _ _ (by omega), e1, rI_ne _ _ _ (by omega)]
      rw [v1, v2, v3]
      by_cases z : k = xn d
      · simp only [if_pos z]
        exact ⟨trivial, fun y => ⟨(ho y).1.symm, (ho y).2.symm⟩⟩
      · simp only [if_neg z]
        exact cl k (by omega)
    · rw [e4, rI_ne _ _ _ (by omega), e3, rI_ne _ _ _ (by omega), e2, rI_ne _ _ _ (by omega), e1, rI_ne _ _ _ (by omega)]
/-- whatever stands there -/
theorem addA_ok {v o1 o2 : Int32} {Q : PH → Prop} (he : 26 ≤ e) (r : XR h e) (t : TC h m tk i) (q : ∀ h1, XFr e h h1 → TC h1 m tk i → qI h1 3 6 = qI h 3 6 → Q h1) : wp_X0_add e v o1 o2 h Q := by
  have r' := r
  obtain ⟨⟨r0, r1, r2⟩, l1, l2, l3⟩ := r
  refine ⟨fun _ => q h (XFr.rf _ _) t rfl, fun z0 => ⟨e + 1, r0, fun _ => q h (XFr.rf _ _) t rfl, fun z => ?_⟩⟩
  have vin : vp_in (qI h e 5) 40 := by
    rw [l1] at z
    obtain ⟨j, hj, ej⟩ := nI_of z0
    rw [ej] at z ⊢
    have : j < 40 := Classical.byContradiction (fun y => z (nI_le (by omega) hj))
    exact vp_in_nI this (by decide)
  refine ⟨e + 1, r0, by rw [l1]; exact vin, fun h1 e1 => ?_⟩
  have k1 : ∀ j, qI h1 e j = qI h e j := fun j => by rw [e1, rI_ne _ _ _ (by omega)]
  refine ⟨e + 2, by rw [e1]; exact r1, by rw [k1, e1]; show vp_in _ (qL h (e + 2)); rw [l2]; exact vin, fun h2 e2 => ?_⟩
  have k2 : ∀ j, qI h2 e j = qI h e j := fun j => by rw [e2, rI_ne _ _ _ (by omega)]; exact k1 j
  refine ⟨e + 3, by rw [e2, e1]; exact r2, by rw [k2, e2, e1]; show vp_in _ (qL h (e + 3)); rw [l3]; exact vin, fun h3 e3 h4 e4 => ?_⟩
  refine q h4 ((((XFr.s' (by omega) e1).tr (XFr.s' (by omega) e2)).tr (XFr.s' (by omega) e3)).tr (XFr.s' (by omega) e4)) (((t.e (by omega) e1).e (by omega) e2).e (by omega) e3 |>.e (by omega) e4) ?_
  rw [e4, rI_ne _ _ _ (by omega), e3, rI_ne _ _ _ (by omega), e2, rI_ne _ _ _ (by omega), e1, rI_ne _ _ _ (by omega)]
end

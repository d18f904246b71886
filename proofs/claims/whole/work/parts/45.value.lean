/-! ===== PURE: VALUES, and whether a CLAIM is so; the calls holds and where ===== -/
theorem n_le {x y : Int32} {A B : Prop} (a b : Nat) (g : b < a → B) (f : a ≤ b → A) (hx : x = nI a := by rfl) (hy : y = nI b := by rfl) (ha : a < 2 ^ 31 := by omega) (hb : b < 2 ^ 31 := by omega) : (¬ x ≤ y → B) ∧ (x ≤ y → A) := ⟨(pk_le a b f g hx hy ha hb).2, (pk_le a b f g hx hy ha hb).1⟩
theorem n_lt {x y : Int32} {A B : Prop} (a b : Nat) (g : b ≤ a → B) (f : a < b → A) (hx : x = nI a := by rfl) (hy : y = nI b := by rfl) (ha : a < 2 ^ 31 := by omega) (hb : b < 2 ^ 31 := by omega) : (¬ x < y → B) ∧ (x < y → A) := ⟨(pk_lt a b f g hx hy ha hb).2, (pk_lt a b f g hx hy ha hb).1⟩
theorem n_eq {x y : Int32} {A B : Prop} (a b : Nat) (g : a ≠ b → B) (f : a = b → A) (hx : x = nI a := by rfl) (hy : y = nI b := by rfl) (ha : a < 2 ^ 31 := by omega) (hb : b < 2 ^ 31 := by omega) : (¬ x = y → B) ∧ (x = y → A) := ⟨(pk_eq a b f g hx hy ha hb).2, (pk_eq a b f g hx hy ha hb).1⟩
theorem i_le {x y : Int32} (h : x < y) : x ≤ y := by
  rw [Int32.lt_iff_toInt_lt] at h
  rw [Int32.le_iff_toInt_le]; omega
theorem i_anti {x y : Int32} (h : x < y) : ¬ y ≤ x := i_nle.mpr h
theorem mval_ok {h : PH} {N rb n v t : Nat} {Ds : Nat → PD} {Q : Int32 → PH → Prop} (dm : DrM h N rb n Ds) (hv : v < 8) (ht : t < N) (q : Q (vval N n Ds v t) h) : wp_X12_valueAt 70 (nI v) (nI t) h Q := by
  have m := dm.1
  have hn := dm.2.2.2.1
  have hN := m.2.2.2.2.1
  have h8 := m.2.2.2.1
  have en : qI h 74 (0 : Int32).toNatClampNeg = nI n := by rw [c0_n]; exact dm.2.2.1.2.2
  have eN : qI h 72 (0 : Int32).toNatClampNeg = nI N := by rw [c0_n]; exact m.2.2.1
  have dN : nI N / 2 = nI (N / 2) := pk_div (d := 2) (by omega) (by decide) (by decide)
  refine loopR n (fun k s => s = (qsum (fun k => pval (Ds k) N v t) k, nI k, h)) (fun s => s.2.1.toNatClampNeg) rfl (fun k s hk p => by rw [p]; exact nI_clamp (by omega)) ?_ ?_
  · intro k s hk p back hb
    subst p
    have hk12 : k < 12 := by omega
    obtain ⟨o, e⟩ := dm.2.2.2.2.2 k hk
    have hj : (dpin (Ds k) + t) % N < N := Nat.mod_lt _ (by omega)
    have hD := o.1
    have ej : rnd (mrow h 0 k 1 + nI t) (nI N) = nI ((dpin (Ds k) + t) % N) := by
      rw [e 1 (by decide)]
      show rnd (nI (dpin (Ds k)) + nI t) (nI N) = _
      have := o.2.1
      rw [nI_add, rnd_nat (by omega) (by omega) (by omega)]
    have e0 : qI h 75 (nI (8 * k) + 0).toNatClampNeg = nI (dk (Ds k)) := (slot_at hk12 (i := 0) (by decide) rfl).trans (e 0 (by decide))
    have e2 : qI h 75 (nI (8 * k) + 2).toNatClampNeg = nI (dw (Ds k)) := (slot_at hk12 (i := 2) (by decide) rfl).trans (e 2 (by decide))
    have more : ∀ x, x = pval (Ds k) N v t → ∀ a, a = qsum (fun k => pval (Ds k) N v t) k + x → ∀ w, w = nI k + 1 → back (a, w, h) := fun x ex a ea w ew => hb _ (by rw [ea, ew, ex, nI_1]; rfl)
    have zero : pval (Ds k) N v t = 0 → ∀ w, w = nI k + 1 → back (qsum (fun k => pval (Ds k) N v t) k, w, h) := fun ez w ew => more 0 ez.symm _ (by rw [Int32.add_zero]) w ew
    have g55 : (v = 5 ∨ v = 6) → wp_X12_valueAt_55 70 (nI v) (nI t) (qsum (fun k => pval (Ds k) N v t) k) (nI k) back h Q := by
      intro hv2
      refine mgives_ok m hk12 o e ht ?_
      have p5 : v = 5 → pval (Ds k) N v t = if 0 < gv (Ds k) N t 0 then gv (Ds k) N t 0 else 0 := fun z => by unfold pval; rw [if_pos z]
      have p6 : v = 6 → pval (Ds k) N v t = if gv (Ds k) N t 0 < 0 then -(gv (Ds k) N t 0) else 0 := fun z => by unfold pval; rw [if_neg (by omega), if_pos z]
      refine n_eq v 5 (fun c5 => ⟨fun c => zero ?_, fun c => ⟨fun z => absurd z c, fun _ a ea w ew => more _ ?_ a ea w ew⟩⟩) (fun c5 => ⟨fun c => zero ?_, fun c => ⟨fun _ a ea w ew => more _ ?_ a ea w ew, fun z => absurd (i_le (i_nle.mp c)) z⟩⟩)
      · rw [p6 (by omega)]; exact if_neg (i_nlt.mpr c)
      · rw [p6 (by omega)]; exact (if_pos (i_nle.mp c)).symm
      · rw [p5 c5]; exact if_neg (i_nlt.mpr c)
      · rw [p5 c5]; exact (if_pos (i_nle.mp c)).symm
    refine ⟨74, dm.2.2.1.1, in0 dm.2.2.1.2.1 (by decide) (by decide), fun c => ?_, fun _ => ?_⟩
    · rw [en] at c
      exact absurd c (nI_ge hk (by omega))
    show wp_X12_slot 0 (nI k) h _
    unfold wp_X12_slot
    rw [slot0_n]
    refine ⟨75, m.2.2.2.2.2.1, slot_in m hk12 (i := 0) (by decide) rfl, fun v10 e10 => mplace_ok m hk12 ?_⟩
    rw [ej]
    rw [e0] at e10
    refine pk_eq v 5 (fun c5 => g55 (Or.inl c5)) (fun c5 => n_eq v 6 (fun c6 => n_eq v 4 (fun c4 => n_eq (dk (Ds k)) 0 (fun ck => zero ?_) (fun ck => ⟨72, m.1, in08 m, ?_⟩) e10) (fun c4 => n_eq (dk (Ds k)) 1 (fun ck => zero ?_) (fun ck => mwithin_ok m hk12 ⟨fun cw => zero ?_, fun cw a ea w ew => more 1 ?_ a ea w ew⟩) e10)) (fun c6 => g55 (Or.inr c6)))
    · unfold pval
      rw [if_neg c5, if_neg c6, if_neg c4, if_neg ck]
    · -- a weight
      rw [eN, dN]
      have pz : pval (Ds k) N v t = (if v = 7 then pHigh (nI ((dpin (Ds k) + t) % N)) (nI N)
     else if (if v % 2 = 0 then N / 2 < (dpin (Ds k) + t) % N else 0 < (dpin (Ds k) + t) % N ∧ (dpin (Ds k) + t) % N < N / 2) then (if v < 2 then nI (dw (Ds k)) * pArm (cRow (Ds k)) (nI ((dpin (Ds k) + t) % N)) else 1)
     else 0) := by unfold pval; rw [if_neg c5, if_neg c6, if_neg c4, if_pos ck]
      generalize hJ : (dpin (Ds k) + t) % N = j at *
      have g217 : ¬ v = 7 → (if v % 2 = 0 then N / 2 < j else 0 < j ∧ j < N / 2) → wp_X12_valueAt_217 70 (nI v) (nI t) (qsum (fun k => pval (Ds k) N v t) k) (nI k) (nI (8 * k)) (nI j) back h Q := by
        intro c7 hc
        rw [if_neg c7, if_pos hc] at pz
        refine pk_le 2 v (fun c2 a ea w ew => more 1 ?_ a ea w ew) (fun c2 => ⟨75, m.2.2.2.2.2.1, slot_in m hk12 (i := 2) (by decide) rfl, marm_ok m hk12 o e ck (fun a ea w ew => more _ ?_ a ea w ew)⟩)
        · rw [pz, if_neg (by omega)]
        · rw [pz, if_pos c2, e2]
      have g178 : ∀ s0 s1 : Int32, (¬ s0 = 0 ↔ N / 2 < j) → (¬ s1 = 0 ↔ 0 < j ∧ j < N / 2) → wp_X12_valueAt_178 70 (nI v) (nI t) (qsum (fun k => pval (Ds k) N v t) k) (nI k) (nI (8 * k)) (nI j) s0 s1 back h Q := by
        intro s0 s1 hs0 hs1
        have ev : nI v - nI v / 2 * 2 = nI (v % 2) := pk_rem (d := 2) (by omega) (by decide) (by decide)
        refine n_eq v 7 (fun c7 => ?_) (fun c7 => mhigh_ok m (fun a ea w ew => more _ ?_ a ea w ew))
        · rw [ev]
          refine n_eq (v % 2) 0 (fun c2 => ⟨fun c => zero ?_, fun c => g217 c7 (by rw [if_neg c2]; exact hs1.mp c)⟩) (fun c2 => ⟨fun c => zero ?_, fun c => g217 c7 (by rw [if_pos c2]; exact hs0.mp c)⟩)
          · rw [pz, if_neg c7, if_neg]
            rw [if_neg c2]; exact fun z => hs1.mpr z c
          · rw [pz, if_neg c7, if_neg]
            rw [if_pos c2]; exact fun z => hs0.mpr z c
        · rw [pz, if_pos c7]
      have g153 : ∀ s0 : Int32, (¬ s0 = 0 ↔ N / 2 < j) → wp_X12_valueAt_153 70 (nI v) (nI t) (qsum (fun k => pval (Ds k) N v t) k) (nI k) (nI (8 * k)) (nI j) s0 back h Q := by
        intro s0 hs0
        refine pk_le j 0 (fun c => g178 s0 0 hs0 ⟨fun z => absurd rfl z, fun z => by omega⟩) (fun c => ⟨72, m.1, in08 m, ?_⟩)
        rw [eN, dN]
        exact pk_le (N / 2) j (fun c2 => g178 s0 0 hs0 ⟨fun z => absurd rfl z, fun z => by omega⟩) (fun c2 => g178 s0 1 hs0 ⟨fun _ => ⟨c, c2⟩, fun _ => by decide⟩)
      exact pk_le j (N / 2) (fun c => g153 0 ⟨fun z => absurd rfl z, fun z => by omega⟩) (fun c => g153 1 ⟨fun _ => c, fun _ => by decide⟩)
    · unfold pval
      rw [if_neg c5, if_neg c6, if_pos c4, if_neg (fun z => ck z.1)]
    · rw [mWithin_e o hN e] at cw
      unfold pval
      rw [if_neg c5, if_neg c6, if_pos c4, if_neg (fun z => by rw [z.2] at cw; exact absurd cw (by decide))]
    · rw [mWithin_e o hN e] at cw
      unfold pval
      rw [if_neg c5, if_neg c6, if_pos c4, if_pos ⟨ck, b2i_t cw⟩]
  · intro s p back
    subst p
    refine ⟨74, dm.2.2.1.1, in0 dm.2.2.1.2.1 (by decide) (by decide), fun _ => q, fun c => ?_⟩
    rw [en] at c
    exact absurd (nI_le (Nat.le_refl n) (by omega)) c
/-- VALUES at a t, or over all t -/
def vvt (N n : Nat) (Ds : Nat → PD) (t : Option Nat) (v : Nat) : Int32 := match t with
  | some t => vval N n Ds v t
  | none => qsum (fun t => vval N n Ds v t) N
def tI (t : Option Nat) : Int32 := match t with
  | some t => nI t
  | none => -1
def tOk (N : Nat) (t : Option Nat) : Prop := match t with
  | some t => t < N
  | none => True
def opv (vv : Nat → Int32) (m : Nat) : Int32 := if 100 ≤ m then nI (m - 100) else vv m
theorem mvalued_ok {h : PH} {N rb n m : Nat} {t : Option Nat} {Ds : Nat → PD} {Q : Int32 → PH → Prop} (dm : DrM h N rb n Ds) (hm : isOp m) (ht : tOk N t) (q : Q (opv (vvt N n Ds t) m) h) : wp_X12_valued 70 (nI m) (tI t) h Q := by
  have hN := dm.1.2.2.2.2.1
  unfold opv at q
  unfold isOp at hm
  refine pk_lt m 100 (fun c => ?_) (fun c => ?_)
  · rw [if_neg (by omega)] at q
    cases t with
    | some t =>
      have ht : t < N := ht
      exact ⟨fun z => absurd z (nI_m1 (by omega)), fun _ => mval_ok dm (by omega) ht q⟩
    | none =>
      refine ⟨fun _ => ?_, fun z => absurd rfl z⟩
      have eN : qI h 72 (0 : Int32).toNatClampNeg = nI N := by rw [c0_n]; exact dm.1.2.2.1
      refine loopR N (fun k s => s = (qsum (fun t => vval N n Ds m t) k, nI k, h)) (fun s => s.2.1.toNatClampNeg) rfl (fun k s hk p => by rw [p]; exact nI_clamp (by omega)) ?_ ?_
      · intro k s hk p back hb
        subst p
        refine ⟨72, dm.1.1, in08 dm.1, fun c => ?_, fun _ => mval_ok dm (by omega) hk (fun a ea w ew => hb _ (by rw [ea, ew, nI_1]; rfl))⟩
        rw [eN] at c
        exact absurd c (nI_ge hk (by omega))
      · intro s p back
        subst p
        refine ⟨72, dm.1.1, in08 dm.1, fun _ => q, fun c => ?_⟩
        rw [eN] at c
        exact absurd (nI_le (Nat.le_refl N) (by omega)) c
  · rw [if_pos c] at q
    rw [show nI m - 100 = nI (m - 100) from pk_sub (b := 100) c]
    exact q
theorem cval_ok {h : PH} {N n v : Nat} {t : Option Nat} {Ds : Nat → PD} {Q : Int32 → PH → Prop} (tv : TV h N n Ds) (hp : qI h 7 5 = nI N) (hN : N ≤ 48) (hv : v < 8) (ht : tOk N t) (q : Q (vvt N n Ds t v) h) : wp_X8_valueAt 7 (nI v) (tI t) h Q := by
  refine ⟨fun z => absurd z (nI_pos (by omega)), fun _ => pk_le 8 v (fun z => by omega) (fun _ => ?_)⟩
  rw [hp]
  cases t with
  | some t =>
    have ht : t < N := ht
    refine pk_lt t N (fun _ => ⟨fun _ => ⟨11, tv.1.1, ?_⟩, fun z => absurd (nI_pos' (by omega)) z⟩) (fun z => by omega)
    rw [show nI v * 48 + tI (some t) = nI (48 * v + t) by
      show nI v * nI 48 + nI t = _
      rw [pk_mul, nI_add, Nat.mul_comm], nI_clamp (by omega), tv.1.2.1, tv.1.2.2 v hv t ht]
    exact ⟨vp_in_nI (by omega) (by omega), q⟩
  | none =>
    refine ⟨fun _ => ⟨fun z => absurd z (by decide), fun _ => ⟨12, tv.2.1, by rw [tv.2.2.1]; exact vp_in_nI hv (by decide), ?_⟩⟩, fun z => absurd ?_ z⟩
    · rw [nI_clamp (by omega), tv.2.2.2 v hv]; exact q
    · show (-1 : Int32) < nI N
      rw [Int32.lt_iff_toInt_lt, nI_toInt (by omega)]
      have : (-1 : Int32).toInt = -1 := rfl
      omega
theorem cop_in : ∀ m, m < 8 → ((-1 : Int32) - (-1 - nI m) = nI m ∧ (-1 : Int32) - nI m < 0) := by decide
theorem oper_ok {h : PH} {N n m : Nat} {t : Option Nat} {Ds : Nat → PD} {Q : Int32 → PH → Prop} (tv : TV h N n Ds) (hp : qI h 7 5 = nI N) (hN : N ≤ 48) (hm : isOp m) (ht : tOk N t) (q : Q (opv (vvt N n Ds t) m) h) : wp_X0_operandAt (cop m) (tI t) 7 h Q := by
  unfold opv at q
  unfold isOp at hm
  unfold cop
  by_cases c : 100 ≤ m
  · rw [if_pos c] at q ⊢
    exact ⟨fun z => absurd z (nI_pos (by omega)), fun _ => q⟩
  · rw [if_neg c] at q ⊢
    obtain ⟨a, b⟩ := cop_in m (by omega)
    refine ⟨fun _ => ?_, fun z => absurd b z⟩
    rw [a]
    exact cval_ok tv hp hN (by omega) ht q
def cmpB (r : Nat) (a b : Int32) : Bool := if r = 60 then decide (a < b) else if r = 61 then decide (a = b) else decide (b < a)
theorem comp_ok {h : PH} {r : Nat} {a b : Int32} {Q : Int32 → PH → Prop} (hr : r = 60 ∨ r = 61 ∨ r = 62) (q : Q (b2i (cmpB r a b)) h) : wp_X0_compare (nI r) a b h Q := by
  unfold cmpB at q
  refine n_eq r 60 (fun c0 => n_eq r 62 (fun c2 => ?_) (fun c2 => ?_)) (fun c0 => ?_)
  · rw [if_neg c0, if_pos (by omega)] at q
    exact ⟨fun z => by rw [decide_eq_false z] at q; exact q, fun z => by rw [decide_eq_true z] at q; exact q⟩
  · rw [if_neg c0, if_neg (by omega)] at q
    exact ⟨fun z => by rw [decide_eq_false (i_nlt.mpr z)] at q; exact q, fun z => by rw [decide_eq_true (i_nle.mp z)] at q; exact q⟩
  · rw [if_pos c0] at q
    exact ⟨fun z => by rw [decide_eq_false (i_nlt.mpr z)] at q; exact q, fun z => by rw [decide_eq_true (i_nle.mp z)] at q; exact q⟩
/-! the nodes of a claim found out one behind the other -/
def nodeV (vv : Nat → Int32) (x : ND) (E : Nat → Bool) : Bool := if nw x = 4 then cmpB (nr x) (opv vv (na x)) (opv vv (nb x)) else if nw x = 1 then !E (na x) else if nw x = 2 then E (na x) && E (nb x) else E (na x) || E (nb x)
def ebT (vv : Nat → Int32) (nd : Nat → ND) : Nat → Nat → Bool
  | 0 => fun _ => false
  | k + 1 => fun j => if j = k then nodeV vv (nd k) (ebT vv nd k) else ebT vv nd k j
theorem ebT_st {vv : Nat → Int32} {nd : Nat → ND} {j k : Nat} (hj : j < k) : ∀ m, k ≤ m → ebT vv nd m j = ebT vv nd k j := by
  intro m hm
  induction m with
  | zero => omega
  | succ m ih =>
    rcases (show k = m + 1 ∨ k ≤ m by omega) with z | z
    · rw [z]
    · show (if j = m then _ else ebT vv nd m j) = _
      rw [if_neg (by omega)]; exact ih z
/-- S: what waits ahead of each node, the topmost first -/
def wts (nd : Nat → ND) (S : Nat → List Nat) (sz : Nat) : Prop := S 0 = [] ∧ ∀ k, k < sz → ndOk (nd k) k (S k) (S (k + 1))
theorem wts_lt {nd : Nat → ND} {S : Nat → List Nat} {sz : Nat} (w : wts nd S sz) : ∀ k, k ≤ sz → (∀ x ∈ S k, x < k) ∧ (S k).length ≤ k := by
  intro k
  induction k with
  | zero => intro _; rw [w.1]; exact ⟨fun x hx => absurd hx List.not_mem_nil, Nat.le_refl 0⟩
  | succ k ih =>
    intro hk
    obtain ⟨a, b⟩ := ih (by omega)
    have key : ∀ r : List Nat, (∀ x ∈ r, x ∈ S k) → r.length ≤ (S k).length → S (k + 1) = k :: r → (∀ x ∈ S (k + 1), x < k + 1) ∧ (S (k + 1)).length ≤ k + 1 := fun r hr hl e => by
      rw [e]
      refine ⟨fun x hx => ?_, by show r.length + 1 ≤ k + 1; omega⟩
      rcases List.mem_cons.mp hx with z | z
      · omega
      · have := a x (hr x z); omega
    rcases w.2 k (by omega) with ⟨_, _, _, _, e⟩ | ⟨_, r, e1, e2⟩ | ⟨_, r, e1, e2⟩
    · exact key (S k) (fun _ z => z) (Nat.le_refl _) e
    · exact key r (fun x z => by rw [e1]; exact List.mem_cons_of_mem _ z) (by rw [e1]; show r.length ≤ r.length + 1; omega) e2
    · exact key r (fun x z => by rw [e1]; exact List.mem_cons_of_mem _ (List.mem_cons_of_mem _ z)) (by rw [e1]; show r.length ≤ r.length + 1 + 1; omega) e2
theorem nodeV_cong {vv : Nat → Int32} {x : ND} {E F : Nat → Bool} (ha : nw x ≠ 4 → E (na x) = F (na x)) (hb : nw x ≠ 4 → nw x ≠ 1 → E (nb x) = F (nb x)) : nodeV vv x E = nodeV vv x F := by
  unfold nodeV
  by_cases c4 : nw x = 4
  · rw [if_pos c4, if_pos c4]
  · rw [if_neg c4, if_neg c4]
    by_cases c1 : nw x = 1
    · rw [if_pos c1, if_pos c1, ha c4]
    · rw [if_neg c1, if_neg c1, ha c4, hb c4 c1]
theorem wts_ch {nd : Nat → ND} {S : Nat → List Nat} {sz k : Nat} (w : wts nd S sz) (hk : k < sz) : (nw (nd k) ≠ 4 → na (nd k) < k) ∧ (nw (nd k) ≠ 4 → nw (nd k) ≠ 1 → nb (nd k) < k) := by
  obtain ⟨a, _⟩ := wts_lt w k (by omega)
  rcases w.2 k hk with ⟨e, _⟩ | ⟨e, r, e1, e2⟩ | ⟨e, r, e1, e2⟩
  · exact ⟨fun z => absurd e z, fun z => absurd e z⟩
  · exact ⟨fun _ => a _ (by rw [e1]; exact List.mem_cons_self), fun _ z => absurd e z⟩
  · exact ⟨fun _ => a _ (by rw [e1]; exact List.mem_cons_of_mem _ List.mem_cons_self), fun _ _ => a _ (by rw [e1]; exact List.mem_cons_self)⟩
theorem ebT_e {vv : Nat → Int32} {nd : Nat → ND} {S : Nat → List Nat} {sz k : Nat} (w : wts nd S sz) (hk : k < sz) : ebT vv nd sz k = nodeV vv (nd k) (ebT vv nd sz) := by
  obtain ⟨ca, cb⟩ := wts_ch w hk
  rw [ebT_st (show k < k + 1 by omega) sz (by omega)]
  show (if k = k then _ else _) = _
  rw [if_pos rfl]
  exact nodeV_cong (fun z => (ebT_st (ca z) sz (by omega)).symm) (fun z y => (ebT_st (cb z y) sz (by omega)).symm)
/-! the model's way -/
theorem isSo_ok {h : PH} {N rb n sz : Nat} {t : Option Nat} {Ds : Nat → PD} {nd : Nat → ND} {S : Nat → List Nat} (dm : DrM h N rb n Ds) (ht : tOk N t) (w : wts nd S sz) (hs : sz ≤ 40) (cm : CLM h 0 sz nd) (r1 : qR h 70 37 = some 81) (r2 : qR h 70 38 = some 82) (r3 : qR h 70 39 = some 83) (r4 : qR h 70 40 = some 84) (l1 : qL h 81 = 120) (l2 : qL h 82 = 120) (l3 : qL h 83 = 120) (l4 : qL h 84 = 120) :
    ∀ k, k < sz → ∀ f, k < f → ∀ Q : Int32 → PH → Prop, Q (b2i (ebT (vvt N n Ds t) nd sz k)) h → rg_X12s f 70 (nI k) (tI t) h Q := by
  intro k
  induction k using Nat.strongRecOn with
  | _ k ih =>
    intro hk f hf Q q
    obtain ⟨f, rfl⟩ : ∃ g, f = g + 1 := ⟨f - 1, by omega⟩
    show wp_X12_isSo (rg_X12s f) 70 (nI k) (tI t) h Q
    obtain ⟨c1, c2, c3, c4⟩ := cm k hk
    rw [Nat.zero_add] at c1 c2 c3 c4
    obtain ⟨ca, cb⟩ := wts_ch w hk
    rw [ebT_e w hk] at q
    unfold nodeV at q
    have cl : (nI k).toNatClampNeg = k := nI_clamp (by omega)
    have i1 : vp_in (nI k) (qL h 81) := by rw [l1]; exact vp_in_nI (by omega) (by decide)
    have i2 : vp_in (nI k) (qL h 82) := by rw [l2]; exact vp_in_nI (by omega) (by decide)
    have i3 : vp_in (nI k) (qL h 83) := by rw [l3]; exact vp_in_nI (by omega) (by decide)
    have i4 : vp_in (nI k) (qL h 84) := by rw [l4]; exact vp_in_nI (by omega) (by decide)
    have e1 : qI h 81 (nI k).toNatClampNeg = nI (nw (nd k)) := by rw [cl]; exact c1
    have e2 : qI h 82 (nI k).toNatClampNeg = nI (na (nd k)) := by rw [cl]; exact c2
    have e3 : qI h 83 (nI k).toNatClampNeg = nI (nb (nd k)) := by rw [cl]; exact c3
    have e4 : qI h 84 (nI k).toNatClampNeg = nI (nr (nd k)) := by rw [cl]; exact c4
    have w5 : nw (nd k) < 5 := by
      rcases w.2 k hk with ⟨e, _⟩ | ⟨e, _⟩ | ⟨e | e, _⟩ <;> omega
    refine ⟨81, r1, i1, n_eq (nw (nd k)) 4 (fun n4 => ⟨81, r1, i1, n_eq (nw (nd k)) 1 (fun n1 => ⟨82, r2, i2, ?_⟩) (fun n1 => ⟨82, r2, i2, ?_⟩) e1⟩) (fun n4 => ⟨82, r2, i2, ?_⟩) e1⟩
    · rw [e2]
      rw [if_neg n4, if_neg n1] at q
      refine ih _ (ca n4) (by have := ca n4; omega) f (by have := ca n4; omega) _ ⟨81, r1, i1, n_eq (nw (nd k)) 2 (fun n2 => ⟨fun z => ?_, fun z => ⟨83, r3, i3, ?_⟩⟩) (fun n2 => ⟨fun z => ?_, fun z => ⟨83, r3, i3, ?_⟩⟩) e1⟩
      · rw [if_neg n2, b2i_t z, Bool.true_or] at q; exact q
      · rw [e3]
        rw [if_neg n2, (b2i_0 _).mp z, Bool.false_or] at q
        exact ih _ (cb n4 n1) (by have := cb n4 n1; omega) f (by have := cb n4 n1; omega) _ ⟨fun y => by rw [(b2i_0 _).mp y] at q; exact q, fun y => by rw [b2i_t y] at q; exact q⟩
      · rw [if_pos n2, (b2i_0 _).mp z, Bool.false_and] at q; exact q
      · rw [e3]
        rw [if_pos n2, b2i_t z, Bool.true_and] at q
        exact ih _ (cb n4 n1) (by have := cb n4 n1; omega) f (by have := cb n4 n1; omega) _ ⟨fun y => by rw [(b2i_0 _).mp y] at q; exact q, fun y => by rw [b2i_t y] at q; exact q⟩
    · rw [e2]
      rw [if_neg n4, if_pos n1] at q
      exact ih _ (ca n4) (by have := ca n4; omega) f (by have := ca n4; omega) _ ⟨fun z => by rw [b2i_t z] at q; exact q, fun z => by rw [(b2i_0 _).mp z] at q; exact q⟩
    · rw [if_pos n4] at q
      obtain ⟨o1, o2, o3⟩ : isOp (na (nd k)) ∧ isOp (nb (nd k)) ∧ (nr (nd k) = 60 ∨ nr (nd k) = 61 ∨ nr (nd k) = 62) := by
        rcases w.2 k hk with ⟨_, a, b, c, _⟩ | ⟨e, _⟩ | ⟨e | e, _⟩
        · exact ⟨a, b, c⟩
        · omega
        · omega
        · omega
      rw [e2]
      refine mvalued_ok dm o1 ht ⟨83, r3, i3, ?_⟩
      rw [e3]
      unfold cmpB at q
      refine mvalued_ok dm o2 ht ⟨84, r4, i4, n_eq (nr (nd k)) 60 (fun n6 => ⟨84, r4, i4, n_eq (nr (nd k)) 61 (fun n7 => ?_) (fun n7 => ?_) e4⟩) (fun n6 => ?_) e4⟩
      · rw [if_neg n6, if_neg n7] at q
        exact ⟨fun z => by rw [decide_eq_false (i_nlt.mpr z)] at q; exact q, fun z => by rw [decide_eq_true (i_nle.mp z)] at q; exact q⟩
      · rw [if_neg n6, if_pos n7] at q
        exact ⟨fun z => by rw [decide_eq_false z] at q; exact q, fun z => by rw [decide_eq_true z] at q; exact q⟩
      · rw [if_pos n6] at q
        exact ⟨fun z => by rw [decide_eq_false (i_nlt.mpr z)] at q; exact q, fun z => by rw [decide_eq_true (i_nle.mp z)] at q; exact q⟩
/-! the class's way -/
def stk (h : PH) (a : Nat) (E : Nat → Bool) : List Nat → Prop
  | [] => True
  | x :: r => qI h a r.length = b2i (E x) ∧ stk h a E r
theorem stk_set {h : PH} {a k : Nat} {E : Nat → Bool} {v : Int32} : ∀ {r : List Nat}, r.length ≤ k → stk h a E r → stk (qsI h a k v) a E r
  | [], _, _ => trivial
  | x :: r, hk, s => by
    have hk : r.length + 1 ≤ k := hk
    exact ⟨by rw [qI_sI, if_neg (fun z => by have := z.2; omega)]; exact s.1, stk_set (by omega) s.2⟩
theorem nar_b (b : Bool) : vp_nar .boolean (b2i b) = b2i b := by cases b <;> decide
theorem b2i_and (a b : Bool) : b2i a &&& b2i b = b2i (a && b) := by cases a <;> cases b <;> decide
theorem b2i_or (a b : Bool) : b2i a ||| b2i b = b2i (a || b) := by cases a <;> cases b <;> decide
theorem soAt_ok {h : PH} {N n sz top c : Nat} {t : Option Nat} {Ds : Nat → PD} {nd : Nat → ND} {S : Nat → List Nat} {Q : Int32 → PH → Prop} (hc : c = 54 ∨ c = 59) (sh : Shp h) (tv : TV h N n Ds) (hp : qI h 7 5 = nI N) (hN : N ≤ 48) (ht : tOk N t) (w : wts nd S sz) (hs : sz ≤ 40) (es : qI h c 5 = nI sz) (et : S sz = [top]) (cc : CLC h c sz nd) (q : ∀ h1, Fg [c + 4] [] h h1 → Q (b2i (ebT (vvt N n Ds t) nd sz top)) h1) : wp_X0_isSoAt c (tI t) 7 h Q := by
  have key : ∀ h1, Fg [c + 4] [] h h1 → (TV h1 N n Ds ∧ qI h1 7 5 = nI N) ∧ (qI h1 c 5 = nI sz ∧ CLC h1 c sz nd) ∧ (qR h1 c 0 = some (c + 1) ∧ qR h1 c 1 = some (c + 2) ∧ qR h1 c 2 = some (c + 3) ∧ qR h1 c 3 = some (c + 4)) ∧ (qL h1 (c + 1) = 40 ∧ qL h1 (c + 2) = 40 ∧ qL h1 (c + 3) = 40 ∧ qL h1 (c + 4) = 40) := by
    intro h1 f
    have I : ∀ x, x ≠ c + 4 → ∀ j, qI h1 x j = qI h x j := fun x hx j => (f.ne (by simp; exact hx) j).1
    have R : ∀ x, x ≠ c + 4 → ∀ j, qR h1 x j = qR h x j := fun x hx j => (f.ne (by simp; exact hx) j).2.2
    refine ⟨⟨tv.ag ?_, by rw [I 7 (by omega)]; exact hp⟩, ⟨by rw [I c (by omega)]; exact es, fun k hk => by rw [I (c + 1) (by omega), I (c + 2) (by omega), I (c + 3) (by omega)]; exact cc k hk⟩, ?_, ?_⟩
    · rcases hc with z | z <;> (subst z; exact f.ag rfl)
    · rw [R c (by omega), R c (by omega), R c (by omega), R c (by omega)]
      rcases hc with z | z
      · subst z; exact ⟨sh.R 54 0 55 (by decide), sh.R 54 1 56 (by decide), sh.R 54 2 57 (by decide), sh.R 54 3 58 (by decide)⟩
      · subst z; exact ⟨sh.R 59 0 60 (by decide), sh.R 59 1 61 (by decide), sh.R 59 2 62 (by decide), sh.R 59 3 63 (by decide)⟩
    · rw [f.L, f.L, f.L, f.L]
      rcases hc with z | z
      · subst z; exact ⟨sh.L 55 (by decide) rfl, sh.L 56 (by decide) rfl, sh.L 57 (by decide) rfl, sh.L 58 (by decide) rfl⟩
      · subst z; exact ⟨sh.L 60 (by decide) rfl, sh.L 61 (by decide) rfl, sh.L 62 (by decide) rfl, sh.L 63 (by decide) rfl⟩
  generalize hE : ebT (vvt N n Ds t) nd sz = E at *
  refine loopR sz (fun i s => s.1 = nI (S i).length ∧ s.2.1 = nI i ∧ Fg [c + 4] [] h s.2.2 ∧ stk s.2.2 (c + 4) E (S i)) (fun s => s.2.1.toNatClampNeg) ⟨by rw [w.1]; rfl, rfl, Fg.rf _ _ _, by rw [w.1]; trivial⟩ (fun i s hi p => by rw [p.2.1]; exact nI_clamp (by omega)) ?_ ?_
  · rintro i ⟨l3, l4, h1⟩ hi ⟨e3, e4, f1, st⟩ back hb
    dsimp only at e3 e4 f1 st
    subst e3 e4
    obtain ⟨⟨tv1, hp1⟩, ⟨es1, cc1⟩, ⟨r0, r1, r2, r3⟩, l1, l2, l3, l4⟩ := key h1 f1
    obtain ⟨_, hl⟩ := wts_lt w i (by omega)
    have cl : (nI i).toNatClampNeg = i := nI_clamp (by omega)
    obtain ⟨cd, cab⟩ := cc1 i hi
    have hEi : E i = nodeV (vvt N n Ds t) (nd i) E := by rw [← hE]; exact ebT_e w hi
    unfold nodeV at hEi
    have fin : ∀ (r : List Nat) (h2 : PH) (x y v : Int32), S (i + 1) = i :: r → stk h1 (c + 4) E r → h2 = qsI h1 (c + 4) r.length v → v = b2i (E i) → x = nI (r.length + 1) → y = nI i + 1 → back (x, y, h2) := fun r h2 x y v eS s2 eh ev ex ey => hb _ ⟨by rw [eS]; exact ex, by rw [ey]; exact nI_1 i, by rw [eh]; exact f1.push _ _, by rw [eS]; exact ⟨by rw [eh, qI_sI, if_pos ⟨rfl, rfl⟩]; exact ev, by rw [eh]; exact stk_set (Nat.le_refl _) s2⟩⟩
    refine ⟨fun z => absurd z (by rw [es1]; exact nI_ge hi (by omega)), fun _ => ⟨c + 1, r0, by rw [l1]; exact vp_in_nI (by omega) (by decide), fun v10 e10 => ?_⟩⟩
    rw [cl, cd] at e10
    unfold cdeed at e10
    rcases w.2 i hi with ⟨n4, oa, ob, or, eS⟩ | ⟨n1, r, e1, eS⟩ | ⟨n23, r, e1, eS⟩
    · rw [if_pos n4] at e10
      rw [if_pos n4] at hEi
      obtain ⟨ca, cb⟩ := cab n4
      refine n_eq (nr (nd i)) 0 (fun _ => n_eq (nr (nd i)) 1 (fun _ => n_eq (nr (nd i)) 2 (fun _ => ⟨c + 4, r3, ?_⟩) (fun z => by omega) e10) (fun z => by omega) e10) (fun z => by omega) e10
      rw [l4]
      refine pk_le 40 (S i).length (fun z => by omega) (fun _ => ⟨c + 4, r3, c + 2, r1, by rw [l2]; exact vp_in_nI (by omega) (by decide), ?_⟩)
      rw [cl, ca]
      refine oper_ok tv1 hp1 hN oa ht ⟨c + 3, r2, by rw [l3]; exact vp_in_nI (by omega) (by decide), ?_⟩
      dsimp only
      rw [cb]
      refine oper_ok tv1 hp1 hN ob ht ?_
      rw [e10]
      refine comp_ok or ⟨by rw [l4]; exact vp_in_nI (by omega) (by decide), fun h2 eh x ex y ey => fin (S i) h2 x y _ eS st (by rw [nI_clamp (by omega)] at eh; exact eh) ?_ (by rw [ex]; exact nI_1 _) ey⟩
      rw [hEi]; exact nar_b _
    · rw [if_neg (by omega), if_pos n1] at e10
      rw [if_neg (by omega), if_pos n1] at hEi
      rw [e1] at st hl ⊢
      obtain ⟨s1, s2⟩ := st
      have hl : r.length + 1 ≤ i := hl
      have ep : nI (na (nd i) :: r).length - 1 = nI r.length := nI_pred _
      have iv : vp_in (nI r.length) (qL h1 (c + 4)) := by rw [l4]; exact vp_in_nI (by omega) (by decide)
      rw [ep, nI_clamp (show r.length < 2 ^ 31 by omega)]
      refine ⟨fun z => absurd e10 z, fun _ => pk_lt (r.length + 1) 1 (fun z => by omega) (fun _ => ⟨c + 4, r3, c + 4, r3, iv, fun z => ⟨iv, fun h2 eh y ey => fin r h2 _ y _ eS s2 eh ?_ rfl ey⟩, fun z => ⟨iv, fun h2 eh y ey => fin r h2 _ y _ eS s2 eh ?_ rfl ey⟩⟩)⟩
      · rw [s1] at z
        rw [hEi, b2i_t z]; decide
      · rw [s1] at z
        rw [hEi, (b2i_0 _).mp z]; decide
    · have n4 : ¬ nw (nd i) = 4 := by omega
      have n1 : ¬ nw (nd i) = 1 := by omega
      rw [if_neg n4, if_neg n1] at e10
      rw [if_neg n4, if_neg n1] at hEi
      rw [e1] at st hl ⊢
      obtain ⟨s1, s2, s3⟩ := st
      have hl : r.length + 1 + 1 ≤ i := hl
      have ep : nI (nb (nd i) :: na (nd i) :: r).length + (-1) = nI (r.length + 1) := pk_m1 _
      have ep2 : nI (r.length + 1) - 1 = nI r.length := nI_pred _
      have iv : vp_in (nI r.length) (qL h1 (c + 4)) := by rw [l4]; exact vp_in_nI (by omega) (by decide)
      have iv2 : vp_in (nI (r.length + 1)) (qL h1 (c + 4)) := by rw [l4]; exact vp_in_nI (by omega) (by decide)
      have s1 : qI h1 (c + 4) (r.length + 1) = b2i (E (nb (nd i))) := s1
      by_cases n2 : nw (nd i) = 2
      · rw [if_pos n2] at e10
        rw [if_pos n2] at hEi
        refine n_eq 1 0 (fun _ => n_eq 1 1 (fun z => absurd rfl z) (fun _ => pk_lt (r.length + 1 + 1) 2 (fun z => by omega) (fun _ v ev => ?_)) e10) (fun z => by omega) e10
        rw [ep] at ev
        subst ev
        rw [ep2]
        refine ⟨c + 4, r3, iv, c + 4, r3, iv2, iv, fun h2 eh y ey => ?_⟩
        rw [nI_clamp (show r.length < 2 ^ 31 by omega), nI_clamp (show r.length + 1 < 2 ^ 31 by omega), s1, s2, b2i_and, nar_b] at eh
        exact fin r h2 _ y _ eS s3 eh (by rw [hEi]) rfl ey
      · rw [if_neg n2] at e10
        rw [if_neg n2] at hEi
        refine n_eq 2 0 (fun _ => n_eq 2 1 (fun _ => n_eq 2 2 (fun z => absurd rfl z) (fun _ => pk_lt (r.length + 1 + 1) 2 (fun z => by omega) (fun _ v ev => ?_)) e10) (fun z => by omega) e10) (fun z => by omega) e10
        rw [ep] at ev
        subst ev
        rw [ep2]
        refine ⟨c + 4, r3, iv, c + 4, r3, iv2, iv, fun h2 eh y ey => ?_⟩
        rw [nI_clamp (show r.length < 2 ^ 31 by omega), nI_clamp (show r.length + 1 < 2 ^ 31 by omega), s1, s2, b2i_or, nar_b] at eh
        exact fin r h2 _ y _ eS s3 eh (by rw [hEi]) rfl ey
  · rintro ⟨l3, l4, h1⟩ ⟨e3, e4, f1, st⟩ back
    dsimp only at e3 e4 f1 st
    subst e3 e4
    obtain ⟨⟨tv1, hp1⟩, ⟨es1, cc1⟩, ⟨r0, r1, r2, r3⟩, l1, l2, l3, l4⟩ := key h1 f1
    have q1 := q h1 f1
    rw [et] at st ⊢
    have st : qI h1 (c + 4) 0 = b2i (E top) := st.1
    refine ⟨fun _ => ⟨fun z => absurd z (show ¬ (nI 1 ≤ 0) by decide), fun _ => ⟨c + 4, r3, in0 l4 (by decide) (by decide), ?_⟩⟩, fun z => absurd (by rw [es1]; exact nI_le (Nat.le_refl sz) (by omega)) z⟩
    rw [c0_n, st]
    exact ⟨fun z => by rw [(b2i_0 _).mp z] at q1; exact q1, fun z => by rw [b2i_t z] at q1; exact q1⟩
theorem Rm.fg {S : List Nat} {F : List (Nat × Nat)} {h h1 h2 : PH} (f : Fg S F h h1) (r : Rm h1 h2) : Rm h h2 := by
  obtain ⟨a, b, c⟩ := r
  rw [f.1.1] at a b
  rw [f.1.2.1] at c
  exact ⟨a, b, c⟩
/-- what is known of a told claim -/
def ClD (h : PH) (c sz top : Nat) (nd : Nat → ND) (S : Nat → List Nat) : Prop := (c = 54 ∨ c = 59) ∧ sz ≤ 40 ∧ wts nd S sz ∧ S sz = [top] ∧ (qI h c 5 = nI sz ∧ CLC h c sz nd) ∧ (qI h 70 45 = nI top ∧ CLM h 0 sz nd)
theorem ClD.lt {h : PH} {c sz top : Nat} {nd : Nat → ND} {S : Nat → List Nat} (k : ClD h c sz top nd S) : top < sz := by
  have := (wts_lt k.2.2.1 sz (Nat.le_refl _)).1 top (by rw [k.2.2.2.1]; exact List.mem_cons_self)
  exact this
theorem ClD.fg {S0 : List Nat} {F : List (Nat × Nat)} {h h1 : PH} {c sz top : Nat} {nd : Nat → ND} {S : Nat → List Nat} (k : ClD h c sz top nd S) (f : Fg S0 F h h1) (g : fag S0 F [54, 55, 56, 57, 59, 60, 61, 62, 81, 82, 83, 84] [(70, 45)] = true) : ClD h1 c sz top nd S := by
  have f := f.ag g
  obtain ⟨k1, k2, k3, k4, ⟨k5, k6⟩, k7, k8⟩ := k
  have hc : ∀ x, x < 4 → ∀ j, qI h1 (c + x) j = qI h (c + x) j := fun x hx j => by
    rcases k1 with q | q <;> rw [q] <;> (rcases (show x = 0 ∨ x = 1 ∨ x = 2 ∨ x = 3 by omega) with y | y | y | y <;> rw [y] <;> exact f.I rfl j)
  exact ⟨k1, k2, k3, k4, ⟨(hc 0 (by decide) 5).trans k5, fun k hk => by rw [hc 1 (by decide), hc 2 (by decide), hc 3 (by decide)]; exact k6 k hk⟩, (f.i rfl).trans k7, fun k hk => by rw [f.I rfl, f.I rfl, f.I rfl, f.I rfl]; exact k8 k hk⟩
def clT (N n : Nat) (Ds : Nat → PD) (nd : Nat → ND) (sz top : Nat) (t : Option Nat) : Bool := ebT (vvt N n Ds t) nd sz top
theorem cTG {h : PH} {N rb n : Nat} {Ds : Nat → PD} (g : TG h N rb n Ds) : qI h 7 5 = nI N ∧ N ≤ 48 := ⟨g.2.2.2.1, g.2.2.2.2.2.2.1⟩
theorem first_ok {h : PH} {N rb n d e sz top c : Nat} {Ds : Nat → PD} {nd : Nat → ND} {S : Nat → List Nat} {Q : Int32 → PH → Prop} (sh : Shp h) (id : IDd h N rb n Ds d e) (rc : qR h 0 12 = some c) (k : ClD h c sz top nd S) (so : Bool) (q : ∀ r h1, Fg [c + 4] [] h h1 → frst (fun t => clT N n Ds nd sz top (some t) = so) N r → Q r h1) : wp_X11_firstAtWhichClaimIs 0 (b2i so) h Q := by
  obtain ⟨hp, hN⟩ := cTG id.2.2.2.1
  have hc := k.1
  have r2 : qR h 0 2 = some 7 := sh.R 0 2 7 (by decide)
  have ids : ∀ h1, Fg [c + 4] [] h h1 → IDd h1 N rb n Ds d e ∧ Shp h1 ∧ ClD h1 c sz top nd S := fun h1 f => by
    rcases hc with z | z <;> (subst z; exact ⟨id.ag (f.ag rfl), sh.fg f rfl, k.fg f rfl⟩)
  have Rr : ∀ h1, Fg [c + 4] [] h h1 → ∀ j, qR h1 0 j = qR h 0 j := fun h1 f j => (f.ne (by simp) j).2.2
  refine loopR N (fun t s => s.1 = nI t ∧ Fg [c + 4] [] h s.2 ∧ ∀ j, j < t → ¬ clT N n Ds nd sz top (some j) = so) (fun s => s.1.toNatClampNeg) ⟨rfl, Fg.rf _ _ _, fun j hj => absurd hj (Nat.not_lt_zero j)⟩ (fun t s ht p => by rw [p.1]; exact nI_clamp (by omega)) ?_ ?_
  · rintro t ⟨t', h1⟩ ht ⟨e1, f1, no⟩ back hb
    dsimp only at e1 f1 no
    subst e1
    obtain ⟨id1, sh1, k1⟩ := ids h1 f1
    refine ⟨d, id1.1.1, fun z => ?_, fun _ => ⟨c, by rw [Rr h1 f1]; exact rc, 7, by rw [Rr h1 f1]; exact r2, ?_⟩⟩
    · rw [id1.2.1.2.1] at z
      exact absurd z (nI_ge ht (by omega))
    · refine soAt_ok (t := some t) hc sh1 id1.2.2.2.2 (cTG id1.2.2.2.1).1 hN ht k1.2.2.1 k1.2.1 k1.2.2.2.2.1.1 k1.2.2.2.1 k1.2.2.2.2.1.2 (fun h2 f2 => ?_)
      have f12 : Fg [c + 4] [] h h2 := f1.tr f2 (by simp [fsub]) (by simp [fsub])
      refine ⟨fun z w ew => hb _ ⟨by rw [ew]; exact nI_1 t, f12, fun j hj => ?_⟩, fun z => q _ h2 f12 (Or.inl ⟨t, ht, (b2i_eq _ _).mp z, no, rfl⟩)⟩
      rcases (show j < t ∨ j = t by omega) with y | y
      · exact no j y
      · rw [y]; exact fun y2 => z ((b2i_eq _ _).mpr y2)
  · rintro ⟨t', h1⟩ ⟨e1, f1, no⟩ back
    dsimp only at e1 f1 no
    subst e1
    obtain ⟨id1, sh1, k1⟩ := ids h1 f1
    refine ⟨d, id1.1.1, fun _ => q _ h1 f1 (Or.inr ⟨no, rfl⟩), fun z => ?_⟩
    rw [id1.2.1.2.1] at z
    exact absurd (nI_le (Nat.le_refl N) (by omega)) z
theorem misSo_ok {h : PH} {N rb n sz top c : Nat} {t : Option Nat} {Ds : Nat → PD} {nd : Nat → ND} {S : Nat → List Nat} {Q : Int32 → PH → Prop} (sh : Shp h) (dm : DrM h N rb n Ds) (k : ClD h c sz top nd S) (ht : tOk N t) (q : Q (b2i (clT N n Ds nd sz top t)) h) : wp_X12_isSoR 70 (qI h 70 45) (tI t) h Q := by
  rw [k.2.2.2.2.2.1]
  have hs := k.2.1
  have := k.lt
  exact isSo_ok dm ht k.2.2.1 k.2.1 k.2.2.2.2.2.2 (sh.R 70 37 81 (by decide)) (sh.R 70 38 82 (by decide)) (sh.R 70 39 83 (by decide)) (sh.R 70 40 84 (by decide)) (sh.L 81 (by decide) rfl) (sh.L 82 (by decide) rfl) (sh.L 83 (by decide) rfl) (sh.L 84 (by decide) rfl) top k.lt 64 (by omega) Q q
theorem Inv.c4 {h h1 : PH} {c : Nat} (i : Inv h) (hc : c = 54 ∨ c = 59) (f : Fg [c + 4] [] h h1) : Inv h1 := by
  rcases hc with z | z <;> (subst z; exact i.fg f rfl rfl rfl rfl rfl rfl rfl rfl rfl rfl rfl)
theorem op_where {h : PH} (i : Inv h) : wp_X11_where 0 h (fun r h1 => wp_X12_where 70 h1 (Both h r)) := by
  obtain ⟨N, rb, n, Ds, d, e, id⟩ := i.2.2.1
  have sh := i.1
  obtain ⟨c, e', kd, ⟨t1, t2, t3⟩, ka, kb, k4, kk⟩ := i.2.2.2.2.2.1
  refine ⟨c, t1, fun z h1 e1 => mlay i id e1 (fun h2 i2 rm dm f2 => ⟨fun y => absurd (by rw [ka]; rw [f2.I rfl, kb] at y; exact y) z, fun _ => ⟨rfl, i2, rm⟩⟩), fun z => ?_⟩
  have kd1 : kd = 1 := nI_inj (b := 1) (by omega) (by decide) (by rw [← ka]; exact z)
  rcases kk with kk | ⟨sz, top, nd, S, d1, d2, d3, d4, d5, d6, d7, d8⟩
  · omega
  have cd : ClD h c sz top nd S := ⟨by omega, d1, ⟨d4, d6⟩, d5, ⟨d2, d7⟩, d3, d8⟩
  refine first_ok sh id t1 cd false (fun r h1 f1 fr g e1 => ?_)
  have i1 := i.c4 cd.1 f1
  have id1 : IDd h1 N rb n Ds d e := by rcases cd.1 with z | z <;> (subst z; exact id.ag (f1.ag rfl))
  have cd1 : ClD h1 c sz top nd S := by rcases cd.1 with z | z <;> (subst z; exact cd.fg f1 rfl)
  have kb1 : qI h1 70 44 = nI kd := ((f1.ne (by simp; have := cd.1; omega) 44).1).trans kb
  refine mlay i1 id1 e1 (fun h2 i2 rm dm f2 => ⟨fun _ => ?_, fun y => absurd (by rw [f2.I rfl, kb1, kd1]; rfl) y⟩)
  have cd2 := cd1.fg f2 rfl
  have rm := Rm.fg f1 rm
  have eN : qI h2 72 (0 : Int32).toNatClampNeg = nI N := by rw [c0_n]; exact dm.1.2.2.1
  have hN := dm.1.2.2.2.2.1
  have fin : ∀ r2, frst (fun t => clT N n Ds nd sz top (some t) = false) N r2 → Both h r r2 h2 := fun r2 f2 => ⟨frst_uniq fr f2, i2, rm⟩
  refine loopR N (fun t s => s = (nI t, h2) ∧ ∀ j, j < t → ¬ clT N n Ds nd sz top (some j) = false) (fun s => s.1.toNatClampNeg) ⟨rfl, fun j hj => absurd hj (Nat.not_lt_zero j)⟩ (fun t s ht p => by rw [p.1]; exact nI_clamp (by omega)) ?_ ?_
  · rintro t s ht ⟨p, no⟩ back hb
    subst p
    refine ⟨72, dm.1.1, in08 dm.1, fun z => absurd z (by rw [eN]; exact nI_ge ht (by omega)), fun _ => misSo_ok (t := some t) i2.1 dm cd2 ht ⟨fun z w ew => hb _ ⟨by rw [ew, nI_1], fun j hj => ?_⟩, fun z => fin _ (Or.inl ⟨t, ht, (b2i_0 _).mp z, no, rfl⟩)⟩⟩
    rcases (show j < t ∨ j = t by omega) with y | y
    · exact no j y
    · rw [y]; exact fun y2 => z ((b2i_0 _).mpr y2)
  · rintro s ⟨p, no⟩ back
    subst p
    exact ⟨72, dm.1.1, in08 dm.1, fun _ => fin _ (Or.inr ⟨no, rfl⟩), fun z => absurd (by rw [eN]; exact nI_le (Nat.le_refl N) (by omega)) z⟩
theorem op_holds {h : PH} (i : Inv h) : wp_X11_holds 0 h (fun r h1 => wp_X12_holds 70 h1 (Both h r)) := by
  obtain ⟨N, rb, n, Ds, d, e, id⟩ := i.2.2.1
  have sh := i.1
  obtain ⟨c, e', kd, ⟨t1, t2, t3⟩, ka, kb, k4, kk⟩ := i.2.2.2.2.2.1
  rcases kk with kk | ⟨sz, top, nd, S, d1, d2, d3, d4, d5, d6, d7, d8⟩
  · have ka0 : qI h c 4 = 0 := by rw [ka, kk]; rfl
    exact ⟨c, t1, fun z => absurd (ka0.symm.trans z) (by decide), fun z => absurd (ka0.symm.trans z) (by decide), fun z => absurd (ka0.symm.trans z) (by decide), fun _ _ _ h1 e1 => mlay i id e1 (fun h2 i2 rm dm f2 => ⟨fun y => absurd (by rw [f2.I rfl, kb, kk]; rfl) y, fun _ => ⟨rfl, i2, rm⟩⟩)⟩
  have cd : ClD h c sz top nd S := ⟨by omega, d1, ⟨d4, d6⟩, d5, ⟨d2, d7⟩, d3, d8⟩
  -- what the model answers
  have mod : ∀ (h1 : PH) (r : Int32), Fg [c + 4] [] h h1 → (kd = 0 → r = -1) → (kd = 3 → r = b2i (clT N n Ds nd sz top none)) → (¬ kd = 0 → ¬ kd = 3 → ∃ r0, frst (fun t => clT N n Ds nd sz top (some t) = decide (kd = 2)) N r0 ∧ (r0 = -1 → r = (if kd = 2 then 0 else 1)) ∧ (¬ r0 = -1 → r = (if kd = 2 then 1 else 0))) → wp_X12_holds 70 h1 (Both h r) := by
    intro h1 r f1 a0 a3 a12 g e1
    have i1 := i.c4 cd.1 f1
    have id1 : IDd h1 N rb n Ds d e := by rcases cd.1 with z | z <;> (subst z; exact id.ag (f1.ag rfl))
    have cd1 : ClD h1 c sz top nd S := by rcases cd.1 with z | z <;> (subst z; exact cd.fg f1 rfl)
    have kb1 : qI h1 70 44 = nI kd := ((f1.ne (by simp; have := cd.1; omega) 44).1).trans kb
    refine mlay i1 id1 e1 (fun h2 i2 rm dm f2 => ?_)
    have cd2 := cd1.fg f2 rfl
    have rm := Rm.fg f1 rm
    have kb2 : qI h2 70 44 = nI kd := (f2.I rfl).trans kb1
    refine n_eq kd 0 (fun c0 => n_eq kd 3 (fun c3 => ?_) (fun c3 => ?_) kb2) (fun c0 => ⟨a0 c0, i2, rm⟩) kb2
    · obtain ⟨r0, fr, x1, x2⟩ := a12 c0 c3
      have eN : qI h2 72 (0 : Int32).toNatClampNeg = nI N := by rw [c0_n]; exact dm.1.2.2.1
      have hN := dm.1.2.2.2.2.1
      refine loopR N (fun t s => s = (nI t, h2) ∧ ∀ j, j < t → ¬ clT N n Ds nd sz top (some j) = decide (kd = 2)) (fun s => s.1.toNatClampNeg) ⟨rfl, fun j hj => absurd hj (Nat.not_lt_zero j)⟩ (fun t s ht p => by rw [p.1]; exact nI_clamp (by omega)) ?_ ?_
      · rintro t s ht ⟨p, no⟩ back hb
        subst p
        have st : ∀ s0 : Int32, s0 = b2i (decide (kd = 2)) → wp_X12_holds_78 70 (nI t) s0 (b2i (clT N n Ds nd sz top (some t))) back h2 (Both h r) := by
          intro s0 e0
          subst e0
          refine ⟨fun z w ew => hb _ ⟨by rw [ew, nI_1], fun j hj => ?_⟩, fun z => ?_⟩
          · rcases (show j < t ∨ j = t by omega) with y | y
            · exact no j y
            · rw [y]; exact fun y2 => z ((b2i_eq _ _).mpr y2)
          · have r0n : ¬ r0 = -1 := by
              have : r0 = nI t := frst_uniq fr (Or.inl ⟨t, ht, (b2i_eq _ _).mp z, no, rfl⟩)
              rw [this]; exact nI_m1 (by omega)
            have := x2 r0n
            exact n_eq kd 2 (fun c2 => ⟨by rw [this, if_neg c2], i2, rm⟩) (fun c2 => ⟨by rw [this, if_pos c2], i2, rm⟩) kb2
        refine ⟨72, dm.1.1, in08 dm.1, fun z => absurd z (by rw [eN]; exact nI_ge ht (by omega)), fun _ => misSo_ok (t := some t) i2.1 dm cd2 ht (n_eq kd 2 (fun c2 => st 0 ?_) (fun c2 => st 1 ?_) kb2)⟩
        · rw [decide_eq_false c2]; rfl
        · rw [decide_eq_true c2]; rfl
      · rintro s ⟨p, no⟩ back
        subst p
        have := x1 (frst_uniq fr (Or.inr ⟨no, rfl⟩))
        refine ⟨72, dm.1.1, in08 dm.1, fun _ => n_eq kd 2 (fun c2 => ⟨by rw [this, if_neg c2], i2, rm⟩) (fun c2 => ⟨by rw [this, if_pos c2], i2, rm⟩) kb2, fun z => absurd (by rw [eN]; exact nI_le (Nat.le_refl N) (by omega)) z⟩
    · have := a3 c3
      refine misSo_ok (t := none) i2.1 dm cd2 trivial ⟨fun z => ⟨?_, i2, rm⟩, fun z => ⟨?_, i2, rm⟩⟩
      · rw [this, (b2i_0 _).mp z]; rfl
      · rw [this, b2i_t z]; rfl
  have k0 : ∀ m, m < 4 → qI h c 4 = nI m → kd = m := fun m hm z => nI_inj (by omega) (by omega) (by rw [← ka]; exact z)
  refine ⟨c, t1, fun z => ?_, fun z => ?_, fun z => ⟨c, t1, 7, sh.R 0 2 7 (by decide), ?_⟩, fun z1 z2 z3 => mod h (-1) (Fg.rf _ _ _) (fun _ => rfl) (fun y => absurd (by rw [ka, y]; rfl) z3) (fun y y2 => ?_)⟩
  · have kd1 := k0 1 (by decide) z
    refine first_ok sh id t1 cd false (fun r0 h1 f1 fr => ⟨fun y => mod h1 0 f1 (by omega) (by omega) (fun _ _ => ⟨r0, ?_, fun x => absurd x y, fun _ => by rw [if_neg (by omega)]⟩), fun y => mod h1 1 f1 (by omega) (by omega) (fun _ _ => ⟨r0, ?_, fun _ => by rw [if_neg (by omega)], fun x => absurd y x⟩)⟩)
    · rw [decide_eq_false (by omega)]; exact fr
    · rw [decide_eq_false (by omega)]; exact fr
  · have kd1 := k0 2 (by decide) z
    refine first_ok sh id t1 cd true (fun r0 h1 f1 fr => ⟨fun y => mod h1 1 f1 (by omega) (by omega) (fun _ _ => ⟨r0, ?_, fun x => absurd x y, fun _ => by rw [if_pos kd1]⟩), fun y => mod h1 0 f1 (by omega) (by omega) (fun _ _ => ⟨r0, ?_, fun _ => by rw [if_pos kd1], fun x => absurd y x⟩)⟩)
    · rw [decide_eq_true kd1]; exact fr
    · rw [decide_eq_true kd1]; exact fr
  · have kd3 := k0 3 (by decide) z
    refine soAt_ok (t := none) cd.1 sh id.2.2.2.2 (cTG id.2.2.2.1).1 (cTG id.2.2.2.1).2 trivial cd.2.2.1 cd.2.1 cd.2.2.2.2.1.1 cd.2.2.2.1 cd.2.2.2.2.1.2 (fun h1 f1 => ⟨fun y => mod h1 0 f1 (by omega) (fun _ => ?_) (by omega), fun y => mod h1 1 f1 (by omega) (fun _ => ?_) (by omega)⟩)
    · exact y.symm
    · show (1 : Int32) = b2i (ebT _ _ _ _)
      rw [b2i_t y]; rfl
  · exfalso
    rcases (show kd = 1 ∨ kd = 2 by omega) with x | x
    · exact z1 (by rw [ka, x]; rfl)
    · exact z2 (by rw [ka, x]; rfl)

/-! ===== PURE: loops that count; sums over steps and parts ===== -/
theorem loopR {σ : Type} {body : (σ → Prop) → σ → Prop} {s0 : σ} (N : Nat) (P : Nat → σ → Prop) (cnt : σ → Nat) (h0 : P 0 s0) (hc : ∀ i s, i ≤ N → P i s → cnt s = i) (step : ∀ i s, i < N → P i s → ∀ back : σ → Prop, (∀ s2, P (i + 1) s2 → back s2) → body back s) (fin : ∀ s, P N s → ∀ back : σ → Prop, body back s) : qLoop body s0 := by
  refine ⟨fun s => ∃ i, i ≤ N ∧ P i s, fun s => N - cnt s, ⟨0, Nat.zero_le _, h0⟩, ?_⟩
  rintro s ⟨i, hi, p⟩
  rcases Nat.lt_or_ge i N with q | q
  · exact step i s q p _ (fun s2 p2 => ⟨⟨i + 1, q, p2⟩, by show N - cnt s2 < N - cnt s; rw [hc (i + 1) s2 q p2, hc i s hi p]; omega⟩)
  · have : i = N := by omega
    subst this
    exact fin s p _
theorem nI_geN {t N : Nat} (hN : N < 2 ^ 31) (ht : t < N) : ¬ nI N ≤ nI t := nI_ge ht hN
theorem qsum_cong {f g : Nat → Int32} : ∀ {n : Nat}, (∀ k, k < n → f k = g k) → qsum f n = qsum g n
  | 0, _ => rfl
  | n + 1, h => by
    show qsum f n + f n = qsum g n + g n
    rw [qsum_cong (fun k hk => h k (by omega)), h n (by omega)]
theorem qsum_add (f g : Nat → Int32) : ∀ n, qsum (fun k => f k + g k) n = qsum f n + qsum g n
  | 0 => rfl
  | n + 1 => by
    show qsum (fun k => f k + g k) n + (f n + g n) = (qsum f n + f n) + (qsum g n + g n)
    rw [qsum_add f g n]
    ac_rfl
theorem qsum_zero : ∀ n, qsum (fun _ => 0) n = 0
  | 0 => rfl
  | n + 1 => by
    show qsum (fun _ => 0) n + 0 = 0
    rw [qsum_zero n]; rfl
/-- sums over steps and parts, in either order -/
theorem qsum_swap (f : Nat → Nat → Int32) (m : Nat) : ∀ n, qsum (fun k => qsum (fun t => f k t) m) n = qsum (fun t => qsum (fun k => f k t) n) m
  | 0 => (qsum_zero m).symm
  | n + 1 => by
    show qsum (fun k => qsum (fun t => f k t) m) n + qsum (fun t => f n t) m = qsum (fun t => qsum (fun k => f k t) n + f n t) m
    rw [qsum_swap f m n, qsum_add]
/-- what part D gives in step t with the laws -/
def gv (D : PD) (N t : Nat) (laws : Int32) : Int32 := pGive (cRow D) (nI t) laws (nI N)
theorem msum_ok {h : PH} {N k : Nat} {laws : Int32} {D : PD} {Q : Int32 → PH → Prop} (m : Mo h N) (hk : k < 12) (o : okD N D) (e : rowM (mrow h 0 k) D) (q : Q (qsum (fun t => gv D N t laws) N) h) : wp_X12_sumOf 70 (nI k) laws h Q := by
  have hN := m.2.2.2.2.1
  have et : qI h 72 (0 : Int32).toNatClampNeg = nI N := by rw [c0_n]; exact m.2.2.1
  refine loopR N (fun t s => s = (qsum (fun t => gv D N t laws) t, nI t, h)) (fun s => s.2.1.toNatClampNeg) rfl (fun t s ht p => by rw [p]; exact nI_clamp (by omega)) ?_ ?_
  · intro t s ht p back hb
    subst p
    refine ⟨72, m.1, in08 m, fun c => ?_, fun c => mgives_ok m hk o e ht (fun v ev w ew => hb _ ?_)⟩
    · rw [et] at c
      exact absurd c (nI_ge ht (by omega))
    · rw [ev, ew, nI_1]; rfl
  · intro s p back
    subst p
    refine ⟨72, m.1, in08 m, fun c => q, fun c => ?_⟩
    rw [et] at c
    exact absurd (nI_le (Nat.le_refl N) (by omega)) c
/-- the model's drawing: N places, rub rb, n parts Ds -/
def DrM (h : PH) (N rb n : Nat) (Ds : Nat → PD) : Prop := Mo h N ∧ (qR h 70 15 = some 73 ∧ qL h 73 = 8 ∧ qI h 73 0 = nI rb) ∧ (qR h 70 16 = some 74 ∧ qL h 74 = 8 ∧ qI h 74 0 = nI n) ∧ n ≤ 12 ∧ rb ≤ 999 ∧ ∀ k, k < n → okD N (Ds k) ∧ rowM (mrow h 0 k) (Ds k)
def rubV (rb : Nat) (laws : Int32) : Int32 := if laws &&& 16 = 0 then nI rb else 0
theorem in0 {h : PH} {a n : Nat} (hL : qL h a = n) (hn : 0 < n) (hn2 : n < 2 ^ 31) : vp_in 0 (qL h a) := by rw [hL]; exact vp_in_nI (n := 0) hn hn2
theorem mrub_ok {h : PH} {N rb n : Nat} {Ds : Nat → PD} {laws : Int32} {Q : Int32 → PH → Prop} (d : DrM h N rb n Ds) (q : Q (rubV rb laws) h) : wp_X12_rubOf 70 laws h Q := by
  unfold rubV at q
  refine ⟨fun c => ⟨73, d.2.1.1, in0 d.2.1.2.1 (by decide) (by decide), ?_⟩, fun c => ?_⟩
  · rw [c0_n, d.2.1.2.2]
    rw [if_pos c] at q; exact q
  · rw [if_neg c] at q; exact q
/-- WHOLE -/
def wholeV (N rb n : Nat) (Ds : Nat → PD) (laws : Int32) : Int32 := (-(nI N)) * rubV rb laws + qsum (fun k => qsum (fun t => gv (Ds k) N t laws) N) n
theorem mwhole_ok {h : PH} {N rb n : Nat} {Ds : Nat → PD} {laws : Int32} {Q : Int32 → PH → Prop} (d : DrM h N rb n Ds) (q : Q (wholeV N rb n Ds laws) h) : wp_X12_whole 70 laws h Q := by
  have m := d.1
  have hn := d.2.2.2.1
  have et : qI h 72 (0 : Int32).toNatClampNeg = nI N := by rw [c0_n]; exact m.2.2.1
  have em : qI h 74 (0 : Int32).toNatClampNeg = nI n := by rw [c0_n]; exact d.2.2.1.2.2
  have i74 : vp_in 0 (qL h 74) := in0 d.2.2.1.2.1 (by decide) (by decide)
  refine ⟨72, m.1, in08 m, mrub_ok d (fun v ev => ?_)⟩
  rw [et] at ev
  subst ev
  refine loopR n (fun k s => s = ((-(nI N)) * rubV rb laws + qsum (fun k => qsum (fun t => gv (Ds k) N t laws) N) k, nI k, h)) (fun s => s.2.1.toNatClampNeg) (by show _ = ((-(nI N)) * rubV rb laws + 0, _, _); rw [Int32.add_zero]; rfl) (fun t s ht p => by rw [p]; exact nI_clamp (by omega)) ?_ ?_
  · intro k s hk p back hb
    subst p
    refine ⟨74, d.2.2.1.1, i74, fun c => ?_, fun c => msum_ok m (by omega) (d.2.2.2.2.2 k hk).1 (d.2.2.2.2.2 k hk).2 (fun v ev w ew => hb _ ?_)⟩
    · rw [em] at c
      exact absurd c (nI_ge hk (by omega))
    · rw [ev, ew, nI_1]
      show (_, _, _) = (_ + (qsum _ k + _), _, _)
      rw [Int32.add_assoc]
  · intro s p back
    subst p
    refine ⟨74, d.2.2.1.1, i74, fun c => q, fun c => ?_⟩
    rw [em] at c
    exact absurd (nI_le (Nat.le_refl n) (by omega)) c
/-! the class's totals: row 8 given, 9 fed, 10 more (48 a law), 11 values (48 a value), 12 their sums -/
def tGiven (N n : Nat) (Ds : Nat → PD) (t : Nat) : Int32 := qsum (fun k => gv (Ds k) N t 0) n
def tFed (N n : Nat) (Ds : Nat → PD) (t : Nat) : Int32 := qsum (fun k => if dk (Ds k) = 4 then gv (Ds k) N t 0 else 0) n
/-- the number of the law that a part of this kind hangs on -/
def lwOf (kd : Nat) : Nat := if kd = 0 then 3 else kd - 1
def tMore (N n : Nat) (Ds : Nat → PD) (l t : Nat) : Int32 := qsum (fun k => if dk (Ds k) < 4 ∧ lwOf (dk (Ds k)) = l then gv (Ds k) N t (nI (2 ^ l)) - gv (Ds k) N t 0 else 0) n
def lwBit (L l : Nat) : Bool := L / 2 ^ l % 2 == 1
theorem lw_and : ∀ L, L < 32 → ∀ l, l < 4 → (nI L &&& nI (2 ^ l) = 0 ↔ lwBit L l = false) := by decide
theorem lw_shr : ∀ L, L < 32 → ∀ l, l < 4 → (q_ushr (nI L) (nI l) &&& 1 = 0 ↔ lwBit L l = false) := by decide
theorem pLaw_e2 {D : PD} (h : dk D < 4) : pLaw (cRow D) = nI (2 ^ lwOf (dk D)) := by
  unfold pLaw
  rw [show cRow D 0 = nI (dk D) from rfl]
  rcases (show dk D = 0 ∨ dk D = 1 ∨ dk D = 2 ∨ dk D = 3 by omega) with e | e | e | e <;> rw [e] <;> decide
theorem pLaw_e4 {D : PD} (h : dk D = 4) : pLaw (cRow D) = 0 := by
  unfold pLaw
  rw [show cRow D 0 = nI (dk D) from rfl, h]
  decide
/-- a part hangs on one law -/
theorem gv_law {D : PD} {N t L : Nat} (hk : dk D < 5) (hL : L < 32) : gv D N t (nI L) = if dk D < 4 ∧ lwBit L (lwOf (dk D)) = true then gv D N t (nI (2 ^ lwOf (dk D))) else gv D N t 0 := by
  unfold gv pGive
  have e0 : cRow D 0 = nI (dk D) := rfl
  by_cases h4 : dk D = 4
  · have : nI (dk D) = 4 := by rw [h4]; rfl
    rw [e0, if_pos this, if_pos this, if_pos this]
    exact (ite_self _).symm
  · have h3 : dk D < 4 := by omega
    have n4 : ¬ nI (dk D) = 4 := fun z => h4 (nI_inj (by omega) (by decide) z)
    have hl : lwOf (dk D) < 4 := by unfold lwOf; split <;> omega
    rw [e0, if_neg n4, if_neg n4, if_neg n4, pLaw_e2 h3]
    have z0 : (0 : Int32) &&& nI (2 ^ lwOf (dk D)) = 0 := Int32.zero_and
    have zs : ¬ nI (2 ^ lwOf (dk D)) &&& nI (2 ^ lwOf (dk D)) = 0 := by
      rw [Int32.and_self]
      exact nI_ne0 (Nat.pow_pos (by decide)) (Nat.lt_of_lt_of_le (Nat.pow_lt_pow_right (by decide) hl) (by decide))
    rw [if_pos z0, if_neg zs]
    by_cases hb : lwBit L (lwOf (dk D)) = true
    · rw [if_pos (⟨h3, hb⟩ : dk D < 4 ∧ lwBit L (lwOf (dk D)) = true), if_neg (show ¬ (nI L &&& nI (2 ^ lwOf (dk D)) = 0) from fun z => by rw [(lw_and L hL _ hl).mp z] at hb; cases hb)]
    · rw [if_neg (show ¬ (dk D < 4 ∧ lwBit L (lwOf (dk D)) = true) from fun z => hb z.2), if_pos ((lw_and L hL _ hl).mpr (by cases hc : lwBit L (lwOf (dk D)) with
        | true => exact absurd hc hb
        | false => rfl))]
/-- all GIVES of step t with the laws L: those without, and what each law that is another makes more -/
def tWith (N n : Nat) (Ds : Nat → PD) (L t : Nat) : Nat → Int32
  | 0 => tGiven N n Ds t
  | l + 1 => tWith N n Ds L t l + (if lwBit L l = true then tMore N n Ds l t else 0)
theorem tWith_e {N : Nat} {Ds : Nat → PD} {L t : Nat} (hL : L < 32) : ∀ n, (∀ k, k < n → dk (Ds k) < 5) → tWith N n Ds L t 4 = qsum (fun k => gv (Ds k) N t (nI L)) n
  | 0, _ => by
    have : ∀ l, tWith N 0 Ds L t l = 0 := by
      intro l
      induction l with
      | zero => rfl
      | succ l ih =>
        show tWith N 0 Ds L t l + _ = 0
        rw [ih]
        cases lwBit L l <;> rfl
    exact this 4
  | n + 1, h => by
    have ih := tWith_e hL n (fun k hk => h k (by omega)) (N := N) (t := t)
    have hn := h n (by omega)
    show tWith N (n + 1) Ds L t 4 = qsum (fun k => gv (Ds k) N t (nI L)) n + gv (Ds n) N t (nI L)
    rw [← ih, gv_law hn hL]
    have key : ∀ l, l ≤ 4 → tWith N (n + 1) Ds L t l = tWith N n Ds L t l + (if dk (Ds n) < 4 ∧ lwOf (dk (Ds n)) < l ∧ lwBit L (lwOf (dk (Ds n))) = true then gv (Ds n) N t (nI (2 ^ lwOf (dk (Ds n)))) else gv (Ds n) N t 0) := by
      intro l
      induction l with
      | zero =>
        intro _
        rw [if_neg (fun z => by omega)]; rfl
      | succ l il =>
        intro hl
        show tWith N (n + 1) Ds L t l + (if lwBit L l = true then tMore N n Ds l t + (if dk (Ds n) < 4 ∧ lwOf (dk (Ds n)) = l then gv (Ds n) N t (nI (2 ^ l)) - gv (Ds n) N t 0 else 0) else 0) = (tWith N n Ds L t l + (if lwBit L l = true then tMore N n Ds l t else 0)) + _
        rw [il (by omega)]
        by_cases c1 : dk (Ds n) < 4 ∧ lwOf (dk (Ds n)) = l
        · obtain ⟨c1, rfl⟩ := c1
          rw [if_neg (show ¬ (dk (Ds n) < 4 ∧ lwOf (dk (Ds n)) < lwOf (dk (Ds n)) ∧ lwBit L (lwOf (dk (Ds n))) = true) from fun z => absurd z.2.1 (Nat.lt_irrefl _)), if_pos (⟨c1, rfl⟩ : dk (Ds n) < 4 ∧ lwOf (dk (Ds n)) = lwOf (dk (Ds n)))]
          by_cases hb : lwBit L (lwOf (dk (Ds n))) = true
          · rw [if_pos hb, if_pos hb, if_pos (⟨c1, Nat.lt_succ_self _, hb⟩ : dk (Ds n) < 4 ∧ lwOf (dk (Ds n)) < lwOf (dk (Ds n)) + 1 ∧ lwBit L (lwOf (dk (Ds n))) = true)]
            have : ∀ a b m g : Int32, a + b + (m + (g - b)) = a + m + g := by
              intro a b m g
              rw [Int32.sub_eq_add_neg]
              have e : a + b + (m + (g + -b)) = a + m + g + (b + -b) := by ac_rfl
              rw [e, Int32.add_right_neg, Int32.add_zero]
            exact this _ _ _ _
          · rw [if_neg hb, if_neg hb, if_neg (show ¬ (dk (Ds n) < 4 ∧ lwOf (dk (Ds n)) < lwOf (dk (Ds n)) + 1 ∧ lwBit L (lwOf (dk (Ds n))) = true) from fun z => hb z.2.2), Int32.add_zero, Int32.add_zero]
        · rw [if_neg c1]
          have e2 : (dk (Ds n) < 4 ∧ lwOf (dk (Ds n)) < l ∧ lwBit L (lwOf (dk (Ds n))) = true) = (dk (Ds n) < 4 ∧ lwOf (dk (Ds n)) < l + 1 ∧ lwBit L (lwOf (dk (Ds n))) = true) := by
            apply propext
            refine ⟨fun z => ⟨z.1, by omega, z.2.2⟩, fun z => ⟨z.1, ?_, z.2.2⟩⟩
            rcases Nat.lt_or_ge (lwOf (dk (Ds n))) l with y | y
            · exact y
            · exact absurd ⟨z.1, by omega⟩ c1
          rw [Int32.add_zero]
          simp only [e2]
          ac_rfl
    have hl4 : dk (Ds n) < 4 → lwOf (dk (Ds n)) < 4 := fun z => by unfold lwOf; split <;> omega
    rw [key 4 (Nat.le_refl _)]
    have e3 : (dk (Ds n) < 4 ∧ lwOf (dk (Ds n)) < 4 ∧ lwBit L (lwOf (dk (Ds n))) = true) = (dk (Ds n) < 4 ∧ lwBit L (lwOf (dk (Ds n))) = true) := propext ⟨fun z => ⟨z.1, z.2.2⟩, fun z => ⟨z.1, hl4 z.1, z.2⟩⟩
    simp only [e3]

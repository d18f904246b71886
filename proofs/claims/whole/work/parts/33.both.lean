/-! ===== PURE: a PART as told, and the two rows that hold it ===== -/
/-- kind, pin, w, arm, out, at, low, high, whether a range was told -/
abbrev PD : Type := Nat × Nat × Nat × Nat × Nat × Nat × Nat × Nat × Bool
def dk (D : PD) : Nat := D.1
def dpin (D : PD) : Nat := D.2.1
def dw (D : PD) : Nat := D.2.2.1
def darm (D : PD) : Nat := D.2.2.2.1
def dout (D : PD) : Nat := D.2.2.2.2.1
def dat (D : PD) : Nat := D.2.2.2.2.2.1
def dlo (D : PD) : Nat := D.2.2.2.2.2.2.1
def dhi (D : PD) : Nat := D.2.2.2.2.2.2.2.1
def drg (D : PD) : Bool := D.2.2.2.2.2.2.2.2
def okD (N : Nat) (D : PD) : Prop := dk D < 5 ∧ dpin D < N ∧ 1 ≤ dw D ∧ dw D ≤ 99 ∧ darm D ≤ 20 ∧ dout D ≤ 20 ∧ dat D < N ∧ dlo D < N ∧ dhi D < N ∧ (dk D ≠ 0 → darm D = 0 ∧ dout D = 0) ∧ (dk D ≠ 2 → dat D = 0) ∧ (drg D = false → dout D = 0 ∧ dlo D = 0 ∧ dhi D = 0) ∧ (dk D = 4 → drg D = false) ∧ ((dk D = 1 ∨ dk D = 3) → drg D = true)
/-- the class's row (its name, field 1, apart) -/
def cRow (D : PD) (i : Nat) : Int32 := match i with
  | 0 => nI (dk D) | 2 => nI (dpin D) | 3 => nI (dw D) | 4 => nI (darm D) | 5 => nI (dout D) | 6 => nI (dat D) | 7 => b2i (drg D) | 8 => nI (dlo D) | 9 => nI (dhi D) | _ => 0
/-- the model's row -/
def mRow (D : PD) (i : Nat) : Int32 := match i with
  | 0 => nI (dk D) | 1 => nI (dpin D) | 2 => nI (dw D) | 3 => if dk D = 0 then nI (darm D) else -1 | 4 => if dk D = 0 ∧ drg D = true then nI (dout D) else -1 | 5 => if drg D = true then nI (dlo D) else -1 | 6 => if drg D = true then nI (dhi D) else -1 | 7 => if dk D = 2 then nI (dat D) else -1 | _ => 0
theorem nI_m1 {n : Nat} (h : n < 2 ^ 31) : ¬ nI n = -1 := fun e => nI_pos h (by rw [e]; decide)
/-- the functions of a row don't look at the name -/
def rowE (f : Nat → Int32) (D : PD) : Prop := ∀ i, i < 10 → i ≠ 1 → f i = cRow D i
def rowM (g : Nat → Int32) (D : PD) : Prop := ∀ i, i < 8 → g i = mRow D i
theorem pWithin_e {f : Nat → Int32} {D : PD} (e : rowE f D) (j : Int32) : pWithin f j = pWithin (cRow D) j := by
  unfold pWithin
  rw [e 7 (by decide) (by decide), e 8 (by decide) (by decide), e 9 (by decide) (by decide)]
theorem pPlace_e {f : Nat → Int32} {D : PD} (e : rowE f D) (t N : Int32) : pPlace f t N = pPlace (cRow D) t N := by
  unfold pPlace
  rw [e 2 (by decide) (by decide)]
theorem pEn_e {f : Nat → Int32} {D : PD} (e : rowE f D) (j N : Int32) : pEn f j N = pEn (cRow D) j N := by
  unfold pEn pArm pDist
  rw [e 0 (by decide) (by decide), e 3 (by decide) (by decide), e 4 (by decide) (by decide), e 5 (by decide) (by decide), e 6 (by decide) (by decide), pWithin_e e]
theorem pLaw_e {f : Nat → Int32} {D : PD} (e : rowE f D) : pLaw f = pLaw (cRow D) := by
  unfold pLaw
  rw [e 0 (by decide) (by decide)]
theorem pLawC_e {f : Nat → Int32} {D : PD} (e : rowE f D) (i j N : Int32) : pLawC f i j N = pLawC (cRow D) i j N := by
  unfold pLawC
  rw [e 0 (by decide) (by decide), pWithin_e e, pWithin_e e]
theorem pGive_e {f : Nat → Int32} {D : PD} (e : rowE f D) (t laws N : Int32) : pGive f t laws N = pGive (cRow D) t laws N := by
  unfold pGive
  rw [e 0 (by decide) (by decide), e 2 (by decide) (by decide), e 3 (by decide) (by decide), pLaw_e e, pPlace_e e, pEn_e e, pEn_e e, pLawC_e e]
theorem mWithin_e {g : Nat → Int32} {D : PD} {N : Nat} (o : okD N D) (hN : N ≤ 48) (e : rowM g D) (j : Int32) : mWithin g j = pWithin (cRow D) j := by
  unfold mWithin pWithin
  rw [e 5 (by decide), e 6 (by decide)]
  show (if (if drg D = true then nI (dlo D) else -1) = -1 then false else inRng (if drg D = true then nI (dlo D) else -1) (if drg D = true then nI (dhi D) else -1) j) = if b2i (drg D) = 0 then false else inRng (nI (dlo D)) (nI (dhi D)) j
  have h1 : dlo D < N := o.2.2.2.2.2.2.2.1
  cases hr : drg D with
  | true => rw [if_pos rfl, if_neg (nI_m1 (by omega)), if_pos rfl, if_neg (by decide)]
  | false => rfl
/-- place p of a part, turned by t -/
theorem place_e {D : PD} {N t : Nat} (o : okD N D) (hN : N ≤ 48) (ht : t < N) : pPlace (cRow D) (nI t) (nI N) = nI ((dpin D + t) % N) := by
  have h1 : dpin D < N := o.2.1
  unfold pPlace
  show (if nI (dpin D) + nI t < nI N then nI (dpin D) + nI t else nI (dpin D) + nI t - nI N) = _
  rw [nI_add]
  by_cases c : dpin D + t < N
  · rw [if_pos (nI_lt c (by omega)), Nat.mod_eq_of_lt c]
  · rw [if_neg (nI_nlt (by omega) (by omega)), pk_sub (by omega)]
    congr 1
    rw [Nat.mod_eq_sub_mod (by omega), Nat.mod_eq_of_lt (by omega)]
theorem next_e {N i : Nat} (hN : N ≤ 48) (hi : i < N) : pNext (nI i) (nI N) = nI ((i + 1) % N) := by
  unfold pNext
  rw [nI_1]
  by_cases c : i + 1 = N
  · rw [c, if_pos (nI_le (Nat.le_refl _) (by omega)), Nat.mod_self]; rfl
  · rw [if_neg (nI_ge (by omega) (by omega)), Nat.mod_eq_of_lt (by omega)]
theorem marm_ok {h : PH} {N k : Nat} {j : Int32} {D : PD} {Q : Int32 → PH → Prop} (m : Mo h N) (hk : k < 12) (o : okD N D) (e : rowM (mrow h 0 k) D) (h0 : dk D = 0) (q : Q (pArm (cRow D) j) h) : wp_X12_armOf 70 (nI k) j h Q := by
  have hN := m.2.2.2.2.1
  show wp_X12_slot 0 (nI k) h _
  unfold wp_X12_slot
  rw [slot0_n]
  have e4 : qI h 75 (nI (8 * k) + 4).toNatClampNeg = if dk D = 0 ∧ drg D = true then nI (dout D) else -1 := (slot_at hk (i := 4) (by decide) rfl).trans (e 4 (by decide))
  have e3 : qI h 75 (nI (8 * k) + 3).toNatClampNeg = nI (darm D) := (slot_at hk (i := 3) (by decide) rfl).trans ((e 3 (by decide)).trans (if_pos h0))
  have ho : dout D ≤ 20 := o.2.2.2.2.2.1
  unfold pArm at q
  have s3 := slot_in m hk (i := 3) (c := 3) (by decide) rfl
  have s4 := slot_in m hk (i := 4) (c := 4) (by decide) rfl
  refine ⟨75, m.2.2.2.2.2.1, s4, fun c => ⟨75, m.2.2.2.2.2.1, s3, ?_⟩, fun c => mwithin_ok m hk ⟨fun w => ⟨75, m.2.2.2.2.2.1, s3, ?_⟩, fun w => ⟨75, m.2.2.2.2.2.1, s4, ?_⟩⟩⟩
  · rw [e4] at c
    have hr : drg D = false := by
      cases hr : drg D with
      | false => rfl
      | true => rw [if_pos ⟨h0, hr⟩] at c; exact absurd c (nI_m1 (by omega))
    have hw : pWithin (cRow D) j = false := by
      unfold pWithin
      show (if b2i (drg D) = 0 then false else _) = false
      rw [hr]; rfl
    rw [e3]
    rw [hw] at q; exact q
  · rw [e3]
    rw [mWithin_e o hN e] at w
    rw [(b2i_0 _).mp w] at q; exact q
  · rw [mWithin_e o hN e] at w
    rw [if_pos (b2i_t w)] at q
    rw [e4] at c ⊢
    have hr : drg D = true := by
      cases hr : drg D with
      | true => rfl
      | false => rw [if_neg (fun z => by rw [hr] at z; cases z.2)] at c; exact absurd rfl c
    rw [if_pos ⟨h0, hr⟩]; exact q

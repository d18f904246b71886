/-! ===== the world at the law's start ===== -/
theorem lw_cls : ∀ (ci : Nat) (q : vw_C), qcl[ci]? = some q → (∀ w ∈ u_ws q.1 q.2.1 q.2.2, w ∈ qw_good) ∧ ∃ n, Cond.instantiable q.1 n ∈ qw_good := by
  intro ci q hq
  have hlt : ci < 13 := (List.getElem?_eq_some_iff.mp hq).1
  rcases (show ci = 0 ∨ ci = 1 ∨ ci = 2 ∨ ci = 3 ∨ ci = 4 ∨ ci = 5 ∨ ci = 6 ∨ ci = 7 ∨ ci = 8 ∨ ci = 9 ∨ ci = 10 ∨ ci = 11 ∨ ci = 12 by omega) with rfl | rfl | rfl | rfl | rfl | rfl | rfl | rfl | rfl | rfl | rfl | rfl | rfl
  · have e := Option.some.inj (qc_0.1.symm.trans hq)
    subst e
    exact ⟨qc_0.2.1, _, wk_in_ForeverOffice_Claim⟩
  · have e := Option.some.inj (qc_1.1.symm.trans hq)
    subst e
    exact ⟨qc_1.2.1, _, wk_in_ForeverOffice_Drawing⟩
  · have e := Option.some.inj (qc_2.1.symm.trans hq)
    subst e
    exact ⟨qc_2.2.1, _, wk_in_ForeverOffice_Finds⟩
  · have e := Option.some.inj (qc_3.1.symm.trans hq)
    subst e
    exact ⟨qc_3.2.1, _, wk_in_ForeverOffice_Inventor⟩
  · have e := Option.some.inj (qc_4.1.symm.trans hq)
    subst e
    exact ⟨qc_4.2.1, _, wk_in_ForeverOffice_Part⟩
  · have e := Option.some.inj (qc_5.1.symm.trans hq)
    subst e
    exact ⟨qc_5.2.1, _, wk_in_ForeverOffice_Run⟩
  · have e := Option.some.inj (qc_6.1.symm.trans hq)
    subst e
    exact ⟨qc_6.2.1, _, wk_in_ForeverOffice_Tape⟩
  · have e := Option.some.inj (qc_7.1.symm.trans hq)
    subst e
    exact ⟨qc_7.2.1, _, wk_in_ForeverOffice_Tokens⟩
  · have e := Option.some.inj (qc_8.1.symm.trans hq)
    subst e
    exact ⟨qc_8.2.1, _, wk_in_ForeverOffice_Totals⟩
  · have e := Option.some.inj (qc_9.1.symm.trans hq)
    subst e
    exact ⟨qc_9.2.1, _, wk_in_ForeverOffice_World⟩
  · have e := Option.some.inj (qc_10.1.symm.trans hq)
    subst e
    exact ⟨qc_10.2.1, _, wk_in_ForeverOffice⟩
  · have e := Option.some.inj (qc_11.1.symm.trans hq)
    subst e
    exact ⟨qc_11.2.1, _, wk_in_ForeverOfficeModel⟩
  · have e := Option.some.inj (qc_12.1.symm.trans hq)
    subst e
    exact ⟨qc_12.2.1, _, wk_in_java_util_NoSuchElementException⟩
section
variable {s : State} {args : Array Value}
theorem lw_ne {t u : Term} {a b : Nat} (ht : t.eval args s none [] s = some (.ref a)) (hu : u.eval args s none [] s = some (.ref b)) (h : a ≠ b) : (Cond.not (.eq t u)).before args s = true := by
  simp [Cond.before, Cond.holds, Cond.value, ht, hu, h]
theorem lw_eqv {t : Term} {v : Int32} (h : (Cond.eq t (.int v)).before args s = true) : t.eval args s none [] s = some (.int v) := by
  obtain ⟨y, h1, h2⟩ := Cond.eq_one (show (Cond.eq t (.int v)).holds args s none s [] = true from h)
  have e : some (Value.int v) = some y := h2
  rw [h1, e]
theorem lw_arr {ty : FieldType} (h : (Cond.arrayClass ty).before args s = true) : ∃ cA : ClassId, ArrOfT s cA ty ∧ s.vm.findClass ("[" ++ ty.toString) = some cA := by
  obtain ⟨c, k, comp, h1, h2, h3⟩ := Cond.arrayClass_spec (show (Cond.arrayClass ty).holds args s none s [] = true from h)
  exact ⟨c, fun n z => ⟨fun k h => (by cases h), k, h2, comp, h3⟩, h1⟩
theorem lw_arrO {C : String} (h : (Cond.arrayOver (.object C)).before args s = true) : ∃ cA : ClassId, ArrOfT s cA (.object C) ∧ va_RA s cA (.object C) := by
  obtain ⟨comp, c, k, f1, f2, f3, f4, f5⟩ := Cond.arrayOver_spec (show (Cond.arrayOver (.object C)).holds args s none s [] = true from h)
  exact ⟨c, fun n z => ⟨fun k h => (by cases h), k, f3, comp, f4⟩, k, comp, f3, f4, f1, f5⟩
/-- the enum's constants, and their row -/
theorem lw_enum (hts : ∀ w ∈ lw_tbl, w.before args s = true) (hs : ∀ w ∈ flatC lw_pre, w.before args s = true) {A : Nat → Prop} (hA : ∀ a : Nat, a < s.heap.size → ¬ A a) (b : Nat) : ∃ ad : Nat → Nat, va_En wE wL qwn qwF ad A s s.heap ∧ va_Z wE "KNOWN" "[LForeverOffice$Word;" (.ref (ad 34)) A s s.heap ∧ va_T (.object wE) (ad 34) 34 (fun j => .ref (ad j)) A s s.heap ∧ ad 35 = b := by
  have ev : ∀ i, i < 34 → ∃ a, (Term.static wE (qwn.getD i "") wL).eval args s none [] s = some (.ref a) := fun i hi => by
    obtain ⟨a, _, _, _, q1, _⟩ := Cond.exactly_spec (show (Cond.exactly (.static wE (qwn.getD i "") wL) wE).holds args s none s [] = true from hs _ (lw_ex i hi))
    exact ⟨a, q1⟩
  have od : ∀ i a, i < 34 → (Term.static wE (qwn.getD i "") wL).eval args s none [] s = some (.ref a) → s.fieldOf? a "java/lang/Enum" "ordinal" "I" = some (.int (Int32.ofNat i)) := fun i a hi h => by
    have h1 := lw_eqv (hs _ (lw_or i hi))
    rw [va_fe h] at h1
    exact h1
  obtain ⟨ad, hEn, hev⟩ := va_Enof2 (args := args) (s := s) (E := wE) (d := wL) (nm := qwn) (F := qwF) (A := A) (fun i hi => hts _ (lw_ls i hi)) (hts _ lw_in) (fun i hi => hs _ (lw_ex i hi)) (fun q hq i hi => hs _ (lw_fl q hq i hi)) (fun i j hi hj hij => by
    obtain ⟨a, ha⟩ := ev i hi
    obtain ⟨c, hc⟩ := ev j hj
    refine Or.inl (lw_ne ha hc (fun e => hij ?_))
    have h1 := od i a hi ha
    have h2 := od j c hj hc
    rw [← e, h1] at h2
    have h3 : nI i = nI j := by injection h2 with h2; injection h2
    exact nI_inj (Nat.lt_trans (show i < 34 from hi) (by decide)) (Nat.lt_trans (show j < 34 from hj) (by decide)) h3) hA
  obtain ⟨t, ht, hT⟩ := va_Tof (args := args) (s := s) (tm := wK) (ty := .object wE) (N := 34) (f := fun j => .ref (ad j)) (A := A) (by decide) (hs _ lw_ka) (lw_eqv (hs _ lw_kl)) (fun j hj => by
    obtain ⟨y, h1, h2⟩ := Cond.eq_one (show (Cond.eq (.elem wK (.int (Int32.ofNat j))) (.static wE (qwn.getD j "") wL)).holds args s none s [] = true from hs _ (lw_kn j hj))
    rw [h1, ← h2]
    exact hev j hj) hA
  have hZ := va_Zof (args := args) (s := s) (C := wE) (n := "KNOWN") (d := "[LForeverOffice$Word;") (v := .ref t) (A := A) (hts _ lw_kz) (hts _ lw_in) ht hA
  obtain ⟨ad2, e1, e2, e3⟩ : ∃ ad2 : Nat → Nat, (∀ i, i < 34 → ad2 i = ad i) ∧ ad2 34 = t ∧ ad2 35 = b := ⟨fun k => if k < 34 then ad k else if k = 34 then t else b, fun i hi => if_pos hi, rfl, rfl⟩
  refine ⟨ad2, ⟨fun i hi => ?_, fun i j hi hj e => hEn.2 i j hi hj (by rw [← e1 i hi, ← e1 j hj]; exact e)⟩, by rw [e2]; exact hZ, ?_, e3⟩
  · rw [e1 i hi]; exact hEn.1 i hi
  · rw [e2]
    obtain ⟨cell, t1, t2, t3, t4, t5, t6, t7⟩ := hT
    exact ⟨cell, t1, t2, t3, t4, t5, fun j hj => by show cell.slots[j]? = some (.ref (ad2 j)); rw [e1 j hj]; exact t6 j hj, t7⟩
end
theorem lw_world {s : State} {b : Nat} (l : Launch) (hl : l.stackTraces = false) (hts : ∀ w ∈ lw_tbl, w.before #[Value.ref b] s = true) (hg : lw_pre.before #[Value.ref b] s = true) : ∃ G : GT, G.1 = l ∧ qB G = s.heap.size ∧ qad G 35 = b ∧ qV G s ∧ qTh G s := by
  have hs := flat_of_before _ hg
  have hq : ∀ w ∈ qw_good, w.before #[Value.ref b] s = true := fun w hw => hts w (List.mem_filter.mp hw).1
  have hA : ∀ a : Nat, a < s.heap.size → ¬ (fun q : Nat => s.heap.size ≤ q) a := fun a h1 h2 => Nat.not_le.mpr h1 h2
  have hc : ∀ ci : Nat, ∃ z : ClassId × (Nat → Nat), ∀ q, qcl[ci]? = some q → u_Kn s q.1 q.2.1 q.2.2 z.1 z.2 := by
    intro ci
    cases hq9 : qcl[ci]? with
    | none => exact ⟨(0, fun _ => 0), fun q h => by cases h⟩
    | some q =>
      obtain ⟨h1, n, h2⟩ := lw_cls ci q hq9
      obtain ⟨cC, iS, hK⟩ := u_known (ws := qw_good) hq h1 (hq _ h2)
      exact ⟨(cC, iS), fun q2 h => by cases h; exact hK⟩
  obtain ⟨f, hf⟩ := Classical.skolem.mp hc
  obtain ⟨c13, a13, r13⟩ := lw_arr (hq _ wk_ac_byte)
  obtain ⟨c14, a14, r14⟩ := lw_arr (hq _ wk_ac_int)
  obtain ⟨c15, a15, r15⟩ := lw_arr (hq _ wk_ac_long)
  obtain ⟨c16, a16, r16⟩ := lw_arr (hq _ wk_ac_boolean)
  obtain ⟨c17, a17, r17⟩ := lw_arrO (hts _ lw_o1)
  obtain ⟨c18, a18, r18⟩ := lw_arrO (hts _ lw_o2)
  obtain ⟨ad, hEn, hZ, hT, had⟩ := lw_enum hts hs hA b
  obtain ⟨cy, y13, y14, y15, y16, y17, y18⟩ : ∃ cy : Nat → ClassId, cy 13 = c13 ∧ cy 14 = c14 ∧ cy 15 = c15 ∧ cy 16 = c16 ∧ cy 17 = c17 ∧ cy 18 = c18 := ⟨fun k => [c13, c14, c15, c16, c17, c18].getD (k - 13) 0, rfl, rfl, rfl, rfl, rfl, rfl⟩
  subst y13 y14 y15 y16 y17 y18
  refine ⟨(l, fun k => (f k).1, fun k => (f k).2, cy, ad, s.heap.size), rfl, rfl, had, ⟨⟨fun c q h => hf c q h, fun k q hk => ?_⟩, fun w hw => ?_, hEn, hZ, hT, va_AO.of (hts _ lw_o1), va_AO.of (hts _ lw_o2)⟩, hl, vx_Zqof (hts _ lw_tu) (hts _ lw_ti) (hs _ lw_t1) hA, vx_Zqof (hts _ lw_tl) (hts _ lw_ti) (hs _ lw_t2) hA, fun q hq9 => ?_, fun w hw => va_any (lw_thO w hw) (hts _ (lw_thB w hw))⟩
  · match k, hk with
    | 0, hk => cases hk; exact ⟨a13, r13⟩
    | 1, hk => cases hk; exact ⟨a14, r14⟩
    | 2, hk => cases hk; exact ⟨a15, r15⟩
    | 3, hk => cases hk; exact ⟨a16, r16⟩
    | 4, hk => cases hk; exact ⟨a17, r17⟩
    | 5, hk => cases hk; exact ⟨a18, r18⟩
    | k + 6, hk => simp [qtys] at hk
  · obtain ⟨h1, h2⟩ := List.mem_filter.mp hw
    have h3 := hts w h1
    cases w <;> first | exact va_any rfl h3 | cases h2
  · obtain ⟨a, _, _, _, q1, _⟩ := Cond.exactly_spec (show (Cond.exactly (.string "ForeverOffice" q.1) "java/lang/String").holds #[Value.ref b] s none s [] = true from hs _ (lw_st q hq9))
    exact ⟨a, vk_R.of (hts _ (lw_sr q hq9)) q1⟩

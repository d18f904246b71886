/-! ===== the words of the start that are used ===== -/
abbrev lw_pre : Cond := Jvm.Cond.and given_1 narrow_1
abbrev wE : String := "ForeverOffice$Word"
abbrev wL : String := "LForeverOffice$Word;"
abbrev wK : Term := .static "ForeverOffice$Word" "KNOWN" "[LForeverOffice$Word;"
theorem lw_ls : ∀ i, i < 34 → Cond.laysStatic wE (qwn.getD i "") wL ∈ lw_tbl := by decide +kernel
theorem lw_ex : ∀ i, i < 34 → Cond.exactly (.static wE (qwn.getD i "") wL) wE ∈ flatC lw_pre := by decide +kernel
theorem lw_or : ∀ i, i < 34 → Cond.eq (.field (.static wE (qwn.getD i "") wL) "java/lang/Enum" "ordinal" "I") (.int (Int32.ofNat i)) ∈ flatC lw_pre := by decide +kernel
theorem lw_f0 : ∀ i, i < 34 → Cond.eq (.field (.static wE (qwn.getD i "") wL) (q_wt 0).1 (q_wt 0).2.1 (q_wt 0).2.2.1) (.int ((q_wt 0).2.2.2.getD i 0)) ∈ flatC lw_pre := by decide +kernel
theorem lw_f1 : ∀ i, i < 34 → Cond.eq (.field (.static wE (qwn.getD i "") wL) (q_wt 1).1 (q_wt 1).2.1 (q_wt 1).2.2.1) (.int ((q_wt 1).2.2.2.getD i 0)) ∈ flatC lw_pre := by decide +kernel
theorem lw_f2 : ∀ i, i < 34 → Cond.eq (.field (.static wE (qwn.getD i "") wL) (q_wt 2).1 (q_wt 2).2.1 (q_wt 2).2.2.1) (.int ((q_wt 2).2.2.2.getD i 0)) ∈ flatC lw_pre := by decide +kernel
theorem lw_f3 : ∀ i, i < 34 → Cond.eq (.field (.static wE (qwn.getD i "") wL) (q_wt 3).1 (q_wt 3).2.1 (q_wt 3).2.2.1) (.int ((q_wt 3).2.2.2.getD i 0)) ∈ flatC lw_pre := by decide +kernel
theorem lw_fl : ∀ q ∈ qwF, ∀ i, i < 34 → Cond.eq (.field (.static wE (qwn.getD i "") wL) q.1 q.2.1 q.2.2.1) (.int (q.2.2.2.getD i 0)) ∈ flatC lw_pre := by
  intro q hq i hi
  unfold qwF at hq
  simp only [List.mem_cons, List.not_mem_nil, or_false] at hq
  rcases hq with rfl | rfl | rfl | rfl
  · exact lw_f0 i hi
  · exact lw_f1 i hi
  · exact lw_f2 i hi
  · exact lw_f3 i hi
theorem lw_kn : ∀ i, i < 34 → Cond.eq (.elem wK (.int (Int32.ofNat i))) (.static wE (qwn.getD i "") wL) ∈ flatC lw_pre := by decide +kernel
theorem lw_kl : Cond.eq (.length wK) (.int (Int32.ofNat 34)) ∈ flatC lw_pre := by decide +kernel
theorem lw_ka : Cond.arrayOf wK (.object wE) ∈ flatC lw_pre := by decide +kernel
theorem lw_t1 : Cond.isRef (.static Bundle.tN "UNASSIGNED_STACK" Bundle.steD) ∈ flatC lw_pre := by decide +kernel
theorem lw_t2 : Cond.isRef (.static Bundle.tN "SUPPRESSED_SENTINEL" Bundle.listD) ∈ flatC lw_pre := by decide +kernel
theorem lw_st : ∀ q ∈ th_S, Cond.exactly (.string "ForeverOffice" q.1) "java/lang/String" ∈ flatC lw_pre := by decide +kernel
theorem lw_sr : ∀ q ∈ th_S, Cond.stringRef "ForeverOffice" q.1 q.2 ∈ lw_tbl := by decide +kernel
theorem lw_thB : ∀ w ∈ th_B, w ∈ lw_tbl := by decide +kernel
theorem lw_thO : ∀ w ∈ th_B, w.onTables = true := by decide +kernel
theorem lw_in : Cond.initialized wE ∈ lw_tbl := by decide +kernel
theorem lw_kz : Cond.laysStatic wE "KNOWN" "[LForeverOffice$Word;" ∈ lw_tbl := by decide +kernel
theorem lw_ti : Cond.initialized Bundle.tN ∈ lw_tbl := by decide +kernel
theorem lw_tu : Cond.laysStatic Bundle.tN "UNASSIGNED_STACK" Bundle.steD ∈ lw_tbl := by decide +kernel
theorem lw_tl : Cond.laysStatic Bundle.tN "SUPPRESSED_SENTINEL" Bundle.listD ∈ lw_tbl := by decide +kernel
theorem lw_o1 : Cond.arrayOver (.object "ForeverOffice$Drawing") ∈ lw_tbl := by decide +kernel
theorem lw_o2 : Cond.arrayOver (.object "ForeverOffice$Part") ∈ lw_tbl := by decide +kernel

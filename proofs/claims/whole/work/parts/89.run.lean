/-! ===== the law, from its first instruction ===== -/
theorem dL_law_0 : decode cL_law 0 = .ok (.new 8, 3) := by decide +kernel
set_option maxRecDepth 50000 in
theorem cRL_8 : Cond.classLink RL 8 "ForeverOffice" ∈ qw_good := qw_g 124 rfl rfl
set_option maxRecDepth 50000 in
theorem wk_in_ForeverOffice : Cond.instantiable "ForeverOffice" 18 ∈ qw_good := qw_g 125 rfl rfl
set_option maxRecDepth 50000 in
theorem wk_it_ForeverOffice : Cond.initialized "ForeverOffice" ∈ qw_good := qw_g 104 rfl rfl
theorem dL_law_3 : decode cL_law 3 = .ok (.dup, 1) := by decide +kernel
theorem dL_law_4 : decode cL_law 4 = .ok (.invokespecial 28, 3) := by decide +kernel
set_option maxRecDepth 50000 in
theorem lRL_28 : Cond.methodLink RL 28 yX11_init ∈ qw_good := qw_g 126 rfl rfl
theorem dL_law_7 : decode cL_law 7 = .ok (.astore_n 1, 1) := by decide +kernel
theorem dL_law_8 : decode cL_law 8 = .ok (.new 29, 3) := by decide +kernel
set_option maxRecDepth 50000 in
theorem cRL_29 : Cond.classLink RL 29 "ForeverOfficeModel" ∈ qw_good := qw_g 1247 rfl rfl
set_option maxRecDepth 50000 in
theorem wk_in_ForeverOfficeModel : Cond.instantiable "ForeverOfficeModel" 62 ∈ qw_good := qw_g 1248 rfl rfl
set_option maxRecDepth 50000 in
theorem wk_it_ForeverOfficeModel : Cond.initialized "ForeverOfficeModel" ∈ qw_good := qw_g 115 rfl rfl
theorem dL_law_11 : decode cL_law 11 = .ok (.dup, 1) := by decide +kernel
theorem dL_law_12 : decode cL_law 12 = .ok (.invokespecial 31, 3) := by decide +kernel
set_option maxRecDepth 50000 in
theorem lRL_31 : Cond.methodLink RL 31 yX12_init ∈ qw_good := qw_g 1249 rfl rfl
theorem dL_law_15 : decode cL_law 15 = .ok (.astore_n 2, 1) := by decide +kernel
theorem dL_law_16 : decode cL_law 16 = .ok (.iconst 1, 1) := by decide +kernel
theorem dL_law_17 : decode cL_law 17 = .ok (.newarray .long, 2) := by decide +kernel
theorem dL_law_19 : decode cL_law 19 = .ok (.astore_n 3, 1) := by decide +kernel
theorem dL_law_20 : decode cL_law 20 = .ok (.iconst 0, 1) := by decide +kernel
theorem dL_law_21 : decode cL_law 21 = .ok (.istore 4, 2) := by decide +kernel
def h00 : PH := (0, 0, fun _ => 0, fun _ => 0, fun _ _ => 0, fun _ _ => 0, fun _ _ => none)
set_option maxHeartbeats 4000000 in
set_option maxRecDepth 100000 in
theorem law_run {G : GT} {L : Nat} {xs : Nat → Int32} (hL : L ≤ 3072) : Ex G room_1 mL_law 0 0 (ZL G L xs) 0 [(0, .ref (wd 35))] [] h00 := by
  refine y_new (ty := tyX11) (pc := 0) dL_law_0 qc_10 tyX11_ok (by decide +kernel) cRL_8 wk_in_ForeverOffice wk_it_ForeverOffice (lw_C ⟨by decide, by decide⟩ (by decide) (by decide)) (by decide) (fun h1 e1 nx1 ok1 => ?_)
  have n1 : qn h1 = 1 := nx1.2.1
  have z1 : qz h1 = 18 := nx1.2.2
  have ok1 : qOK h1 10 0 := ok1
  refine x_dup (pc := 3) dL_law_3 rfl ?_
  refine x_invI (b := 0) (As := []) (st := [.ref 0]) (pc := 4) dL_law_4 (Or.inl lRL_28) fX11_init rfl rfl iX11_init rfl (Nat.le_of_ble_eq_true rfl) ⟨by decide, by decide⟩ (lw_C ⟨by omega, by omega⟩ (by decide) (by decide)) (sn_X11_init G 0 0 h1 _ ok1 (start_all (h := h00) rfl h1 e1)) (k_v (fun h2 hw2 cx2 => ?_))
  have n2 : qn h2 = 70 := by have := cx2.2.1; omega
  have z2 : qz h2 = 4706 := by have := cx2.2.2; omega
  refine x_astore_n (lv2 := [(1, .ref 0), (0, .ref (wd 35))]) (pc := 7) dL_law_7 (by decide) rfl ?_
  refine y_new (ty := tyX12) (pc := 8) dL_law_8 qc_11 tyX12_ok (by decide +kernel) cRL_29 wk_in_ForeverOfficeModel wk_it_ForeverOfficeModel (lw_C ⟨by omega, by omega⟩ (by decide) (by decide)) (by omega) (fun h3 e3 nx3 ok3 => ?_)
  have n3 : qn h3 = 71 := by have := nx3.2.1; omega
  have z3 : qz h3 = 4768 := by have := nx3.2.2; omega
  rw [n2] at ok3 ⊢
  refine x_dup (pc := 11) dL_law_11 rfl ?_
  refine x_invI (b := 70) (As := []) (st := [.ref 70]) (pc := 12) dL_law_12 (Or.inl lRL_31) fX12_init rfl rfl iX12_init rfl (Nat.le_of_ble_eq_true rfl) ⟨by decide, by decide⟩ (lw_C ⟨by omega, by omega⟩ (by decide) (by decide)) (sn_X12_init G 0 70 h3 _ ok3 (hw2 h3 e3)) (k_v (fun h4 hw4 cx4 => ?_))
  have n4 : qn h4 = 92 := by have := cx4.2.1; omega
  have z4 : qz h4 = 7472 := by have := cx4.2.2; omega
  refine x_astore_n (lv2 := [(2, .ref 70), (1, .ref 0), (0, .ref (wd 35))]) (pc := 15) dL_law_15 (by decide) rfl ?_
  refine x_iconst (v := 1) (pc := 16) dL_law_16 (by decide) ?_
  refine y_newa (t := 15) (N := 1) (t0 := 2) (ty := .long) (pc := 17) dL_law_17 rfl (by decide) wk_ac_long (by decide) (by decide) (by decide) (lw_C ⟨by omega, by omega⟩ (by decide) (by decide)) (by omega) (fun h5 e5 nx5 ok5 => ?_)
  have n5 : qn h5 = 93 := by have := nx5.2.1; omega
  have z5 : qz h5 = 7473 := by have := nx5.2.2; omega
  rw [n4]
  refine x_astore_n (lv2 := [(3, .ref 92), (2, .ref 70), (1, .ref 0), (0, .ref (wd 35))]) (pc := 19) dL_law_19 (by decide) rfl ?_
  refine x_iconst (v := 0) (pc := 20) dL_law_20 (by decide) ?_
  refine x_istore (lv2 := lwV (6 * 0)) (pc := 21) dL_law_21 (by decide) rfl ?_
  exact law_loop hL 600 0 h5 rfl (hw4 h5 e5) (by omega) (by omega)

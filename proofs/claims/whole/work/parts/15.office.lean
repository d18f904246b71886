theorem dX11_init_0 : decode cX11_init 0 = .ok (.aload_n 0, 1) := by decide +kernel
theorem dX11_init_1 : decode cX11_init 1 = .ok (.invokespecial 1, 3) := by decide +kernel
theorem dX11_init_4 : decode cX11_init 4 = .ok (.aload_n 0, 1) := by decide +kernel
theorem dX11_init_5 : decode cX11_init 5 = .ok (.new 7, 3) := by decide +kernel
theorem dX11_init_8 : decode cX11_init 8 = .ok (.dup, 1) := by decide +kernel
theorem dX11_init_9 : decode cX11_init 9 = .ok (.invokespecial 9, 3) := by decide +kernel
theorem dX11_init_12 : decode cX11_init 12 = .ok (.putfield 10, 3) := by decide +kernel
theorem dX11_init_15 : decode cX11_init 15 = .ok (.aload_n 0, 1) := by decide +kernel
theorem dX11_init_16 : decode cX11_init 16 = .ok (.new 16, 3) := by decide +kernel
theorem dX11_init_19 : decode cX11_init 19 = .ok (.dup, 1) := by decide +kernel
theorem dX11_init_20 : decode cX11_init 20 = .ok (.invokespecial 18, 3) := by decide +kernel
theorem dX11_init_23 : decode cX11_init 23 = .ok (.putfield 19, 3) := by decide +kernel
theorem dX11_init_26 : decode cX11_init 26 = .ok (.aload_n 0, 1) := by decide +kernel
theorem dX11_init_27 : decode cX11_init 27 = .ok (.new 23, 3) := by decide +kernel
theorem dX11_init_30 : decode cX11_init 30 = .ok (.dup, 1) := by decide +kernel
theorem dX11_init_31 : decode cX11_init 31 = .ok (.invokespecial 25, 3) := by decide +kernel
theorem dX11_init_34 : decode cX11_init 34 = .ok (.putfield 26, 3) := by decide +kernel
theorem dX11_init_37 : decode cX11_init 37 = .ok (.aload_n 0, 1) := by decide +kernel
theorem dX11_init_38 : decode cX11_init 38 = .ok (.new 30, 3) := by decide +kernel
theorem dX11_init_41 : decode cX11_init 41 = .ok (.dup, 1) := by decide +kernel
theorem dX11_init_42 : decode cX11_init 42 = .ok (.invokespecial 32, 3) := by decide +kernel
theorem dX11_init_45 : decode cX11_init 45 = .ok (.putfield 33, 3) := by decide +kernel
theorem dX11_init_48 : decode cX11_init 48 = .ok (.aload_n 0, 1) := by decide +kernel
theorem dX11_init_49 : decode cX11_init 49 = .ok (.new 37, 3) := by decide +kernel
theorem dX11_init_52 : decode cX11_init 52 = .ok (.dup, 1) := by decide +kernel
theorem dX11_init_53 : decode cX11_init 53 = .ok (.invokespecial 39, 3) := by decide +kernel
theorem dX11_init_56 : decode cX11_init 56 = .ok (.putfield 40, 3) := by decide +kernel
theorem dX11_init_59 : decode cX11_init 59 = .ok (.aload_n 0, 1) := by decide +kernel
theorem dX11_init_60 : decode cX11_init 60 = .ok (.new 37, 3) := by decide +kernel
theorem dX11_init_63 : decode cX11_init 63 = .ok (.dup, 1) := by decide +kernel
theorem dX11_init_64 : decode cX11_init 64 = .ok (.invokespecial 39, 3) := by decide +kernel
theorem dX11_init_67 : decode cX11_init 67 = .ok (.putfield 44, 3) := by decide +kernel
theorem dX11_init_70 : decode cX11_init 70 = .ok (.aload_n 0, 1) := by decide +kernel
theorem dX11_init_71 : decode cX11_init 71 = .ok (.new 47, 3) := by decide +kernel
theorem dX11_init_74 : decode cX11_init 74 = .ok (.dup, 1) := by decide +kernel
theorem dX11_init_75 : decode cX11_init 75 = .ok (.invokespecial 49, 3) := by decide +kernel
theorem dX11_init_78 : decode cX11_init 78 = .ok (.putfield 50, 3) := by decide +kernel
theorem dX11_init_81 : decode cX11_init 81 = .ok (.aload_n 0, 1) := by decide +kernel
theorem dX11_init_82 : decode cX11_init 82 = .ok (.bipush 6, 2) := by decide +kernel
theorem dX11_init_84 : decode cX11_init 84 = .ok (.anewarray 54, 3) := by decide +kernel
theorem dX11_init_87 : decode cX11_init 87 = .ok (.putfield 56, 3) := by decide +kernel
theorem dX11_init_90 : decode cX11_init 90 = .ok (.aload_n 0, 1) := by decide +kernel
theorem dX11_init_91 : decode cX11_init 91 = .ok (.bipush 48, 2) := by decide +kernel
theorem dX11_init_93 : decode cX11_init 93 = .ok (.newarray .int, 2) := by decide +kernel
theorem dX11_init_95 : decode cX11_init 95 = .ok (.putfield 60, 3) := by decide +kernel
theorem dX11_init_98 : decode cX11_init 98 = .ok (.aload_n 0, 1) := by decide +kernel
theorem dX11_init_99 : decode cX11_init 99 = .ok (.bipush 10, 2) := by decide +kernel
theorem dX11_init_101 : decode cX11_init 101 = .ok (.newarray .int, 2) := by decide +kernel
theorem dX11_init_103 : decode cX11_init 103 = .ok (.putfield 66, 3) := by decide +kernel
theorem dX11_init_106 : decode cX11_init 106 = .ok (.aload_n 0, 1) := by decide +kernel
theorem dX11_init_107 : decode cX11_init 107 = .ok (.new 54, 3) := by decide +kernel
theorem dX11_init_110 : decode cX11_init 110 = .ok (.dup, 1) := by decide +kernel
theorem dX11_init_111 : decode cX11_init 111 = .ok (.invokespecial 69, 3) := by decide +kernel
theorem dX11_init_114 : decode cX11_init 114 = .ok (.putfield 70, 3) := by decide +kernel
theorem dX11_init_117 : decode cX11_init 117 = .ok (.aload_n 0, 1) := by decide +kernel
theorem dX11_init_118 : decode cX11_init 118 = .ok (.new 54, 3) := by decide +kernel
theorem dX11_init_121 : decode cX11_init 121 = .ok (.dup, 1) := by decide +kernel
theorem dX11_init_122 : decode cX11_init 122 = .ok (.invokespecial 69, 3) := by decide +kernel
theorem dX11_init_125 : decode cX11_init 125 = .ok (.putfield 74, 3) := by decide +kernel
theorem dX11_init_128 : decode cX11_init 128 = .ok (.aload_n 0, 1) := by decide +kernel
theorem dX11_init_129 : decode cX11_init 129 = .ok (.new 77, 3) := by decide +kernel
theorem dX11_init_132 : decode cX11_init 132 = .ok (.dup, 1) := by decide +kernel
theorem dX11_init_133 : decode cX11_init 133 = .ok (.invokespecial 79, 3) := by decide +kernel
theorem dX11_init_136 : decode cX11_init 136 = .ok (.putfield 80, 3) := by decide +kernel
theorem dX11_init_139 : decode cX11_init 139 = .ok (.aload_n 0, 1) := by decide +kernel
theorem dX11_init_140 : decode cX11_init 140 = .ok (.new 77, 3) := by decide +kernel
theorem dX11_init_143 : decode cX11_init 143 = .ok (.dup, 1) := by decide +kernel
theorem dX11_init_144 : decode cX11_init 144 = .ok (.invokespecial 79, 3) := by decide +kernel
theorem dX11_init_147 : decode cX11_init 147 = .ok (.putfield 84, 3) := by decide +kernel
theorem dX11_init_150 : decode cX11_init 150 = .ok (.aload_n 0, 1) := by decide +kernel
theorem dX11_init_151 : decode cX11_init 151 = .ok (.new 64, 3) := by decide +kernel
theorem dX11_init_154 : decode cX11_init 154 = .ok (.dup, 1) := by decide +kernel
theorem dX11_init_155 : decode cX11_init 155 = .ok (.invokespecial 87, 3) := by decide +kernel
theorem dX11_init_158 : decode cX11_init 158 = .ok (.putfield 88, 3) := by decide +kernel
theorem dX11_init_161 : decode cX11_init 161 = .ok (.aload_n 0, 1) := by decide +kernel
theorem dX11_init_162 : decode cX11_init 162 = .ok (.new 64, 3) := by decide +kernel
theorem dX11_init_165 : decode cX11_init 165 = .ok (.dup, 1) := by decide +kernel
theorem dX11_init_166 : decode cX11_init 166 = .ok (.invokespecial 87, 3) := by decide +kernel
theorem dX11_init_169 : decode cX11_init 169 = .ok (.putfield 92, 3) := by decide +kernel
theorem dX11_init_172 : decode cX11_init 172 = .ok (.aload_n 0, 1) := by decide +kernel
theorem dX11_init_173 : decode cX11_init 173 = .ok (.iconst 0, 1) := by decide +kernel
theorem dX11_init_174 : decode cX11_init 174 = .ok (.putfield 95, 3) := by decide +kernel
theorem dX11_init_177 : decode cX11_init 177 = .ok (.aload_n 0, 1) := by decide +kernel
theorem dX11_init_178 : decode cX11_init 178 = .ok (.iconst 0, 1) := by decide +kernel
theorem dX11_init_179 : decode cX11_init 179 = .ok (.putfield 99, 3) := by decide +kernel
theorem dX11_init_182 : decode cX11_init 182 = .ok (.return_, 1) := by decide +kernel
def wp_X11_init (l0 : Nat) (h : PH) (Q : PH → Prop) : Prop := (qn h + 1 ≤ 1000000 ∧ ∀ h1, h1 = qnew h 6 0 2 → (wp_X6_init (qn h) h1 (fun h3 => (∀ h5, h5 = qsR h3 l0 0 (some (qn h)) → (qn h5 + 1 ≤ 1000000 ∧ ∀ h6, h6 = qnew h5 7 0 7 → (wp_X7_init (qn h5) h6 (fun h8 => (∀ h10, h10 = qsR h8 l0 1 (some (qn h5)) → (qn h10 + 1 ≤ 1000000 ∧ ∀ h11, h11 = qnew h10 8 0 7 → (wp_X8_init (qn h10) h11 (fun h13 => (∀ h15, h15 = qsR h13 l0 2 (some (qn h10)) → (qn h15 + 1 ≤ 1000000 ∧ ∀ h16, h16 = qnew h15 9 0 3 → (wp_X10_init (qn h15) h16 (fun h18 => (∀ h20, h20 = qsR h18 l0 3 (some (qn h15)) → (qn h20 + 1 ≤ 1000000 ∧ ∀ h21, h21 = qnew h20 5 0 7 → (wp_X5_init (qn h20) h21 (fun h23 => (∀ h25, h25 = qsR h23 l0 4 (some (qn h20)) → (qn h25 + 1 ≤ 1000000 ∧ ∀ h26, h26 = qnew h25 5 0 7 → (wp_X5_init (qn h25) h26 (fun h28 => (∀ h30, h30 = qsR h28 l0 5 (some (qn h25)) → (qn h30 + 1 ≤ 1000000 ∧ ∀ h31, h31 = qnew h30 2 0 10 → (wp_X2_init (qn h30) h31 (fun h33 => (∀ h35, h35 = qsR h33 l0 6 (some (qn h30)) → (qn h35 + 1 ≤ 1000000 ∧ ∀ h36, h36 = qnew h35 17 6 6 → (∀ h38, h38 = qsR h36 l0 7 (some (qn h35)) → (qn h38 + 1 ≤ 1000000 ∧ ∀ h39, h39 = qnew h38 14 48 48 → (∀ h41, h41 = qsR h39 l0 8 (some (qn h38)) → (qn h41 + 1 ≤ 1000000 ∧ ∀ h42, h42 = qnew h41 14 10 10 → (∀ h44, h44 = qsR h42 l0 9 (some (qn h41)) → (qn h44 + 1 ≤ 1000000 ∧ ∀ h45, h45 = qnew h44 1 0 4 → (wp_X1_init (qn h44) h45 (fun h47 => (∀ h49, h49 = qsR h47 l0 10 (some (qn h44)) → (qn h49 + 1 ≤ 1000000 ∧ ∀ h50, h50 = qnew h49 1 0 4 → (wp_X1_init (qn h49) h50 (fun h52 => (∀ h54, h54 = qsR h52 l0 11 (some (qn h49)) → (qn h54 + 1 ≤ 1000000 ∧ ∀ h55, h55 = qnew h54 0 0 7 → (wp_X0_init (qn h54) h55 (fun h57 => (∀ h59, h59 = qsR h57 l0 12 (some (qn h54)) → (qn h59 + 1 ≤ 1000000 ∧ ∀ h60, h60 = qnew h59 0 0 7 → (wp_X0_init (qn h59) h60 (fun h62 => (∀ h64, h64 = qsR h62 l0 13 (some (qn h59)) → (qn h64 + 1 ≤ 1000000 ∧ ∀ h65, h65 = qnew h64 3 0 3 → (wp_X3_init (qn h64) h65 (fun h67 => (∀ h69, h69 = qsR h67 l0 14 (some (qn h64)) → (qn h69 + 1 ≤ 1000000 ∧ ∀ h70, h70 = qnew h69 3 0 3 → (wp_X3_init (qn h69) h70 (fun h72 => (∀ h74, h74 = qsR h72 l0 15 (some (qn h69)) → (∀ h75, h75 = qsI h74 l0 16 0 → (∀ h76, h76 = qsI h75 l0 17 0 → Q h76))))))))))))))))))))))))))))))))))))))))))))))))))))))))))))
set_option maxHeartbeats 4000000 in
set_option maxRecDepth 100000 in
theorem sn_X11_init (G : GT) (d : Nat) (l0 : Nat) (h : PH) (Q : PH → Prop) (okl0 : qOK h 10 l0) (hwp : wp_X11_init l0 h Q) : Mt G (3 + d) 69 4688 mX11_init [.ref l0] h (qqv Q) := by
  unfold wp_X11_init at hwp
  refine Mt.of (by decide) rfl (Nat.le_of_ble_eq_true rfl) ?_
  have hex := qEx.rf h
  have hnn : qn h = qn h + 0 := rfl
  have hzz : qz h = qz h + 0 := rfl
  refine x_lvE (lv2 := [(0, .ref l0)]) rfl ?_
  refine x_aload_n (pc := 0) dX11_init_0 rfl ?_
  refine x_objInit (pc := 1) dX11_init_1 lRX11_1 wk_oi wk_oc (q_R1 (by omega)) (Nat.le_of_ble_eq_true rfl) ?_
  refine x_aload_n (pc := 4) dX11_init_4 rfl ?_
  obtain ⟨m2, hwp⟩ := hwp
  refine y_new (ty := tyX6) (pc := 5) dX11_init_5 qc_6 tyX6_ok (by decide +kernel) cRX11_7 wk_in_ForeverOffice_Tape wk_it_ForeverOffice_Tape (q_C hnn hzz (by decide) (by decide)) m2 (fun h1 eh1 nwh1 okbh1 => ?_)
  have hwp := hwp h1 eh1
  have hex := hex.tr nwh1.1
  have hnn : qn h1 = qn h + 1 := by have := nwh1.2.1; omega
  have hzz : qz h1 = qz h + 2 := by have := nwh1.2.2; omega
  have okl0 := okl0.ex nwh1.1
  refine x_dup (pc := 8) dX11_init_8 rfl ?_
  refine x_invI (As := []) (st := [.ref (qn h), .ref l0]) (pc := 9) dX11_init_9 lRX11_9 fX6_init rfl rfl iX6_init rfl (Nat.le_of_ble_eq_true rfl) (q_R (by omega) (by decide)) (q_C hnn hzz (by decide) (by decide)) (sn_X6_init G (d + 1) (qn h) h1 _ okbh1 hwp) (k_v (fun h3 hwp cxh3 => ?_))
  have hex := hex.tr cxh3.1
  have hnn : qn h3 = qn h + 2 := by have := cxh3.2.1; omega
  have hzz : qz h3 = qz h + 642 := by have := cxh3.2.2; omega
  have okl0 := okl0.ex cxh3.1
  have okbh1 := okbh1.ex cxh3.1
  refine y_putF rfl (pc := 12) dX11_init_12 FRX11_10 okl0 okbh1 (fun h5 eh5 nxh5 => ?_)
  have hwp := hwp h5 eh5
  have hex := hex.tr nxh5.1
  have hnn := nxh5.2.1.trans hnn
  have hzz := nxh5.2.2.trans hzz
  have okl0 := okl0.ex nxh5.1
  have okbh1 := okbh1.ex nxh5.1
  refine x_aload_n (pc := 15) dX11_init_15 rfl ?_
  obtain ⟨m7, hwp⟩ := hwp
  refine y_new (ty := tyX7) (pc := 16) dX11_init_16 qc_7 tyX7_ok (by decide +kernel) cRX11_16 wk_in_ForeverOffice_Tokens wk_it_ForeverOffice_Tokens (q_C hnn hzz (by decide) (by decide)) m7 (fun h6 eh6 nwh6 okbh6 => ?_)
  have hwp := hwp h6 eh6
  have hex := hex.tr nwh6.1
  have hnn : qn h6 = qn h + 3 := by have := nwh6.2.1; omega
  have hzz : qz h6 = qz h + 649 := by have := nwh6.2.2; omega
  have okl0 := okl0.ex nwh6.1
  have okbh1 := okbh1.ex nwh6.1
  refine x_dup (pc := 19) dX11_init_19 rfl ?_
  refine x_invI (As := []) (st := [.ref (qn h5), .ref l0]) (pc := 20) dX11_init_20 lRX11_18 fX7_init rfl rfl iX7_init rfl (Nat.le_of_ble_eq_true rfl) (q_R (by omega) (by decide)) (q_C hnn hzz (by decide) (by decide)) (sn_X7_init G (d + 1) (qn h5) h6 _ okbh6 hwp) (k_v (fun h8 hwp cxh8 => ?_))
  have hex := hex.tr cxh8.1
  have hnn : qn h8 = qn h + 6 := by have := cxh8.2.1; omega
  have hzz : qz h8 = qz h + 2572 := by have := cxh8.2.2; omega
  have okl0 := okl0.ex cxh8.1
  have okbh1 := okbh1.ex cxh8.1
  have okbh6 := okbh6.ex cxh8.1
  refine y_putF rfl (pc := 23) dX11_init_23 FRX11_19 okl0 okbh6 (fun h10 eh10 nxh10 => ?_)
  have hwp := hwp h10 eh10
  have hex := hex.tr nxh10.1
  have hnn := nxh10.2.1.trans hnn
  have hzz := nxh10.2.2.trans hzz
  have okl0 := okl0.ex nxh10.1
  have okbh1 := okbh1.ex nxh10.1
  have okbh6 := okbh6.ex nxh10.1
  refine x_aload_n (pc := 26) dX11_init_26 rfl ?_
  obtain ⟨m12, hwp⟩ := hwp
  refine y_new (ty := tyX8) (pc := 27) dX11_init_27 qc_8 tyX8_ok (by decide +kernel) cRX11_23 wk_in_ForeverOffice_Totals wk_it_ForeverOffice_Totals (q_C hnn hzz (by decide) (by decide)) m12 (fun h11 eh11 nwh11 okbh11 => ?_)
  have hwp := hwp h11 eh11
  have hex := hex.tr nwh11.1
  have hnn : qn h11 = qn h + 7 := by have := nwh11.2.1; omega
  have hzz : qz h11 = qz h + 2579 := by have := nwh11.2.2; omega
  have okl0 := okl0.ex nwh11.1
  have okbh1 := okbh1.ex nwh11.1
  have okbh6 := okbh6.ex nwh11.1
  refine x_dup (pc := 30) dX11_init_30 rfl ?_
  refine x_invI (As := []) (st := [.ref (qn h10), .ref l0]) (pc := 31) dX11_init_31 lRX11_25 fX8_init rfl rfl iX8_init rfl (Nat.le_of_ble_eq_true rfl) (q_R (by omega) (by decide)) (q_C hnn hzz (by decide) (by decide)) (sn_X8_init G (d + 1) (qn h10) h11 _ okbh11 hwp) (k_v (fun h13 hwp cxh13 => ?_))
  have hex := hex.tr cxh13.1
  have hnn : qn h13 = qn h + 12 := by have := cxh13.2.1; omega
  have hzz : qz h13 = qz h + 3259 := by have := cxh13.2.2; omega
  have okl0 := okl0.ex cxh13.1
  have okbh1 := okbh1.ex cxh13.1
  have okbh6 := okbh6.ex cxh13.1
  have okbh11 := okbh11.ex cxh13.1
  refine y_putF rfl (pc := 34) dX11_init_34 FRX11_26 okl0 okbh11 (fun h15 eh15 nxh15 => ?_)
  have hwp := hwp h15 eh15
  have hex := hex.tr nxh15.1
  have hnn := nxh15.2.1.trans hnn
  have hzz := nxh15.2.2.trans hzz
  have okl0 := okl0.ex nxh15.1
  have okbh1 := okbh1.ex nxh15.1
  have okbh6 := okbh6.ex nxh15.1
  have okbh11 := okbh11.ex nxh15.1
  refine x_aload_n (pc := 37) dX11_init_37 rfl ?_
  obtain ⟨m17, hwp⟩ := hwp
  refine y_new (ty := tyX10) (pc := 38) dX11_init_38 qc_9 tyX10_ok (by decide +kernel) cRX11_30 wk_in_ForeverOffice_World wk_it_ForeverOffice_World (q_C hnn hzz (by decide) (by decide)) m17 (fun h16 eh16 nwh16 okbh16 => ?_)
  have hwp := hwp h16 eh16
  have hex := hex.tr nwh16.1
  have hnn : qn h16 = qn h + 13 := by have := nwh16.2.1; omega
  have hzz : qz h16 = qz h + 3262 := by have := nwh16.2.2; omega
  have okl0 := okl0.ex nwh16.1
  have okbh1 := okbh1.ex nwh16.1
  have okbh6 := okbh6.ex nwh16.1
  have okbh11 := okbh11.ex nwh16.1
  refine x_dup (pc := 41) dX11_init_41 rfl ?_
  refine x_invI (As := []) (st := [.ref (qn h15), .ref l0]) (pc := 42) dX11_init_42 lRX11_32 fX10_init rfl rfl iX10_init rfl (Nat.le_of_ble_eq_true rfl) (q_R (by omega) (by decide)) (q_C hnn hzz (by decide) (by decide)) (sn_X10_init G (d + 1) (qn h15) h16 _ okbh16 hwp) (k_v (fun h18 hwp cxh18 => ?_))
  have hex := hex.tr cxh18.1
  have hnn : qn h18 = qn h + 15 := by have := cxh18.2.1; omega
  have hzz : qz h18 = qz h + 3358 := by have := cxh18.2.2; omega
  have okl0 := okl0.ex cxh18.1
  have okbh1 := okbh1.ex cxh18.1
  have okbh6 := okbh6.ex cxh18.1
  have okbh11 := okbh11.ex cxh18.1
  have okbh16 := okbh16.ex cxh18.1
  refine y_putF rfl (pc := 45) dX11_init_45 FRX11_33 okl0 okbh16 (fun h20 eh20 nxh20 => ?_)
  have hwp := hwp h20 eh20
  have hex := hex.tr nxh20.1
  have hnn := nxh20.2.1.trans hnn
  have hzz := nxh20.2.2.trans hzz
  have okl0 := okl0.ex nxh20.1
  have okbh1 := okbh1.ex nxh20.1
  have okbh6 := okbh6.ex nxh20.1
  have okbh11 := okbh11.ex nxh20.1
  have okbh16 := okbh16.ex nxh20.1
  refine x_aload_n (pc := 48) dX11_init_48 rfl ?_
  obtain ⟨m22, hwp⟩ := hwp
  refine y_new (ty := tyX5) (pc := 49) dX11_init_49 qc_5 tyX5_ok (by decide +kernel) cRX11_37 wk_in_ForeverOffice_Run wk_it_ForeverOffice_Run (q_C hnn hzz (by decide) (by decide)) m22 (fun h21 eh21 nwh21 okbh21 => ?_)
  have hwp := hwp h21 eh21
  have hex := hex.tr nwh21.1
  have hnn : qn h21 = qn h + 16 := by have := nwh21.2.1; omega
  have hzz : qz h21 = qz h + 3365 := by have := nwh21.2.2; omega
  have okl0 := okl0.ex nwh21.1
  have okbh1 := okbh1.ex nwh21.1
  have okbh6 := okbh6.ex nwh21.1
  have okbh11 := okbh11.ex nwh21.1
  have okbh16 := okbh16.ex nwh21.1
  refine x_dup (pc := 52) dX11_init_52 rfl ?_
  refine x_invI (As := []) (st := [.ref (qn h20), .ref l0]) (pc := 53) dX11_init_53 lRX11_39 fX5_init rfl rfl iX5_init rfl (Nat.le_of_ble_eq_true rfl) (q_R (by omega) (by decide)) (q_C hnn hzz (by decide) (by decide)) (sn_X5_init G (d + 1) (qn h20) h21 _ okbh21 hwp) (k_v (fun h23 hwp cxh23 => ?_))
  have hex := hex.tr cxh23.1
  have hnn : qn h23 = qn h + 16 := by have := cxh23.2.1; omega
  have hzz : qz h23 = qz h + 3365 := by have := cxh23.2.2; omega
  have okl0 := okl0.ex cxh23.1
  have okbh1 := okbh1.ex cxh23.1
  have okbh6 := okbh6.ex cxh23.1
  have okbh11 := okbh11.ex cxh23.1
  have okbh16 := okbh16.ex cxh23.1
  have okbh21 := okbh21.ex cxh23.1
  refine y_putF rfl (pc := 56) dX11_init_56 FRX11_40 okl0 okbh21 (fun h25 eh25 nxh25 => ?_)
  have hwp := hwp h25 eh25
  have hex := hex.tr nxh25.1
  have hnn := nxh25.2.1.trans hnn
  have hzz := nxh25.2.2.trans hzz
  have okl0 := okl0.ex nxh25.1
  have okbh1 := okbh1.ex nxh25.1
  have okbh6 := okbh6.ex nxh25.1
  have okbh11 := okbh11.ex nxh25.1
  have okbh16 := okbh16.ex nxh25.1
  have okbh21 := okbh21.ex nxh25.1
  refine x_aload_n (pc := 59) dX11_init_59 rfl ?_
  obtain ⟨m27, hwp⟩ := hwp
  refine y_new (ty := tyX5) (pc := 60) dX11_init_60 qc_5 tyX5_ok (by decide +kernel) cRX11_37 wk_in_ForeverOffice_Run wk_it_ForeverOffice_Run (q_C hnn hzz (by decide) (by decide)) m27 (fun h26 eh26 nwh26 okbh26 => ?_)
  have hwp := hwp h26 eh26
  have hex := hex.tr nwh26.1
  have hnn : qn h26 = qn h + 17 := by have := nwh26.2.1; omega
  have hzz : qz h26 = qz h + 3372 := by have := nwh26.2.2; omega
  have okl0 := okl0.ex nwh26.1
  have okbh1 := okbh1.ex nwh26.1
  have okbh6 := okbh6.ex nwh26.1
  have okbh11 := okbh11.ex nwh26.1
  have okbh16 := okbh16.ex nwh26.1
  have okbh21 := okbh21.ex nwh26.1
  refine x_dup (pc := 63) dX11_init_63 rfl ?_
  refine x_invI (As := []) (st := [.ref (qn h25), .ref l0]) (pc := 64) dX11_init_64 lRX11_39 fX5_init rfl rfl iX5_init rfl (Nat.le_of_ble_eq_true rfl) (q_R (by omega) (by decide)) (q_C hnn hzz (by decide) (by decide)) (sn_X5_init G (d + 1) (qn h25) h26 _ okbh26 hwp) (k_v (fun h28 hwp cxh28 => ?_))
  have hex := hex.tr cxh28.1
  have hnn : qn h28 = qn h + 17 := by have := cxh28.2.1; omega
  have hzz : qz h28 = qz h + 3372 := by have := cxh28.2.2; omega
  have okl0 := okl0.ex cxh28.1
  have okbh1 := okbh1.ex cxh28.1
  have okbh6 := okbh6.ex cxh28.1
  have okbh11 := okbh11.ex cxh28.1
  have okbh16 := okbh16.ex cxh28.1
  have okbh21 := okbh21.ex cxh28.1
  have okbh26 := okbh26.ex cxh28.1
  refine y_putF rfl (pc := 67) dX11_init_67 FRX11_44 okl0 okbh26 (fun h30 eh30 nxh30 => ?_)
  have hwp := hwp h30 eh30
  have hex := hex.tr nxh30.1
  have hnn := nxh30.2.1.trans hnn
  have hzz := nxh30.2.2.trans hzz
  have okl0 := okl0.ex nxh30.1
  have okbh1 := okbh1.ex nxh30.1
  have okbh6 := okbh6.ex nxh30.1
  have okbh11 := okbh11.ex nxh30.1
  have okbh16 := okbh16.ex nxh30.1
  have okbh21 := okbh21.ex nxh30.1
  have okbh26 := okbh26.ex nxh30.1
  refine x_aload_n (pc := 70) dX11_init_70 rfl ?_
  obtain ⟨m32, hwp⟩ := hwp
  refine y_new (ty := tyX2) (pc := 71) dX11_init_71 qc_2 tyX2_ok (by decide +kernel) cRX11_47 wk_in_ForeverOffice_Finds wk_it_ForeverOffice_Finds (q_C hnn hzz (by decide) (by decide)) m32 (fun h31 eh31 nwh31 okbh31 => ?_)
  have hwp := hwp h31 eh31
  have hex := hex.tr nwh31.1
  have hnn : qn h31 = qn h + 18 := by have := nwh31.2.1; omega
  have hzz : qz h31 = qz h + 3382 := by have := nwh31.2.2; omega
  have okl0 := okl0.ex nwh31.1
  have okbh1 := okbh1.ex nwh31.1
  have okbh6 := okbh6.ex nwh31.1
  have okbh11 := okbh11.ex nwh31.1
  have okbh16 := okbh16.ex nwh31.1
  have okbh21 := okbh21.ex nwh31.1
  have okbh26 := okbh26.ex nwh31.1
  refine x_dup (pc := 74) dX11_init_74 rfl ?_
  refine x_invI (As := []) (st := [.ref (qn h30), .ref l0]) (pc := 75) dX11_init_75 lRX11_49 fX2_init rfl rfl iX2_init rfl (Nat.le_of_ble_eq_true rfl) (q_R (by omega) (by decide)) (q_C hnn hzz (by decide) (by decide)) (sn_X2_init G (d + 1) (qn h30) h31 _ okbh31 hwp) (k_v (fun h33 hwp cxh33 => ?_))
  have hex := hex.tr cxh33.1
  have hnn : qn h33 = qn h + 22 := by have := cxh33.2.1; omega
  have hzz : qz h33 = qz h + 3852 := by have := cxh33.2.2; omega
  have okl0 := okl0.ex cxh33.1
  have okbh1 := okbh1.ex cxh33.1
  have okbh6 := okbh6.ex cxh33.1
  have okbh11 := okbh11.ex cxh33.1
  have okbh16 := okbh16.ex cxh33.1
  have okbh21 := okbh21.ex cxh33.1
  have okbh26 := okbh26.ex cxh33.1
  have okbh31 := okbh31.ex cxh33.1
  refine y_putF rfl (pc := 78) dX11_init_78 FRX11_50 okl0 okbh31 (fun h35 eh35 nxh35 => ?_)
  have hwp := hwp h35 eh35
  have hex := hex.tr nxh35.1
  have hnn := nxh35.2.1.trans hnn
  have hzz := nxh35.2.2.trans hzz
  have okl0 := okl0.ex nxh35.1
  have okbh1 := okbh1.ex nxh35.1
  have okbh6 := okbh6.ex nxh35.1
  have okbh11 := okbh11.ex nxh35.1
  have okbh16 := okbh16.ex nxh35.1
  have okbh21 := okbh21.ex nxh35.1
  have okbh26 := okbh26.ex nxh35.1
  have okbh31 := okbh31.ex nxh35.1
  refine x_aload_n (pc := 81) dX11_init_81 rfl ?_
  refine x_bipush (v := 6) (pc := 82) dX11_init_82 (by decide) ?_
  obtain ⟨m37, hwp⟩ := hwp
  refine y_anew (t := 17) (N := 6) (pc := 84) dX11_init_84 (by decide) cRX11_54 (by decide) (by decide) (by decide) (q_C hnn hzz (by decide) (by decide)) m37 (fun h36 eh36 nwh36 okbh36 => ?_)
  have hwp := hwp h36 eh36
  have hex := hex.tr nwh36.1
  have hnn : qn h36 = qn h + 23 := by have := nwh36.2.1; omega
  have hzz : qz h36 = qz h + 3858 := by have := nwh36.2.2; omega
  have okl0 := okl0.ex nwh36.1
  have okbh1 := okbh1.ex nwh36.1
  have okbh6 := okbh6.ex nwh36.1
  have okbh11 := okbh11.ex nwh36.1
  have okbh16 := okbh16.ex nwh36.1
  have okbh21 := okbh21.ex nwh36.1
  have okbh26 := okbh26.ex nwh36.1
  have okbh31 := okbh31.ex nwh36.1
  refine y_putF rfl (pc := 87) dX11_init_87 FRX11_56 okl0 okbh36 (fun h38 eh38 nxh38 => ?_)
  have hwp := hwp h38 eh38
  have hex := hex.tr nxh38.1
  have hnn := nxh38.2.1.trans hnn
  have hzz := nxh38.2.2.trans hzz
  have okl0 := okl0.ex nxh38.1
  have okbh1 := okbh1.ex nxh38.1
  have okbh6 := okbh6.ex nxh38.1
  have okbh11 := okbh11.ex nxh38.1
  have okbh16 := okbh16.ex nxh38.1
  have okbh21 := okbh21.ex nxh38.1
  have okbh26 := okbh26.ex nxh38.1
  have okbh31 := okbh31.ex nxh38.1
  have okbh36 := okbh36.ex nxh38.1
  refine x_aload_n (pc := 90) dX11_init_90 rfl ?_
  refine x_bipush (v := 48) (pc := 91) dX11_init_91 (by decide) ?_
  obtain ⟨m40, hwp⟩ := hwp
  refine y_newa (t := 14) (N := 48) (t0 := 1) (ty := .int) (pc := 93) dX11_init_93 rfl (by decide) wk_ac_int (by decide) (by decide) (by decide) (q_C hnn hzz (by decide) (by decide)) m40 (fun h39 eh39 nwh39 okbh39 => ?_)
  have hwp := hwp h39 eh39
  have hex := hex.tr nwh39.1
  have hnn : qn h39 = qn h + 24 := by have := nwh39.2.1; omega
  have hzz : qz h39 = qz h + 3906 := by have := nwh39.2.2; omega
  have okl0 := okl0.ex nwh39.1
  have okbh1 := okbh1.ex nwh39.1
  have okbh6 := okbh6.ex nwh39.1
  have okbh11 := okbh11.ex nwh39.1
  have okbh16 := okbh16.ex nwh39.1
  have okbh21 := okbh21.ex nwh39.1
  have okbh26 := okbh26.ex nwh39.1
  have okbh31 := okbh31.ex nwh39.1
  have okbh36 := okbh36.ex nwh39.1
  refine y_putF rfl (pc := 95) dX11_init_95 FRX11_60 okl0 okbh39 (fun h41 eh41 nxh41 => ?_)
  have hwp := hwp h41 eh41
  have hex := hex.tr nxh41.1
  have hnn := nxh41.2.1.trans hnn
  have hzz := nxh41.2.2.trans hzz
  have okl0 := okl0.ex nxh41.1
  have okbh1 := okbh1.ex nxh41.1
  have okbh6 := okbh6.ex nxh41.1
  have okbh11 := okbh11.ex nxh41.1
  have okbh16 := okbh16.ex nxh41.1
  have okbh21 := okbh21.ex nxh41.1
  have okbh26 := okbh26.ex nxh41.1
  have okbh31 := okbh31.ex nxh41.1
  have okbh36 := okbh36.ex nxh41.1
  have okbh39 := okbh39.ex nxh41.1
  refine x_aload_n (pc := 98) dX11_init_98 rfl ?_
  refine x_bipush (v := 10) (pc := 99) dX11_init_99 (by decide) ?_
  obtain ⟨m43, hwp⟩ := hwp
  refine y_newa (t := 14) (N := 10) (t0 := 1) (ty := .int) (pc := 101) dX11_init_101 rfl (by decide) wk_ac_int (by decide) (by decide) (by decide) (q_C hnn hzz (by decide) (by decide)) m43 (fun h42 eh42 nwh42 okbh42 => ?_)
  have hwp := hwp h42 eh42
  have hex := hex.tr nwh42.1
  have hnn : qn h42 = qn h + 25 := by have := nwh42.2.1; omega
  have hzz : qz h42 = qz h + 3916 := by have := nwh42.2.2; omega
  have okl0 := okl0.ex nwh42.1
  have okbh1 := okbh1.ex nwh42.1
  have okbh6 := okbh6.ex nwh42.1
  have okbh11 := okbh11.ex nwh42.1
  have okbh16 := okbh16.ex nwh42.1
  have okbh21 := okbh21.ex nwh42.1
  have okbh26 := okbh26.ex nwh42.1
  have okbh31 := okbh31.ex nwh42.1
  have okbh36 := okbh36.ex nwh42.1
  have okbh39 := okbh39.ex nwh42.1
  refine y_putF rfl (pc := 103) dX11_init_103 FRX11_66 okl0 okbh42 (fun h44 eh44 nxh44 => ?_)
  have hwp := hwp h44 eh44
  have hex := hex.tr nxh44.1
  have hnn := nxh44.2.1.trans hnn
  have hzz := nxh44.2.2.trans hzz
  have okl0 := okl0.ex nxh44.1
  have okbh1 := okbh1.ex nxh44.1
  have okbh6 := okbh6.ex nxh44.1
  have okbh11 := okbh11.ex nxh44.1
  have okbh16 := okbh16.ex nxh44.1
  have okbh21 := okbh21.ex nxh44.1
  have okbh26 := okbh26.ex nxh44.1
  have okbh31 := okbh31.ex nxh44.1
  have okbh36 := okbh36.ex nxh44.1
  have okbh39 := okbh39.ex nxh44.1
  have okbh42 := okbh42.ex nxh44.1
  refine x_aload_n (pc := 106) dX11_init_106 rfl ?_
  obtain ⟨m46, hwp⟩ := hwp
  refine y_new (ty := tyX1) (pc := 107) dX11_init_107 qc_1 tyX1_ok (by decide +kernel) cRX11_54 wk_in_ForeverOffice_Drawing wk_it_ForeverOffice_Drawing (q_C hnn hzz (by decide) (by decide)) m46 (fun h45 eh45 nwh45 okbh45 => ?_)
  have hwp := hwp h45 eh45
  have hex := hex.tr nwh45.1
  have hnn : qn h45 = qn h + 26 := by have := nwh45.2.1; omega
  have hzz : qz h45 = qz h + 3920 := by have := nwh45.2.2; omega
  have okl0 := okl0.ex nwh45.1
  have okbh1 := okbh1.ex nwh45.1
  have okbh6 := okbh6.ex nwh45.1
  have okbh11 := okbh11.ex nwh45.1
  have okbh16 := okbh16.ex nwh45.1
  have okbh21 := okbh21.ex nwh45.1
  have okbh26 := okbh26.ex nwh45.1
  have okbh31 := okbh31.ex nwh45.1
  have okbh36 := okbh36.ex nwh45.1
  have okbh39 := okbh39.ex nwh45.1
  have okbh42 := okbh42.ex nwh45.1
  refine x_dup (pc := 110) dX11_init_110 rfl ?_
  refine x_invI (As := []) (st := [.ref (qn h44), .ref l0]) (pc := 111) dX11_init_111 (Or.inl lRX11_69) fX1_init rfl rfl iX1_init rfl (Nat.le_of_ble_eq_true rfl) (q_R (by omega) (by decide)) (q_C hnn hzz (by decide) (by decide)) (sn_X1_init G (d + 0) (qn h44) h45 _ okbh45 hwp) (k_v (fun h47 hwp cxh47 => ?_))
  have hex := hex.tr cxh47.1
  have hnn : qn h47 = qn h + 39 := by have := cxh47.2.1; omega
  have hzz : qz h47 = qz h + 4052 := by have := cxh47.2.2; omega
  have okl0 := okl0.ex cxh47.1
  have okbh1 := okbh1.ex cxh47.1
  have okbh6 := okbh6.ex cxh47.1
  have okbh11 := okbh11.ex cxh47.1
  have okbh16 := okbh16.ex cxh47.1
  have okbh21 := okbh21.ex cxh47.1
  have okbh26 := okbh26.ex cxh47.1
  have okbh31 := okbh31.ex cxh47.1
  have okbh36 := okbh36.ex cxh47.1
  have okbh39 := okbh39.ex cxh47.1
  have okbh42 := okbh42.ex cxh47.1
  have okbh45 := okbh45.ex cxh47.1
  refine y_putR (pc := 114) dX11_init_114 qRX11_70 okl0 okbh45 (fun h49 eh49 nxh49 => ?_)
  have hwp := hwp h49 eh49
  have hex := hex.tr nxh49.1
  have hnn := nxh49.2.1.trans hnn
  have hzz := nxh49.2.2.trans hzz
  have okl0 := okl0.ex nxh49.1
  have okbh1 := okbh1.ex nxh49.1
  have okbh6 := okbh6.ex nxh49.1
  have okbh11 := okbh11.ex nxh49.1
  have okbh16 := okbh16.ex nxh49.1
  have okbh21 := okbh21.ex nxh49.1
  have okbh26 := okbh26.ex nxh49.1
  have okbh31 := okbh31.ex nxh49.1
  have okbh36 := okbh36.ex nxh49.1
  have okbh39 := okbh39.ex nxh49.1
  have okbh42 := okbh42.ex nxh49.1
  have okbh45 := okbh45.ex nxh49.1
  refine x_aload_n (pc := 117) dX11_init_117 rfl ?_
  obtain ⟨m51, hwp⟩ := hwp
  refine y_new (ty := tyX1) (pc := 118) dX11_init_118 qc_1 tyX1_ok (by decide +kernel) cRX11_54 wk_in_ForeverOffice_Drawing wk_it_ForeverOffice_Drawing (q_C hnn hzz (by decide) (by decide)) m51 (fun h50 eh50 nwh50 okbh50 => ?_)
  have hwp := hwp h50 eh50
  have hex := hex.tr nwh50.1
  have hnn : qn h50 = qn h + 40 := by have := nwh50.2.1; omega
  have hzz : qz h50 = qz h + 4056 := by have := nwh50.2.2; omega
  have okl0 := okl0.ex nwh50.1
  have okbh1 := okbh1.ex nwh50.1
  have okbh6 := okbh6.ex nwh50.1
  have okbh11 := okbh11.ex nwh50.1
  have okbh16 := okbh16.ex nwh50.1
  have okbh21 := okbh21.ex nwh50.1
  have okbh26 := okbh26.ex nwh50.1
  have okbh31 := okbh31.ex nwh50.1
  have okbh36 := okbh36.ex nwh50.1
  have okbh39 := okbh39.ex nwh50.1
  have okbh42 := okbh42.ex nwh50.1
  have okbh45 := okbh45.ex nwh50.1
  refine x_dup (pc := 121) dX11_init_121 rfl ?_
  refine x_invI (As := []) (st := [.ref (qn h49), .ref l0]) (pc := 122) dX11_init_122 (Or.inl lRX11_69) fX1_init rfl rfl iX1_init rfl (Nat.le_of_ble_eq_true rfl) (q_R (by omega) (by decide)) (q_C hnn hzz (by decide) (by decide)) (sn_X1_init G (d + 0) (qn h49) h50 _ okbh50 hwp) (k_v (fun h52 hwp cxh52 => ?_))
  have hex := hex.tr cxh52.1
  have hnn : qn h52 = qn h + 53 := by have := cxh52.2.1; omega
  have hzz : qz h52 = qz h + 4188 := by have := cxh52.2.2; omega
  have okl0 := okl0.ex cxh52.1
  have okbh1 := okbh1.ex cxh52.1
  have okbh6 := okbh6.ex cxh52.1
  have okbh11 := okbh11.ex cxh52.1
  have okbh16 := okbh16.ex cxh52.1
  have okbh21 := okbh21.ex cxh52.1
  have okbh26 := okbh26.ex cxh52.1
  have okbh31 := okbh31.ex cxh52.1
  have okbh36 := okbh36.ex cxh52.1
  have okbh39 := okbh39.ex cxh52.1
  have okbh42 := okbh42.ex cxh52.1
  have okbh45 := okbh45.ex cxh52.1
  have okbh50 := okbh50.ex cxh52.1
  refine y_putR (pc := 125) dX11_init_125 qRX11_74 okl0 okbh50 (fun h54 eh54 nxh54 => ?_)
  have hwp := hwp h54 eh54
  have hex := hex.tr nxh54.1
  have hnn := nxh54.2.1.trans hnn
  have hzz := nxh54.2.2.trans hzz
  have okl0 := okl0.ex nxh54.1
  have okbh1 := okbh1.ex nxh54.1
  have okbh6 := okbh6.ex nxh54.1
  have okbh11 := okbh11.ex nxh54.1
  have okbh16 := okbh16.ex nxh54.1
  have okbh21 := okbh21.ex nxh54.1
  have okbh26 := okbh26.ex nxh54.1
  have okbh31 := okbh31.ex nxh54.1
  have okbh36 := okbh36.ex nxh54.1
  have okbh39 := okbh39.ex nxh54.1
  have okbh42 := okbh42.ex nxh54.1
  have okbh45 := okbh45.ex nxh54.1
  have okbh50 := okbh50.ex nxh54.1
  refine x_aload_n (pc := 128) dX11_init_128 rfl ?_
  obtain ⟨m56, hwp⟩ := hwp
  refine y_new (ty := tyX0) (pc := 129) dX11_init_129 qc_0 tyX0_ok (by decide +kernel) cRX11_77 wk_in_ForeverOffice_Claim wk_it_ForeverOffice_Claim (q_C hnn hzz (by decide) (by decide)) m56 (fun h55 eh55 nwh55 okbh55 => ?_)
  have hwp := hwp h55 eh55
  have hex := hex.tr nwh55.1
  have hnn : qn h55 = qn h + 54 := by have := nwh55.2.1; omega
  have hzz : qz h55 = qz h + 4195 := by have := nwh55.2.2; omega
  have okl0 := okl0.ex nwh55.1
  have okbh1 := okbh1.ex nwh55.1
  have okbh6 := okbh6.ex nwh55.1
  have okbh11 := okbh11.ex nwh55.1
  have okbh16 := okbh16.ex nwh55.1
  have okbh21 := okbh21.ex nwh55.1
  have okbh26 := okbh26.ex nwh55.1
  have okbh31 := okbh31.ex nwh55.1
  have okbh36 := okbh36.ex nwh55.1
  have okbh39 := okbh39.ex nwh55.1
  have okbh42 := okbh42.ex nwh55.1
  have okbh45 := okbh45.ex nwh55.1
  have okbh50 := okbh50.ex nwh55.1
  refine x_dup (pc := 132) dX11_init_132 rfl ?_
  refine x_invI (As := []) (st := [.ref (qn h54), .ref l0]) (pc := 133) dX11_init_133 lRX11_79 fX0_init rfl rfl iX0_init rfl (Nat.le_of_ble_eq_true rfl) (q_R (by omega) (by decide)) (q_C hnn hzz (by decide) (by decide)) (sn_X0_init G (d + 1) (qn h54) h55 _ okbh55 hwp) (k_v (fun h57 hwp cxh57 => ?_))
  have hex := hex.tr cxh57.1
  have hnn : qn h57 = qn h + 58 := by have := cxh57.2.1; omega
  have hzz : qz h57 = qz h + 4355 := by have := cxh57.2.2; omega
  have okl0 := okl0.ex cxh57.1
  have okbh1 := okbh1.ex cxh57.1
  have okbh6 := okbh6.ex cxh57.1
  have okbh11 := okbh11.ex cxh57.1
  have okbh16 := okbh16.ex cxh57.1
  have okbh21 := okbh21.ex cxh57.1
  have okbh26 := okbh26.ex cxh57.1
  have okbh31 := okbh31.ex cxh57.1
  have okbh36 := okbh36.ex cxh57.1
  have okbh39 := okbh39.ex cxh57.1
  have okbh42 := okbh42.ex cxh57.1
  have okbh45 := okbh45.ex cxh57.1
  have okbh50 := okbh50.ex cxh57.1
  have okbh55 := okbh55.ex cxh57.1
  refine y_putR (pc := 136) dX11_init_136 qRX11_80 okl0 okbh55 (fun h59 eh59 nxh59 => ?_)
  have hwp := hwp h59 eh59
  have hex := hex.tr nxh59.1
  have hnn := nxh59.2.1.trans hnn
  have hzz := nxh59.2.2.trans hzz
  have okl0 := okl0.ex nxh59.1
  have okbh1 := okbh1.ex nxh59.1
  have okbh6 := okbh6.ex nxh59.1
  have okbh11 := okbh11.ex nxh59.1
  have okbh16 := okbh16.ex nxh59.1
  have okbh21 := okbh21.ex nxh59.1
  have okbh26 := okbh26.ex nxh59.1
  have okbh31 := okbh31.ex nxh59.1
  have okbh36 := okbh36.ex nxh59.1
  have okbh39 := okbh39.ex nxh59.1
  have okbh42 := okbh42.ex nxh59.1
  have okbh45 := okbh45.ex nxh59.1
  have okbh50 := okbh50.ex nxh59.1
  have okbh55 := okbh55.ex nxh59.1
  refine x_aload_n (pc := 139) dX11_init_139 rfl ?_
  obtain ⟨m61, hwp⟩ := hwp
  refine y_new (ty := tyX0) (pc := 140) dX11_init_140 qc_0 tyX0_ok (by decide +kernel) cRX11_77 wk_in_ForeverOffice_Claim wk_it_ForeverOffice_Claim (q_C hnn hzz (by decide) (by decide)) m61 (fun h60 eh60 nwh60 okbh60 => ?_)
  have hwp := hwp h60 eh60
  have hex := hex.tr nwh60.1
  have hnn : qn h60 = qn h + 59 := by have := nwh60.2.1; omega
  have hzz : qz h60 = qz h + 4362 := by have := nwh60.2.2; omega
  have okl0 := okl0.ex nwh60.1
  have okbh1 := okbh1.ex nwh60.1
  have okbh6 := okbh6.ex nwh60.1
  have okbh11 := okbh11.ex nwh60.1
  have okbh16 := okbh16.ex nwh60.1
  have okbh21 := okbh21.ex nwh60.1
  have okbh26 := okbh26.ex nwh60.1
  have okbh31 := okbh31.ex nwh60.1
  have okbh36 := okbh36.ex nwh60.1
  have okbh39 := okbh39.ex nwh60.1
  have okbh42 := okbh42.ex nwh60.1
  have okbh45 := okbh45.ex nwh60.1
  have okbh50 := okbh50.ex nwh60.1
  have okbh55 := okbh55.ex nwh60.1
  refine x_dup (pc := 143) dX11_init_143 rfl ?_
  refine x_invI (As := []) (st := [.ref (qn h59), .ref l0]) (pc := 144) dX11_init_144 lRX11_79 fX0_init rfl rfl iX0_init rfl (Nat.le_of_ble_eq_true rfl) (q_R (by omega) (by decide)) (q_C hnn hzz (by decide) (by decide)) (sn_X0_init G (d + 1) (qn h59) h60 _ okbh60 hwp) (k_v (fun h62 hwp cxh62 => ?_))
  have hex := hex.tr cxh62.1
  have hnn : qn h62 = qn h + 63 := by have := cxh62.2.1; omega
  have hzz : qz h62 = qz h + 4522 := by have := cxh62.2.2; omega
  have okl0 := okl0.ex cxh62.1
  have okbh1 := okbh1.ex cxh62.1
  have okbh6 := okbh6.ex cxh62.1
  have okbh11 := okbh11.ex cxh62.1
  have okbh16 := okbh16.ex cxh62.1
  have okbh21 := okbh21.ex cxh62.1
  have okbh26 := okbh26.ex cxh62.1
  have okbh31 := okbh31.ex cxh62.1
  have okbh36 := okbh36.ex cxh62.1
  have okbh39 := okbh39.ex cxh62.1
  have okbh42 := okbh42.ex cxh62.1
  have okbh45 := okbh45.ex cxh62.1
  have okbh50 := okbh50.ex cxh62.1
  have okbh55 := okbh55.ex cxh62.1
  have okbh60 := okbh60.ex cxh62.1
  refine y_putR (pc := 147) dX11_init_147 qRX11_84 okl0 okbh60 (fun h64 eh64 nxh64 => ?_)
  have hwp := hwp h64 eh64
  have hex := hex.tr nxh64.1
  have hnn := nxh64.2.1.trans hnn
  have hzz := nxh64.2.2.trans hzz
  have okl0 := okl0.ex nxh64.1
  have okbh1 := okbh1.ex nxh64.1
  have okbh6 := okbh6.ex nxh64.1
  have okbh11 := okbh11.ex nxh64.1
  have okbh16 := okbh16.ex nxh64.1
  have okbh21 := okbh21.ex nxh64.1
  have okbh26 := okbh26.ex nxh64.1
  have okbh31 := okbh31.ex nxh64.1
  have okbh36 := okbh36.ex nxh64.1
  have okbh39 := okbh39.ex nxh64.1
  have okbh42 := okbh42.ex nxh64.1
  have okbh45 := okbh45.ex nxh64.1
  have okbh50 := okbh50.ex nxh64.1
  have okbh55 := okbh55.ex nxh64.1
  have okbh60 := okbh60.ex nxh64.1
  refine x_aload_n (pc := 150) dX11_init_150 rfl ?_
  obtain ⟨m66, hwp⟩ := hwp
  refine y_new (ty := tyX3) (pc := 151) dX11_init_151 qc_3 tyX3_ok (by decide +kernel) cRX11_64 wk_in_ForeverOffice_Inventor wk_it_ForeverOffice_Inventor (q_C hnn hzz (by decide) (by decide)) m66 (fun h65 eh65 nwh65 okbh65 => ?_)
  have hwp := hwp h65 eh65
  have hex := hex.tr nwh65.1
  have hnn : qn h65 = qn h + 64 := by have := nwh65.2.1; omega
  have hzz : qz h65 = qz h + 4525 := by have := nwh65.2.2; omega
  have okl0 := okl0.ex nwh65.1
  have okbh1 := okbh1.ex nwh65.1
  have okbh6 := okbh6.ex nwh65.1
  have okbh11 := okbh11.ex nwh65.1
  have okbh16 := okbh16.ex nwh65.1
  have okbh21 := okbh21.ex nwh65.1
  have okbh26 := okbh26.ex nwh65.1
  have okbh31 := okbh31.ex nwh65.1
  have okbh36 := okbh36.ex nwh65.1
  have okbh39 := okbh39.ex nwh65.1
  have okbh42 := okbh42.ex nwh65.1
  have okbh45 := okbh45.ex nwh65.1
  have okbh50 := okbh50.ex nwh65.1
  have okbh55 := okbh55.ex nwh65.1
  have okbh60 := okbh60.ex nwh65.1
  refine x_dup (pc := 154) dX11_init_154 rfl ?_
  refine x_invI (As := []) (st := [.ref (qn h64), .ref l0]) (pc := 155) dX11_init_155 (Or.inl lRX11_87) fX3_init rfl rfl iX3_init rfl (Nat.le_of_ble_eq_true rfl) (q_R (by omega) (by decide)) (q_C hnn hzz (by decide) (by decide)) (sn_X3_init G (d + 1) (qn h64) h65 _ okbh65 hwp) (k_v (fun h67 hwp cxh67 => ?_))
  have hex := hex.tr cxh67.1
  have hnn : qn h67 = qn h + 66 := by have := cxh67.2.1; omega
  have hzz : qz h67 = qz h + 4605 := by have := cxh67.2.2; omega
  have okl0 := okl0.ex cxh67.1
  have okbh1 := okbh1.ex cxh67.1
  have okbh6 := okbh6.ex cxh67.1
  have okbh11 := okbh11.ex cxh67.1
  have okbh16 := okbh16.ex cxh67.1
  have okbh21 := okbh21.ex cxh67.1
  have okbh26 := okbh26.ex cxh67.1
  have okbh31 := okbh31.ex cxh67.1
  have okbh36 := okbh36.ex cxh67.1
  have okbh39 := okbh39.ex cxh67.1
  have okbh42 := okbh42.ex cxh67.1
  have okbh45 := okbh45.ex cxh67.1
  have okbh50 := okbh50.ex cxh67.1
  have okbh55 := okbh55.ex cxh67.1
  have okbh60 := okbh60.ex cxh67.1
  have okbh65 := okbh65.ex cxh67.1
  refine y_putR (pc := 158) dX11_init_158 qRX11_88 okl0 okbh65 (fun h69 eh69 nxh69 => ?_)
  have hwp := hwp h69 eh69
  have hex := hex.tr nxh69.1
  have hnn := nxh69.2.1.trans hnn
  have hzz := nxh69.2.2.trans hzz
  have okl0 := okl0.ex nxh69.1
  have okbh1 := okbh1.ex nxh69.1
  have okbh6 := okbh6.ex nxh69.1
  have okbh11 := okbh11.ex nxh69.1
  have okbh16 := okbh16.ex nxh69.1
  have okbh21 := okbh21.ex nxh69.1
  have okbh26 := okbh26.ex nxh69.1
  have okbh31 := okbh31.ex nxh69.1
  have okbh36 := okbh36.ex nxh69.1
  have okbh39 := okbh39.ex nxh69.1
  have okbh42 := okbh42.ex nxh69.1
  have okbh45 := okbh45.ex nxh69.1
  have okbh50 := okbh50.ex nxh69.1
  have okbh55 := okbh55.ex nxh69.1
  have okbh60 := okbh60.ex nxh69.1
  have okbh65 := okbh65.ex nxh69.1
  refine x_aload_n (pc := 161) dX11_init_161 rfl ?_
  obtain ⟨m71, hwp⟩ := hwp
  refine y_new (ty := tyX3) (pc := 162) dX11_init_162 qc_3 tyX3_ok (by decide +kernel) cRX11_64 wk_in_ForeverOffice_Inventor wk_it_ForeverOffice_Inventor (q_C hnn hzz (by decide) (by decide)) m71 (fun h70 eh70 nwh70 okbh70 => ?_)
  have hwp := hwp h70 eh70
  have hex := hex.tr nwh70.1
  have hnn : qn h70 = qn h + 67 := by have := nwh70.2.1; omega
  have hzz : qz h70 = qz h + 4608 := by have := nwh70.2.2; omega
  have okl0 := okl0.ex nwh70.1
  have okbh1 := okbh1.ex nwh70.1
  have okbh6 := okbh6.ex nwh70.1
  have okbh11 := okbh11.ex nwh70.1
  have okbh16 := okbh16.ex nwh70.1
  have okbh21 := okbh21.ex nwh70.1
  have okbh26 := okbh26.ex nwh70.1
  have okbh31 := okbh31.ex nwh70.1
  have okbh36 := okbh36.ex nwh70.1
  have okbh39 := okbh39.ex nwh70.1
  have okbh42 := okbh42.ex nwh70.1
  have okbh45 := okbh45.ex nwh70.1
  have okbh50 := okbh50.ex nwh70.1
  have okbh55 := okbh55.ex nwh70.1
  have okbh60 := okbh60.ex nwh70.1
  have okbh65 := okbh65.ex nwh70.1
  refine x_dup (pc := 165) dX11_init_165 rfl ?_
  refine x_invI (As := []) (st := [.ref (qn h69), .ref l0]) (pc := 166) dX11_init_166 (Or.inl lRX11_87) fX3_init rfl rfl iX3_init rfl (Nat.le_of_ble_eq_true rfl) (q_R (by omega) (by decide)) (q_C hnn hzz (by decide) (by decide)) (sn_X3_init G (d + 1) (qn h69) h70 _ okbh70 hwp) (k_v (fun h72 hwp cxh72 => ?_))
  have hex := hex.tr cxh72.1
  have hnn : qn h72 = qn h + 69 := by have := cxh72.2.1; omega
  have hzz : qz h72 = qz h + 4688 := by have := cxh72.2.2; omega
  have okl0 := okl0.ex cxh72.1
  have okbh1 := okbh1.ex cxh72.1
  have okbh6 := okbh6.ex cxh72.1
  have okbh11 := okbh11.ex cxh72.1
  have okbh16 := okbh16.ex cxh72.1
  have okbh21 := okbh21.ex cxh72.1
  have okbh26 := okbh26.ex cxh72.1
  have okbh31 := okbh31.ex cxh72.1
  have okbh36 := okbh36.ex cxh72.1
  have okbh39 := okbh39.ex cxh72.1
  have okbh42 := okbh42.ex cxh72.1
  have okbh45 := okbh45.ex cxh72.1
  have okbh50 := okbh50.ex cxh72.1
  have okbh55 := okbh55.ex cxh72.1
  have okbh60 := okbh60.ex cxh72.1
  have okbh65 := okbh65.ex cxh72.1
  have okbh70 := okbh70.ex cxh72.1
  refine y_putR (pc := 169) dX11_init_169 qRX11_92 okl0 okbh70 (fun h74 eh74 nxh74 => ?_)
  have hwp := hwp h74 eh74
  have hex := hex.tr nxh74.1
  have hnn := nxh74.2.1.trans hnn
  have hzz := nxh74.2.2.trans hzz
  have okl0 := okl0.ex nxh74.1
  have okbh1 := okbh1.ex nxh74.1
  have okbh6 := okbh6.ex nxh74.1
  have okbh11 := okbh11.ex nxh74.1
  have okbh16 := okbh16.ex nxh74.1
  have okbh21 := okbh21.ex nxh74.1
  have okbh26 := okbh26.ex nxh74.1
  have okbh31 := okbh31.ex nxh74.1
  have okbh36 := okbh36.ex nxh74.1
  have okbh39 := okbh39.ex nxh74.1
  have okbh42 := okbh42.ex nxh74.1
  have okbh45 := okbh45.ex nxh74.1
  have okbh50 := okbh50.ex nxh74.1
  have okbh55 := okbh55.ex nxh74.1
  have okbh60 := okbh60.ex nxh74.1
  have okbh65 := okbh65.ex nxh74.1
  have okbh70 := okbh70.ex nxh74.1
  refine x_aload_n (pc := 172) dX11_init_172 rfl ?_
  refine x_iconst (v := 0) (pc := 173) dX11_init_173 (by decide) ?_
  refine y_putI (pc := 174) dX11_init_174 qRX11_95 okl0 (fun h75 eh75 nxh75 => ?_)
  have hwp := hwp h75 eh75
  have hex := hex.tr nxh75.1
  have hnn := nxh75.2.1.trans hnn
  have hzz := nxh75.2.2.trans hzz
  have okl0 := okl0.ex nxh75.1
  have okbh1 := okbh1.ex nxh75.1
  have okbh6 := okbh6.ex nxh75.1
  have okbh11 := okbh11.ex nxh75.1
  have okbh16 := okbh16.ex nxh75.1
  have okbh21 := okbh21.ex nxh75.1
  have okbh26 := okbh26.ex nxh75.1
  have okbh31 := okbh31.ex nxh75.1
  have okbh36 := okbh36.ex nxh75.1
  have okbh39 := okbh39.ex nxh75.1
  have okbh42 := okbh42.ex nxh75.1
  have okbh45 := okbh45.ex nxh75.1
  have okbh50 := okbh50.ex nxh75.1
  have okbh55 := okbh55.ex nxh75.1
  have okbh60 := okbh60.ex nxh75.1
  have okbh65 := okbh65.ex nxh75.1
  have okbh70 := okbh70.ex nxh75.1
  refine x_aload_n (pc := 177) dX11_init_177 rfl ?_
  refine x_iconst (v := 0) (pc := 178) dX11_init_178 (by decide) ?_
  refine y_putI (pc := 179) dX11_init_179 qRX11_99 okl0 (fun h76 eh76 nxh76 => ?_)
  have hwp := hwp h76 eh76
  have hex := hex.tr nxh76.1
  have hnn := nxh76.2.1.trans hnn
  have hzz := nxh76.2.2.trans hzz
  have okl0 := okl0.ex nxh76.1
  have okbh1 := okbh1.ex nxh76.1
  have okbh6 := okbh6.ex nxh76.1
  have okbh11 := okbh11.ex nxh76.1
  have okbh16 := okbh16.ex nxh76.1
  have okbh21 := okbh21.ex nxh76.1
  have okbh26 := okbh26.ex nxh76.1
  have okbh31 := okbh31.ex nxh76.1
  have okbh36 := okbh36.ex nxh76.1
  have okbh39 := okbh39.ex nxh76.1
  have okbh42 := okbh42.ex nxh76.1
  have okbh45 := okbh45.ex nxh76.1
  have okbh50 := okbh50.ex nxh76.1
  have okbh55 := okbh55.ex nxh76.1
  have okbh60 := okbh60.ex nxh76.1
  have okbh65 := okbh65.ex nxh76.1
  have okbh70 := okbh70.ex nxh76.1
  exact x_vret (pc := 182) dX11_init_182 rfl hex hnn hzz ⟨rfl, hwp⟩

theorem dX11_feed_0 : decode cX11_feed 0 = .ok (.aload_n 0, 1) := by decide +kernel
theorem dX11_feed_1 : decode cX11_feed 1 = .ok (.getfield 10, 3) := by decide +kernel
theorem dX11_feed_4 : decode cX11_feed 4 = .ok (.getfield 102, 3) := by decide +kernel
theorem dX11_feed_7 : decode cX11_feed 7 = .ok (.bipush 20, 2) := by decide +kernel
theorem dX11_feed_9 : decode cX11_feed 9 = .ok (.iadd, 1) := by decide +kernel
theorem dX11_feed_10 : decode cX11_feed 10 = .ok (.sipush 640, 3) := by decide +kernel
theorem dX11_feed_13 : decode cX11_feed 13 = .ok (.if_icmp .le 5, 3) := by decide +kernel
theorem dX11_feed_16 : decode cX11_feed 16 = .ok (.iconst (-1), 1) := by decide +kernel
theorem dX11_feed_17 : decode cX11_feed 17 = .ok (.ireturn, 1) := by decide +kernel
theorem dX11_feed_18 : decode cX11_feed 18 = .ok (.aload_n 0, 1) := by decide +kernel
theorem dX11_feed_19 : decode cX11_feed 19 = .ok (.getfield 10, 3) := by decide +kernel
theorem dX11_feed_22 : decode cX11_feed 22 = .ok (.iload_n 1, 1) := by decide +kernel
theorem dX11_feed_23 : decode cX11_feed 23 = .ok (.invokevirtual 105, 3) := by decide +kernel
theorem dX11_feed_26 : decode cX11_feed 26 = .ok (.aload_n 0, 1) := by decide +kernel
theorem dX11_feed_27 : decode cX11_feed 27 = .ok (.getfield 10, 3) := by decide +kernel
theorem dX11_feed_30 : decode cX11_feed 30 = .ok (.iload_n 2, 1) := by decide +kernel
theorem dX11_feed_31 : decode cX11_feed 31 = .ok (.invokevirtual 105, 3) := by decide +kernel
theorem dX11_feed_34 : decode cX11_feed 34 = .ok (.aload_n 0, 1) := by decide +kernel
theorem dX11_feed_35 : decode cX11_feed 35 = .ok (.getfield 10, 3) := by decide +kernel
theorem dX11_feed_38 : decode cX11_feed 38 = .ok (.iload_n 3, 1) := by decide +kernel
theorem dX11_feed_39 : decode cX11_feed 39 = .ok (.invokevirtual 105, 3) := by decide +kernel
theorem dX11_feed_42 : decode cX11_feed 42 = .ok (.aload_n 0, 1) := by decide +kernel
theorem dX11_feed_43 : decode cX11_feed 43 = .ok (.getfield 10, 3) := by decide +kernel
theorem dX11_feed_46 : decode cX11_feed 46 = .ok (.iload 4, 2) := by decide +kernel
theorem dX11_feed_48 : decode cX11_feed 48 = .ok (.invokevirtual 105, 3) := by decide +kernel
theorem dX11_feed_51 : decode cX11_feed 51 = .ok (.aload_n 0, 1) := by decide +kernel
theorem dX11_feed_52 : decode cX11_feed 52 = .ok (.getfield 10, 3) := by decide +kernel
theorem dX11_feed_55 : decode cX11_feed 55 = .ok (.iload 5, 2) := by decide +kernel
theorem dX11_feed_57 : decode cX11_feed 57 = .ok (.invokevirtual 105, 3) := by decide +kernel
theorem dX11_feed_60 : decode cX11_feed 60 = .ok (.aload_n 0, 1) := by decide +kernel
theorem dX11_feed_61 : decode cX11_feed 61 = .ok (.getfield 10, 3) := by decide +kernel
theorem dX11_feed_64 : decode cX11_feed 64 = .ok (.getfield 102, 3) := by decide +kernel
theorem dX11_feed_67 : decode cX11_feed 67 = .ok (.ireturn, 1) := by decide +kernel
def wp_X11_feed (l0 : Nat) (l1 : Int32) (l2 : Int32) (l3 : Int32) (l4 : Int32) (l5 : Int32) (h : PH) (Q : Int32 → PH → Prop) : Prop := (∃ b1, qR h l0 0 = some b1 ∧ ((((qI h b1 1) + 20) ≤ 640 → (∃ b4, qR h l0 0 = some b4 ∧ (wp_X6_append b4 l1 h (fun h6 => (∃ b8, qR h6 l0 0 = some b8 ∧ (wp_X6_append b8 l2 h6 (fun h10 => (∃ b12, qR h10 l0 0 = some b12 ∧ (wp_X6_append b12 l3 h10 (fun h14 => (∃ b16, qR h14 l0 0 = some b16 ∧ (wp_X6_append b16 l4 h14 (fun h18 => (∃ b20, qR h18 l0 0 = some b20 ∧ (wp_X6_append b20 l5 h18 (fun h22 => (∃ b24, qR h22 l0 0 = some b24 ∧ Q (qI h22 b24 1) h22))))))))))))))))) ∧ (¬ (((qI h b1 1) + 20) ≤ 640) → Q (-1) h)))
set_option maxHeartbeats 4000000 in
set_option maxRecDepth 100000 in
theorem sn_X11_feed (G : GT) (d : Nat) (l0 : Nat) (l1 : Int32) (l2 : Int32) (l3 : Int32) (l4 : Int32) (l5 : Int32) (h : PH) (Q : Int32 → PH → Prop) (okl0 : qOK h 10 l0) (hwp : wp_X11_feed l0 l1 l2 l3 l4 l5 h Q) : Mt G (1 + d) 0 0 mX11_feed [.ref l0, .int l1, .int l2, .int l3, .int l4, .int l5] h (qqi Q) := by
  unfold wp_X11_feed at hwp
  refine Mt.of (by decide) rfl (Nat.le_of_ble_eq_true rfl) ?_
  have hex := qEx.rf h
  have hnn : qn h = qn h + 0 := rfl
  have hzz : qz h = qz h + 0 := rfl
  refine x_lvE (lv2 := [(0, .ref l0), (1, .int l1), (2, .int l2), (3, .int l3), (4, .int l4), (5, .int l5)]) rfl ?_
  refine x_aload_n (pc := 0) dX11_feed_0 rfl ?_
  obtain ⟨b1, e2, hwp⟩ := hwp
  refine x_getR (pc := 1) dX11_feed_1 qRX11_10 okl0 e2 (fun okb1 => ?_)
  refine x_getI (pc := 4) dX11_feed_4 qRX11_102 okb1 (by decide) ?_
  refine x_bipush (v := 20) (pc := 7) dX11_feed_7 (by decide) ?_
  refine x_iadd (pc := 9) dX11_feed_9 ?_
  refine x_sipush (v := 640) (pc := 10) dX11_feed_10 (by decide) ?_
  refine x_icmp_le (tgt := 18) (pc := 13) dX11_feed_13 (by decide) (fun c3 => ?_) (fun c3 => ?_)
  · have hwp := hwp.1 c3
    refine x_aload_n (pc := 18) dX11_feed_18 rfl ?_
    obtain ⟨b4, e5, hwp⟩ := hwp
    refine x_getR (pc := 19) dX11_feed_19 qRX11_10 okl0 e5 (fun okb4 => ?_)
    refine x_iload_n (pc := 22) dX11_feed_22 rfl ?_
    refine x_invV (As := [.int l1]) (st := []) (pc := 23) dX11_feed_23 lRX11_105 fX6_append vX6_append okb4 rfl (Nat.le_of_ble_eq_true rfl) (q_R (by omega) (by decide)) (q_C hnn hzz (by decide) (by decide)) (sn_X6_append G (d + 0) b4 l1 h _ okb4 hwp) (k_v (fun h6 hwp cxh6 => ?_))
    have hex := hex.tr cxh6.1
    have hnn : qn h6 = qn h + 0 := by have := cxh6.2.1; omega
    have hzz : qz h6 = qz h + 0 := by have := cxh6.2.2; omega
    have okl0 := okl0.ex cxh6.1
    have okb1 := okb1.ex cxh6.1
    have okb4 := okb4.ex cxh6.1
    refine x_aload_n (pc := 26) dX11_feed_26 rfl ?_
    obtain ⟨b8, e9, hwp⟩ := hwp
    refine x_getR (pc := 27) dX11_feed_27 qRX11_10 okl0 e9 (fun okb8 => ?_)
    refine x_iload_n (pc := 30) dX11_feed_30 rfl ?_
    refine x_invV (As := [.int l2]) (st := []) (pc := 31) dX11_feed_31 lRX11_105 fX6_append vX6_append okb8 rfl (Nat.le_of_ble_eq_true rfl) (q_R (by omega) (by decide)) (q_C hnn hzz (by decide) (by decide)) (sn_X6_append G (d + 0) b8 l2 h6 _ okb8 hwp) (k_v (fun h10 hwp cxh10 => ?_))
    have hex := hex.tr cxh10.1
    have hnn : qn h10 = qn h + 0 := by have := cxh10.2.1; omega
    have hzz : qz h10 = qz h + 0 := by have := cxh10.2.2; omega
    have okl0 := okl0.ex cxh10.1
    have okb1 := okb1.ex cxh10.1
    have okb4 := okb4.ex cxh10.1
    have okb8 := okb8.ex cxh10.1
    refine x_aload_n (pc := 34) dX11_feed_34 rfl ?_
    obtain ⟨b12, e13, hwp⟩ := hwp
    refine x_getR (pc := 35) dX11_feed_35 qRX11_10 okl0 e13 (fun okb12 => ?_)
    refine x_iload_n (pc := 38) dX11_feed_38 rfl ?_
    refine x_invV (As := [.int l3]) (st := []) (pc := 39) dX11_feed_39 lRX11_105 fX6_append vX6_append okb12 rfl (Nat.le_of_ble_eq_true rfl) (q_R (by omega) (by decide)) (q_C hnn hzz (by decide) (by decide)) (sn_X6_append G (d + 0) b12 l3 h10 _ okb12 hwp) (k_v (fun h14 hwp cxh14 => ?_))
    have hex := hex.tr cxh14.1
    have hnn : qn h14 = qn h + 0 := by have := cxh14.2.1; omega
    have hzz : qz h14 = qz h + 0 := by have := cxh14.2.2; omega
    have okl0 := okl0.ex cxh14.1
    have okb1 := okb1.ex cxh14.1
    have okb4 := okb4.ex cxh14.1
    have okb8 := okb8.ex cxh14.1
    have okb12 := okb12.ex cxh14.1
    refine x_aload_n (pc := 42) dX11_feed_42 rfl ?_
    obtain ⟨b16, e17, hwp⟩ := hwp
    refine x_getR (pc := 43) dX11_feed_43 qRX11_10 okl0 e17 (fun okb16 => ?_)
    refine x_iload (pc := 46) dX11_feed_46 rfl ?_
    refine x_invV (As := [.int l4]) (st := []) (pc := 48) dX11_feed_48 lRX11_105 fX6_append vX6_append okb16 rfl (Nat.le_of_ble_eq_true rfl) (q_R (by omega) (by decide)) (q_C hnn hzz (by decide) (by decide)) (sn_X6_append G (d + 0) b16 l4 h14 _ okb16 hwp) (k_v (fun h18 hwp cxh18 => ?_))
    have hex := hex.tr cxh18.1
    have hnn : qn h18 = qn h + 0 := by have := cxh18.2.1; omega
    have hzz : qz h18 = qz h + 0 := by have := cxh18.2.2; omega
    have okl0 := okl0.ex cxh18.1
    have okb1 := okb1.ex cxh18.1
    have okb4 := okb4.ex cxh18.1
    have okb8 := okb8.ex cxh18.1
    have okb12 := okb12.ex cxh18.1
    have okb16 := okb16.ex cxh18.1
    refine x_aload_n (pc := 51) dX11_feed_51 rfl ?_
    obtain ⟨b20, e21, hwp⟩ := hwp
    refine x_getR (pc := 52) dX11_feed_52 qRX11_10 okl0 e21 (fun okb20 => ?_)
    refine x_iload (pc := 55) dX11_feed_55 rfl ?_
    refine x_invV (As := [.int l5]) (st := []) (pc := 57) dX11_feed_57 lRX11_105 fX6_append vX6_append okb20 rfl (Nat.le_of_ble_eq_true rfl) (q_R (by omega) (by decide)) (q_C hnn hzz (by decide) (by decide)) (sn_X6_append G (d + 0) b20 l5 h18 _ okb20 hwp) (k_v (fun h22 hwp cxh22 => ?_))
    have hex := hex.tr cxh22.1
    have hnn : qn h22 = qn h + 0 := by have := cxh22.2.1; omega
    have hzz : qz h22 = qz h + 0 := by have := cxh22.2.2; omega
    have okl0 := okl0.ex cxh22.1
    have okb1 := okb1.ex cxh22.1
    have okb4 := okb4.ex cxh22.1
    have okb8 := okb8.ex cxh22.1
    have okb12 := okb12.ex cxh22.1
    have okb16 := okb16.ex cxh22.1
    have okb20 := okb20.ex cxh22.1
    refine x_aload_n (pc := 60) dX11_feed_60 rfl ?_
    obtain ⟨b24, e25, hwp⟩ := hwp
    refine x_getR (pc := 61) dX11_feed_61 qRX11_10 okl0 e25 (fun okb24 => ?_)
    refine x_getI (pc := 64) dX11_feed_64 qRX11_102 okb24 (by decide) ?_
    exact x_iret (pc := 67) dX11_feed_67 rfl hex hnn hzz ⟨_, rfl, hwp⟩
  · have hwp := hwp.2 c3
    refine x_iconst (v := (-1)) (pc := 16) dX11_feed_16 (by decide) ?_
    exact x_iret (pc := 17) dX11_feed_17 rfl hex hnn hzz ⟨_, rfl, hwp⟩

theorem dX11_end_0 : decode cX11_end 0 = .ok (.iload_n 1, 1) := by decide +kernel
theorem dX11_end_1 : decode cX11_end 1 = .ok (.ifCond .lt 14, 3) := by decide +kernel
theorem dX11_end_4 : decode cX11_end 4 = .ok (.iload_n 1, 1) := by decide +kernel
theorem dX11_end_5 : decode cX11_end 5 = .ok (.aload_n 0, 1) := by decide +kernel
theorem dX11_end_6 : decode cX11_end 6 = .ok (.getfield 10, 3) := by decide +kernel
theorem dX11_end_9 : decode cX11_end 9 = .ok (.getfield 102, 3) := by decide +kernel
theorem dX11_end_12 : decode cX11_end 12 = .ok (.if_icmp .le 5, 3) := by decide +kernel
theorem dX11_end_15 : decode cX11_end 15 = .ok (.iconst 0, 1) := by decide +kernel
theorem dX11_end_16 : decode cX11_end 16 = .ok (.ireturn, 1) := by decide +kernel
theorem dX11_end_17 : decode cX11_end 17 = .ok (.aload_n 0, 1) := by decide +kernel
theorem dX11_end_18 : decode cX11_end 18 = .ok (.getfield 10, 3) := by decide +kernel
theorem dX11_end_21 : decode cX11_end 21 = .ok (.iload_n 1, 1) := by decide +kernel
theorem dX11_end_22 : decode cX11_end 22 = .ok (.putfield 102, 3) := by decide +kernel
theorem dX11_end_25 : decode cX11_end 25 = .ok (.iconst 1, 1) := by decide +kernel
theorem dX11_end_26 : decode cX11_end 26 = .ok (.ireturn, 1) := by decide +kernel
def wp_X11_end (l0 : Nat) (l1 : Int32) (h : PH) (Q : Int32 → PH → Prop) : Prop := ((l1 < 0 → Q 0 h) ∧ (¬ (l1 < 0) → (∃ b2, qR h l0 0 = some b2 ∧ ((l1 ≤ (qI h b2 1) → (∃ b5, qR h l0 0 = some b5 ∧ (∀ h7, h7 = qsI h b5 1 l1 → Q 1 h7))) ∧ (¬ (l1 ≤ (qI h b2 1)) → Q 0 h)))))
set_option maxHeartbeats 4000000 in
set_option maxRecDepth 100000 in
theorem sn_X11_end (G : GT) (d : Nat) (l0 : Nat) (l1 : Int32) (h : PH) (Q : Int32 → PH → Prop) (okl0 : qOK h 10 l0) (hwp : wp_X11_end l0 l1 h Q) : Mt G (0 + d) 0 0 mX11_end [.ref l0, .int l1] h (qqb Q) := by
  unfold wp_X11_end at hwp
  refine Mt.of (by decide) rfl (Nat.le_of_ble_eq_true rfl) ?_
  have hex := qEx.rf h
  have hnn : qn h = qn h + 0 := rfl
  have hzz : qz h = qz h + 0 := rfl
  refine x_lvE (lv2 := [(0, .ref l0), (1, .int l1)]) rfl ?_
  refine x_iload_n (pc := 0) dX11_end_0 rfl ?_
  refine x_if_lt (tgt := 15) (pc := 1) dX11_end_1 (by decide) (fun c1 => ?_) (fun c1 => ?_)
  · have hwp := hwp.1 c1
    refine x_iconst (v := 0) (pc := 15) dX11_end_15 (by decide) ?_
    exact x_zret (pc := 16) dX11_end_16 rfl hex hnn hzz (by decide) ⟨_, rfl, by decide, hwp⟩
  · have hwp := hwp.2 c1
    refine x_iload_n (pc := 4) dX11_end_4 rfl ?_
    refine x_aload_n (pc := 5) dX11_end_5 rfl ?_
    obtain ⟨b2, e3, hwp⟩ := hwp
    refine x_getR (pc := 6) dX11_end_6 qRX11_10 okl0 e3 (fun okb2 => ?_)
    refine x_getI (pc := 9) dX11_end_9 qRX11_102 okb2 (by decide) ?_
    refine x_icmp_le (tgt := 17) (pc := 12) dX11_end_12 (by decide) (fun c4 => ?_) (fun c4 => ?_)
    · have hwp := hwp.1 c4
      refine x_aload_n (pc := 17) dX11_end_17 rfl ?_
      obtain ⟨b5, e6, hwp⟩ := hwp
      refine x_getR (pc := 18) dX11_end_18 qRX11_10 okl0 e6 (fun okb5 => ?_)
      refine x_iload_n (pc := 21) dX11_end_21 rfl ?_
      refine y_putI (pc := 22) dX11_end_22 qRX11_102 okb5 (fun h7 eh7 nxh7 => ?_)
      have hwp := hwp h7 eh7
      have hex := hex.tr nxh7.1
      have hnn := nxh7.2.1.trans hnn
      have hzz := nxh7.2.2.trans hzz
      have okl0 := okl0.ex nxh7.1
      have okb2 := okb2.ex nxh7.1
      have okb5 := okb5.ex nxh7.1
      refine x_iconst (v := 1) (pc := 25) dX11_end_25 (by decide) ?_
      exact x_zret (pc := 26) dX11_end_26 rfl hex hnn hzz (by decide) ⟨_, rfl, by decide, hwp⟩
    · have hwp := hwp.2 c4
      refine x_iconst (v := 0) (pc := 15) dX11_end_15 (by decide) ?_
      exact x_zret (pc := 16) dX11_end_16 rfl hex hnn hzz (by decide) ⟨_, rfl, by decide, hwp⟩

theorem dX11_cutTape_0 : decode cX11_cutTape 0 = .ok (.aload_n 0, 1) := by decide +kernel
theorem dX11_cutTape_1 : decode cX11_cutTape 1 = .ok (.getfield 19, 3) := by decide +kernel
theorem dX11_cutTape_4 : decode cX11_cutTape 4 = .ok (.aload_n 0, 1) := by decide +kernel
theorem dX11_cutTape_5 : decode cX11_cutTape 5 = .ok (.getfield 10, 3) := by decide +kernel
theorem dX11_cutTape_8 : decode cX11_cutTape 8 = .ok (.iload_n 1, 1) := by decide +kernel
theorem dX11_cutTape_9 : decode cX11_cutTape 9 = .ok (.invokevirtual 327, 3) := by decide +kernel
theorem dX11_cutTape_12 : decode cX11_cutTape 12 = .ok (.aload_n 0, 1) := by decide +kernel
theorem dX11_cutTape_13 : decode cX11_cutTape 13 = .ok (.getfield 10, 3) := by decide +kernel
theorem dX11_cutTape_16 : decode cX11_cutTape 16 = .ok (.iconst 0, 1) := by decide +kernel
theorem dX11_cutTape_17 : decode cX11_cutTape 17 = .ok (.putfield 102, 3) := by decide +kernel
theorem dX11_cutTape_20 : decode cX11_cutTape 20 = .ok (.return_, 1) := by decide +kernel
def wp_X11_cutTape (l0 : Nat) (l1 : Int32) (h : PH) (Q : PH → Prop) : Prop := (∃ b1, qR h l0 1 = some b1 ∧ (∃ b3, qR h l0 0 = some b3 ∧ (wp_X7_cut b1 b3 l1 h (fun h5 => (∃ b7, qR h5 l0 0 = some b7 ∧ (∀ h9, h9 = qsI h5 b7 1 0 → Q h9))))))
set_option maxHeartbeats 4000000 in
set_option maxRecDepth 100000 in
theorem sn_X11_cutTape (G : GT) (d : Nat) (l0 : Nat) (l1 : Int32) (h : PH) (Q : PH → Prop) (okl0 : qOK h 10 l0) (hwp : wp_X11_cutTape l0 l1 h Q) : Mt G (3 + d) 0 0 mX11_cutTape [.ref l0, .int l1] h (qqv Q) := by
  unfold wp_X11_cutTape at hwp
  refine Mt.of (by decide) rfl (Nat.le_of_ble_eq_true rfl) ?_
  have hex := qEx.rf h
  have hnn : qn h = qn h + 0 := rfl
  have hzz : qz h = qz h + 0 := rfl
  refine x_lvE (lv2 := [(0, .ref l0), (1, .int l1)]) rfl ?_
  refine x_aload_n (pc := 0) dX11_cutTape_0 rfl ?_
  obtain ⟨b1, e2, hwp⟩ := hwp
  refine x_getR (pc := 1) dX11_cutTape_1 qRX11_19 okl0 e2 (fun okb1 => ?_)
  refine x_aload_n (pc := 4) dX11_cutTape_4 rfl ?_
  obtain ⟨b3, e4, hwp⟩ := hwp
  refine x_getR (pc := 5) dX11_cutTape_5 qRX11_10 okl0 e4 (fun okb3 => ?_)
  refine x_iload_n (pc := 8) dX11_cutTape_8 rfl ?_
  refine x_invV (As := [.ref b3, .int l1]) (st := []) (pc := 9) dX11_cutTape_9 lRX11_327 fX7_cut vX7_cut okb1 rfl (Nat.le_of_ble_eq_true rfl) (q_R (by omega) (by decide)) (q_C hnn hzz (by decide) (by decide)) (sn_X7_cut G (d + 0) b1 b3 l1 h _ okb1 okb3 hwp) (k_v (fun h5 hwp cxh5 => ?_))
  have hex := hex.tr cxh5.1
  have hnn : qn h5 = qn h + 0 := by have := cxh5.2.1; omega
  have hzz : qz h5 = qz h + 0 := by have := cxh5.2.2; omega
  have okl0 := okl0.ex cxh5.1
  have okb1 := okb1.ex cxh5.1
  have okb3 := okb3.ex cxh5.1
  refine x_aload_n (pc := 12) dX11_cutTape_12 rfl ?_
  obtain ⟨b7, e8, hwp⟩ := hwp
  refine x_getR (pc := 13) dX11_cutTape_13 qRX11_10 okl0 e8 (fun okb7 => ?_)
  refine x_iconst (v := 0) (pc := 16) dX11_cutTape_16 (by decide) ?_
  refine y_putI (pc := 17) dX11_cutTape_17 qRX11_102 okb7 (fun h9 eh9 nxh9 => ?_)
  have hwp := hwp h9 eh9
  have hex := hex.tr nxh9.1
  have hnn := nxh9.2.1.trans hnn
  have hzz := nxh9.2.2.trans hzz
  have okl0 := okl0.ex nxh9.1
  have okb1 := okb1.ex nxh9.1
  have okb3 := okb3.ex nxh9.1
  have okb7 := okb7.ex nxh9.1
  exact x_vret (pc := 20) dX11_cutTape_20 rfl hex hnn hzz ⟨rfl, hwp⟩

theorem dX11_drawing_0 : decode cX11_drawing 0 = .ok (.aload_n 0, 1) := by decide +kernel
theorem dX11_drawing_1 : decode cX11_drawing 1 = .ok (.sipush 600, 3) := by decide +kernel
theorem dX11_drawing_4 : decode cX11_drawing 4 = .ok (.invokevirtual 109, 3) := by decide +kernel
theorem dX11_drawing_7 : decode cX11_drawing 7 = .ok (.aload_n 0, 1) := by decide +kernel
theorem dX11_drawing_8 : decode cX11_drawing 8 = .ok (.getfield 74, 3) := by decide +kernel
theorem dX11_drawing_11 : decode cX11_drawing 11 = .ok (.aload_n 0, 1) := by decide +kernel
theorem dX11_drawing_12 : decode cX11_drawing 12 = .ok (.getfield 19, 3) := by decide +kernel
theorem dX11_drawing_15 : decode cX11_drawing 15 = .ok (.invokevirtual 112, 3) := by decide +kernel
theorem dX11_drawing_18 : decode cX11_drawing 18 = .ok (.ifCond .ne 11, 3) := by decide +kernel
theorem dX11_drawing_21 : decode cX11_drawing 21 = .ok (.aload_n 0, 1) := by decide +kernel
theorem dX11_drawing_22 : decode cX11_drawing 22 = .ok (.getfield 19, 3) := by decide +kernel
theorem dX11_drawing_25 : decode cX11_drawing 25 = .ok (.invokevirtual 116, 3) := by decide +kernel
theorem dX11_drawing_28 : decode cX11_drawing 28 = .ok (.ireturn, 1) := by decide +kernel
theorem dX11_drawing_29 : decode cX11_drawing 29 = .ok (.aload_n 0, 1) := by decide +kernel
theorem dX11_drawing_30 : decode cX11_drawing 30 = .ok (.getfield 74, 3) := by decide +kernel
theorem dX11_drawing_33 : decode cX11_drawing 33 = .ok (.astore_n 1, 1) := by decide +kernel
theorem dX11_drawing_34 : decode cX11_drawing 34 = .ok (.aload_n 0, 1) := by decide +kernel
theorem dX11_drawing_35 : decode cX11_drawing 35 = .ok (.aload_n 0, 1) := by decide +kernel
theorem dX11_drawing_36 : decode cX11_drawing 36 = .ok (.getfield 70, 3) := by decide +kernel
theorem dX11_drawing_39 : decode cX11_drawing 39 = .ok (.putfield 74, 3) := by decide +kernel
theorem dX11_drawing_42 : decode cX11_drawing 42 = .ok (.aload_n 0, 1) := by decide +kernel
theorem dX11_drawing_43 : decode cX11_drawing 43 = .ok (.aload_n 1, 1) := by decide +kernel
theorem dX11_drawing_44 : decode cX11_drawing 44 = .ok (.putfield 70, 3) := by decide +kernel
theorem dX11_drawing_47 : decode cX11_drawing 47 = .ok (.aload_n 0, 1) := by decide +kernel
theorem dX11_drawing_48 : decode cX11_drawing 48 = .ok (.getfield 26, 3) := by decide +kernel
theorem dX11_drawing_51 : decode cX11_drawing 51 = .ok (.aload_n 0, 1) := by decide +kernel
theorem dX11_drawing_52 : decode cX11_drawing 52 = .ok (.getfield 70, 3) := by decide +kernel
theorem dX11_drawing_55 : decode cX11_drawing 55 = .ok (.invokevirtual 120, 3) := by decide +kernel
theorem dX11_drawing_58 : decode cX11_drawing 58 = .ok (.aload_n 0, 1) := by decide +kernel
theorem dX11_drawing_59 : decode cX11_drawing 59 = .ok (.getfield 70, 3) := by decide +kernel
theorem dX11_drawing_62 : decode cX11_drawing 62 = .ok (.getfield 124, 3) := by decide +kernel
theorem dX11_drawing_65 : decode cX11_drawing 65 = .ok (.ireturn, 1) := by decide +kernel
def wp_X11_drawing (l0 : Nat) (h : PH) (Q : Int32 → PH → Prop) : Prop := (wp_X11_cutTape l0 600 h (fun h1 => (∃ b3, qR h1 l0 11 = some b3 ∧ (∃ b5, qR h1 l0 1 = some b5 ∧ (wp_X1_readFrom b3 b5 h1 (fun r8 h7 => ((¬ r8 = 0 → (∃ b10, qR h7 l0 11 = some b10 ∧ (∃ b12, qR h7 l0 10 = some b12 ∧ (∀ h14, h14 = qsR h7 l0 11 (some b12) → (∀ h15, h15 = qsR h14 l0 10 (some b10) → (∃ b16, qR h15 l0 2 = some b16 ∧ (∃ b18, qR h15 l0 10 = some b18 ∧ (wp_X8_tell b16 b18 h15 (fun h20 => (∃ b22, qR h20 l0 10 = some b22 ∧ Q (qI h20 b22 1) h20)))))))))) ∧ (r8 = 0 → (∃ b24, qR h7 l0 1 = some b24 ∧ (wp_X7_faultAnswer b24 h7 (fun r27 h26 => Q r27 h26)))))))))))
set_option maxHeartbeats 4000000 in
set_option maxRecDepth 100000 in
theorem sn_X11_drawing (G : GT) (d : Nat) (l0 : Nat) (h : PH) (Q : Int32 → PH → Prop) (okl0 : qOK h 10 l0) (hwp : wp_X11_drawing l0 h Q) : Mt G (7 + d) 0 0 mX11_drawing [.ref l0] h (qqi Q) := by
  unfold wp_X11_drawing at hwp
  refine Mt.of (by decide) rfl (Nat.le_of_ble_eq_true rfl) ?_
  have hex := qEx.rf h
  have hnn : qn h = qn h + 0 := rfl
  have hzz : qz h = qz h + 0 := rfl
  refine x_lvE (lv2 := [(0, .ref l0)]) rfl ?_
  refine x_aload_n (pc := 0) dX11_drawing_0 rfl ?_
  refine x_sipush (v := 600) (pc := 1) dX11_drawing_1 (by decide) ?_
  refine x_invV (As := [.int 600]) (st := []) (pc := 4) dX11_drawing_4 lRX11_109 fX11_cutTape vX11_cutTape okl0 rfl (Nat.le_of_ble_eq_true rfl) (q_R (by omega) (by decide)) (q_C hnn hzz (by decide) (by decide)) (sn_X11_cutTape G (d + 3) l0 600 h _ okl0 hwp) (k_v (fun h1 hwp cxh1 => ?_))
  have hex := hex.tr cxh1.1
  have hnn : qn h1 = qn h + 0 := by have := cxh1.2.1; omega
  have hzz : qz h1 = qz h + 0 := by have := cxh1.2.2; omega
  have okl0 := okl0.ex cxh1.1
  refine x_aload_n (pc := 7) dX11_drawing_7 rfl ?_
  obtain ⟨b3, e4, hwp⟩ := hwp
  refine x_getR (pc := 8) dX11_drawing_8 qRX11_74 okl0 e4 (fun okb3 => ?_)
  refine x_aload_n (pc := 11) dX11_drawing_11 rfl ?_
  obtain ⟨b5, e6, hwp⟩ := hwp
  refine x_getR (pc := 12) dX11_drawing_12 qRX11_19 okl0 e6 (fun okb5 => ?_)
  refine x_invV (As := [.ref b5]) (st := []) (pc := 15) dX11_drawing_15 lRX11_112 fX1_readFrom vX1_readFrom okb3 rfl (Nat.le_of_ble_eq_true rfl) (q_R (by omega) (by decide)) (q_C hnn hzz (by decide) (by decide)) (sn_X1_readFrom G (d + 0) b3 b5 h1 _ okb3 okb5 hwp) (k_b (fun r8 h7 hwp zbr8 cxh7 => ?_))
  have hex := hex.tr cxh7.1
  have hnn : qn h7 = qn h + 0 := by have := cxh7.2.1; omega
  have hzz : qz h7 = qz h + 0 := by have := cxh7.2.2; omega
  have okl0 := okl0.ex cxh7.1
  have okb3 := okb3.ex cxh7.1
  have okb5 := okb5.ex cxh7.1
  refine x_if_ne (tgt := 29) (pc := 18) dX11_drawing_18 (by decide) (fun c9 => ?_) (fun c9 => ?_)
  · have hwp := hwp.1 c9
    refine x_aload_n (pc := 29) dX11_drawing_29 rfl ?_
    obtain ⟨b10, e11, hwp⟩ := hwp
    refine x_getR (pc := 30) dX11_drawing_30 qRX11_74 okl0 e11 (fun okb10 => ?_)
    refine x_astore_n (lv2 := [(1, .ref b10), (0, .ref l0)]) (pc := 33) dX11_drawing_33 (by decide) rfl ?_
    refine x_aload_n (pc := 34) dX11_drawing_34 rfl ?_
    refine x_aload_n (pc := 35) dX11_drawing_35 rfl ?_
    obtain ⟨b12, e13, hwp⟩ := hwp
    refine x_getR (pc := 36) dX11_drawing_36 qRX11_70 okl0 e13 (fun okb12 => ?_)
    refine y_putR (pc := 39) dX11_drawing_39 qRX11_74 okl0 okb12 (fun h14 eh14 nxh14 => ?_)
    have hwp := hwp h14 eh14
    have hex := hex.tr nxh14.1
    have hnn := nxh14.2.1.trans hnn
    have hzz := nxh14.2.2.trans hzz
    have okl0 := okl0.ex nxh14.1
    have okb3 := okb3.ex nxh14.1
    have okb5 := okb5.ex nxh14.1
    have okb10 := okb10.ex nxh14.1
    have okb12 := okb12.ex nxh14.1
    refine x_aload_n (pc := 42) dX11_drawing_42 rfl ?_
    refine x_aload_n (pc := 43) dX11_drawing_43 rfl ?_
    refine y_putR (pc := 44) dX11_drawing_44 qRX11_70 okl0 okb10 (fun h15 eh15 nxh15 => ?_)
    have hwp := hwp h15 eh15
    have hex := hex.tr nxh15.1
    have hnn := nxh15.2.1.trans hnn
    have hzz := nxh15.2.2.trans hzz
    have okl0 := okl0.ex nxh15.1
    have okb3 := okb3.ex nxh15.1
    have okb5 := okb5.ex nxh15.1
    have okb10 := okb10.ex nxh15.1
    have okb12 := okb12.ex nxh15.1
    refine x_aload_n (pc := 47) dX11_drawing_47 rfl ?_
    obtain ⟨b16, e17, hwp⟩ := hwp
    refine x_getR (pc := 48) dX11_drawing_48 qRX11_26 okl0 e17 (fun okb16 => ?_)
    refine x_aload_n (pc := 51) dX11_drawing_51 rfl ?_
    obtain ⟨b18, e19, hwp⟩ := hwp
    refine x_getR (pc := 52) dX11_drawing_52 qRX11_70 okl0 e19 (fun okb18 => ?_)
    refine x_invV (As := [.ref b18]) (st := []) (pc := 55) dX11_drawing_55 lRX11_120 fX8_tell vX8_tell okb16 rfl (Nat.le_of_ble_eq_true rfl) (q_R (by omega) (by decide)) (q_C hnn hzz (by decide) (by decide)) (sn_X8_tell G (d + 1) b16 b18 h15 _ okb16 okb18 hwp) (k_v (fun h20 hwp cxh20 => ?_))
    have hex := hex.tr cxh20.1
    have hnn : qn h20 = qn h + 0 := by have := cxh20.2.1; omega
    have hzz : qz h20 = qz h + 0 := by have := cxh20.2.2; omega
    have okl0 := okl0.ex cxh20.1
    have okb3 := okb3.ex cxh20.1
    have okb5 := okb5.ex cxh20.1
    have okb10 := okb10.ex cxh20.1
    have okb12 := okb12.ex cxh20.1
    have okb16 := okb16.ex cxh20.1
    have okb18 := okb18.ex cxh20.1
    refine x_aload_n (pc := 58) dX11_drawing_58 rfl ?_
    obtain ⟨b22, e23, hwp⟩ := hwp
    refine x_getR (pc := 59) dX11_drawing_59 qRX11_70 okl0 e23 (fun okb22 => ?_)
    refine x_getI (pc := 62) dX11_drawing_62 qRX11_124 okb22 (by decide) ?_
    exact x_iret (pc := 65) dX11_drawing_65 rfl hex hnn hzz ⟨_, rfl, hwp⟩
  · have hwp := hwp.2 c9
    refine x_aload_n (pc := 21) dX11_drawing_21 rfl ?_
    obtain ⟨b24, e25, hwp⟩ := hwp
    refine x_getR (pc := 22) dX11_drawing_22 qRX11_19 okl0 e25 (fun okb24 => ?_)
    refine x_invV (As := []) (st := []) (pc := 25) dX11_drawing_25 lRX11_116 fX7_faultAnswer vX7_faultAnswer okb24 rfl (Nat.le_of_ble_eq_true rfl) (q_R (by omega) (by decide)) (q_C hnn hzz (by decide) (by decide)) (sn_X7_faultAnswer G (d + 6) b24 h7 _ okb24 hwp) (k_i (fun r27 h26 hwp cxh26 => ?_))
    have hex := hex.tr cxh26.1
    have hnn : qn h26 = qn h + 0 := by have := cxh26.2.1; omega
    have hzz : qz h26 = qz h + 0 := by have := cxh26.2.2; omega
    have okl0 := okl0.ex cxh26.1
    have okb3 := okb3.ex cxh26.1
    have okb5 := okb5.ex cxh26.1
    have okb24 := okb24.ex cxh26.1
    exact x_iret (pc := 28) dX11_drawing_28 rfl hex hnn hzz ⟨_, rfl, hwp⟩

theorem dX11_fault_0 : decode cX11_fault 0 = .ok (.aload_n 0, 1) := by decide +kernel
theorem dX11_fault_1 : decode cX11_fault 1 = .ok (.getfield 19, 3) := by decide +kernel
theorem dX11_fault_4 : decode cX11_fault 4 = .ok (.getfield 127, 3) := by decide +kernel
theorem dX11_fault_7 : decode cX11_fault 7 = .ok (.ireturn, 1) := by decide +kernel
def wp_X11_fault (l0 : Nat) (h : PH) (Q : Int32 → PH → Prop) : Prop := (∃ b1, qR h l0 1 = some b1 ∧ Q (qI h b1 6) h)
set_option maxHeartbeats 4000000 in
set_option maxRecDepth 100000 in
theorem sn_X11_fault (G : GT) (d : Nat) (l0 : Nat) (h : PH) (Q : Int32 → PH → Prop) (okl0 : qOK h 10 l0) (hwp : wp_X11_fault l0 h Q) : Mt G (0 + d) 0 0 mX11_fault [.ref l0] h (qqi Q) := by
  unfold wp_X11_fault at hwp
  refine Mt.of (by decide) rfl (Nat.le_of_ble_eq_true rfl) ?_
  have hex := qEx.rf h
  have hnn : qn h = qn h + 0 := rfl
  have hzz : qz h = qz h + 0 := rfl
  refine x_lvE (lv2 := [(0, .ref l0)]) rfl ?_
  refine x_aload_n (pc := 0) dX11_fault_0 rfl ?_
  obtain ⟨b1, e2, hwp⟩ := hwp
  refine x_getR (pc := 1) dX11_fault_1 qRX11_19 okl0 e2 (fun okb1 => ?_)
  refine x_getI (pc := 4) dX11_fault_4 qRX11_127 okb1 (by decide) ?_
  exact x_iret (pc := 7) dX11_fault_7 rfl hex hnn hzz ⟨_, rfl, hwp⟩

theorem dX11_isPart_0 : decode cX11_isPart 0 = .ok (.iload_n 1, 1) := by decide +kernel
theorem dX11_isPart_1 : decode cX11_isPart 1 = .ok (.ifCond .lt 18, 3) := by decide +kernel
theorem dX11_isPart_4 : decode cX11_isPart 4 = .ok (.iload_n 1, 1) := by decide +kernel
theorem dX11_isPart_5 : decode cX11_isPart 5 = .ok (.aload_n 0, 1) := by decide +kernel
theorem dX11_isPart_6 : decode cX11_isPart 6 = .ok (.getfield 70, 3) := by decide +kernel
theorem dX11_isPart_9 : decode cX11_isPart 9 = .ok (.getfield 124, 3) := by decide +kernel
theorem dX11_isPart_12 : decode cX11_isPart 12 = .ok (.if_icmp .ge 7, 3) := by decide +kernel
theorem dX11_isPart_15 : decode cX11_isPart 15 = .ok (.iconst 1, 1) := by decide +kernel
theorem dX11_isPart_16 : decode cX11_isPart 16 = .ok (.goto 4, 3) := by decide +kernel
theorem dX11_isPart_19 : decode cX11_isPart 19 = .ok (.iconst 0, 1) := by decide +kernel
theorem dX11_isPart_20 : decode cX11_isPart 20 = .ok (.ireturn, 1) := by decide +kernel
def wp_X11_isPart (l0 : Nat) (l1 : Int32) (h : PH) (Q : Int32 → PH → Prop) : Prop := ((l1 < 0 → Q 0 h) ∧ (¬ (l1 < 0) → (∃ b2, qR h l0 10 = some b2 ∧ (((qI h b2 1) ≤ l1 → Q 0 h) ∧ (¬ ((qI h b2 1) ≤ l1) → Q 1 h)))))
set_option maxHeartbeats 4000000 in
set_option maxRecDepth 100000 in
theorem sn_X11_isPart (G : GT) (d : Nat) (l0 : Nat) (l1 : Int32) (h : PH) (Q : Int32 → PH → Prop) (okl0 : qOK h 10 l0) (hwp : wp_X11_isPart l0 l1 h Q) : Mt G (0 + d) 0 0 mX11_isPart [.ref l0, .int l1] h (qqb Q) := by
  unfold wp_X11_isPart at hwp
  refine Mt.of (by decide) rfl (Nat.le_of_ble_eq_true rfl) ?_
  have hex := qEx.rf h
  have hnn : qn h = qn h + 0 := rfl
  have hzz : qz h = qz h + 0 := rfl
  refine x_lvE (lv2 := [(0, .ref l0), (1, .int l1)]) rfl ?_
  refine x_iload_n (pc := 0) dX11_isPart_0 rfl ?_
  refine x_if_lt (tgt := 19) (pc := 1) dX11_isPart_1 (by decide) (fun c1 => ?_) (fun c1 => ?_)
  · have hwp := hwp.1 c1
    refine x_iconst (v := 0) (pc := 19) dX11_isPart_19 (by decide) ?_
    exact x_zret (pc := 20) dX11_isPart_20 rfl hex hnn hzz (by decide) ⟨_, rfl, by decide, hwp⟩
  · have hwp := hwp.2 c1
    refine x_iload_n (pc := 4) dX11_isPart_4 rfl ?_
    refine x_aload_n (pc := 5) dX11_isPart_5 rfl ?_
    obtain ⟨b2, e3, hwp⟩ := hwp
    refine x_getR (pc := 6) dX11_isPart_6 qRX11_70 okl0 e3 (fun okb2 => ?_)
    refine x_getI (pc := 9) dX11_isPart_9 qRX11_124 okb2 (by decide) ?_
    refine x_icmp_ge (tgt := 19) (pc := 12) dX11_isPart_12 (by decide) (fun c4 => ?_) (fun c4 => ?_)
    · have hwp := hwp.1 c4
      refine x_iconst (v := 0) (pc := 19) dX11_isPart_19 (by decide) ?_
      exact x_zret (pc := 20) dX11_isPart_20 rfl hex hnn hzz (by decide) ⟨_, rfl, by decide, hwp⟩
    · have hwp := hwp.2 c4
      refine x_iconst (v := 1) (pc := 15) dX11_isPart_15 (by decide) ?_
      refine x_goto (tgt := 20) (pc := 16) dX11_isPart_16 (by decide) ?_
      exact x_zret (pc := 20) dX11_isPart_20 rfl hex hnn hzz (by decide) ⟨_, rfl, by decide, hwp⟩

theorem dX11_isPlace_0 : decode cX11_isPlace 0 = .ok (.iload_n 1, 1) := by decide +kernel
theorem dX11_isPlace_1 : decode cX11_isPlace 1 = .ok (.ifCond .lt 18, 3) := by decide +kernel
theorem dX11_isPlace_4 : decode cX11_isPlace 4 = .ok (.iload_n 1, 1) := by decide +kernel
theorem dX11_isPlace_5 : decode cX11_isPlace 5 = .ok (.aload_n 0, 1) := by decide +kernel
theorem dX11_isPlace_6 : decode cX11_isPlace 6 = .ok (.getfield 70, 3) := by decide +kernel
theorem dX11_isPlace_9 : decode cX11_isPlace 9 = .ok (.getfield 148, 3) := by decide +kernel
theorem dX11_isPlace_12 : decode cX11_isPlace 12 = .ok (.if_icmp .ge 7, 3) := by decide +kernel
theorem dX11_isPlace_15 : decode cX11_isPlace 15 = .ok (.iconst 1, 1) := by decide +kernel
theorem dX11_isPlace_16 : decode cX11_isPlace 16 = .ok (.goto 4, 3) := by decide +kernel
theorem dX11_isPlace_19 : decode cX11_isPlace 19 = .ok (.iconst 0, 1) := by decide +kernel
theorem dX11_isPlace_20 : decode cX11_isPlace 20 = .ok (.ireturn, 1) := by decide +kernel
def wp_X11_isPlace (l0 : Nat) (l1 : Int32) (h : PH) (Q : Int32 → PH → Prop) : Prop := ((l1 < 0 → Q 0 h) ∧ (¬ (l1 < 0) → (∃ b2, qR h l0 10 = some b2 ∧ (((qI h b2 2) ≤ l1 → Q 0 h) ∧ (¬ ((qI h b2 2) ≤ l1) → Q 1 h)))))
set_option maxHeartbeats 4000000 in
set_option maxRecDepth 100000 in
theorem sn_X11_isPlace (G : GT) (d : Nat) (l0 : Nat) (l1 : Int32) (h : PH) (Q : Int32 → PH → Prop) (okl0 : qOK h 10 l0) (hwp : wp_X11_isPlace l0 l1 h Q) : Mt G (0 + d) 0 0 mX11_isPlace [.ref l0, .int l1] h (qqb Q) := by
  unfold wp_X11_isPlace at hwp
  refine Mt.of (by decide) rfl (Nat.le_of_ble_eq_true rfl) ?_
  have hex := qEx.rf h
  have hnn : qn h = qn h + 0 := rfl
  have hzz : qz h = qz h + 0 := rfl
  refine x_lvE (lv2 := [(0, .ref l0), (1, .int l1)]) rfl ?_
  refine x_iload_n (pc := 0) dX11_isPlace_0 rfl ?_
  refine x_if_lt (tgt := 19) (pc := 1) dX11_isPlace_1 (by decide) (fun c1 => ?_) (fun c1 => ?_)
  · have hwp := hwp.1 c1
    refine x_iconst (v := 0) (pc := 19) dX11_isPlace_19 (by decide) ?_
    exact x_zret (pc := 20) dX11_isPlace_20 rfl hex hnn hzz (by decide) ⟨_, rfl, by decide, hwp⟩
  · have hwp := hwp.2 c1
    refine x_iload_n (pc := 4) dX11_isPlace_4 rfl ?_
    refine x_aload_n (pc := 5) dX11_isPlace_5 rfl ?_
    obtain ⟨b2, e3, hwp⟩ := hwp
    refine x_getR (pc := 6) dX11_isPlace_6 qRX11_70 okl0 e3 (fun okb2 => ?_)
    refine x_getI (pc := 9) dX11_isPlace_9 qRX11_148 okb2 (by decide) ?_
    refine x_icmp_ge (tgt := 19) (pc := 12) dX11_isPlace_12 (by decide) (fun c4 => ?_) (fun c4 => ?_)
    · have hwp := hwp.1 c4
      refine x_iconst (v := 0) (pc := 19) dX11_isPlace_19 (by decide) ?_
      exact x_zret (pc := 20) dX11_isPlace_20 rfl hex hnn hzz (by decide) ⟨_, rfl, by decide, hwp⟩
    · have hwp := hwp.2 c4
      refine x_iconst (v := 1) (pc := 15) dX11_isPlace_15 (by decide) ?_
      refine x_goto (tgt := 20) (pc := 16) dX11_isPlace_16 (by decide) ?_
      exact x_zret (pc := 20) dX11_isPlace_20 rfl hex hnn hzz (by decide) ⟨_, rfl, by decide, hwp⟩

theorem dX11_isLawSet_0 : decode cX11_isLawSet 0 = .ok (.iload_n 0, 1) := by decide +kernel
theorem dX11_isLawSet_1 : decode cX11_isLawSet 1 = .ok (.ifCond .lt 13, 3) := by decide +kernel
theorem dX11_isLawSet_4 : decode cX11_isLawSet 4 = .ok (.iload_n 0, 1) := by decide +kernel
theorem dX11_isLawSet_5 : decode cX11_isLawSet 5 = .ok (.bipush 32, 2) := by decide +kernel
theorem dX11_isLawSet_7 : decode cX11_isLawSet 7 = .ok (.if_icmp .ge 7, 3) := by decide +kernel
theorem dX11_isLawSet_10 : decode cX11_isLawSet 10 = .ok (.iconst 1, 1) := by decide +kernel
theorem dX11_isLawSet_11 : decode cX11_isLawSet 11 = .ok (.goto 4, 3) := by decide +kernel
theorem dX11_isLawSet_14 : decode cX11_isLawSet 14 = .ok (.iconst 0, 1) := by decide +kernel
theorem dX11_isLawSet_15 : decode cX11_isLawSet 15 = .ok (.ireturn, 1) := by decide +kernel
def wp_X11_isLawSet (l0 : Int32) (h : PH) (Q : Int32 → PH → Prop) : Prop := ((l0 < 0 → Q 0 h) ∧ (¬ (l0 < 0) → ((32 ≤ l0 → Q 0 h) ∧ (¬ (32 ≤ l0) → Q 1 h))))
set_option maxHeartbeats 4000000 in
set_option maxRecDepth 100000 in
theorem sn_X11_isLawSet (G : GT) (d : Nat) (l0 : Int32) (h : PH) (Q : Int32 → PH → Prop)  (hwp : wp_X11_isLawSet l0 h Q) : Mt G (0 + d) 0 0 mX11_isLawSet [.int l0] h (qqb Q) := by
  unfold wp_X11_isLawSet at hwp
  refine Mt.of (by decide) rfl (Nat.le_of_ble_eq_true rfl) ?_
  have hex := qEx.rf h
  have hnn : qn h = qn h + 0 := rfl
  have hzz : qz h = qz h + 0 := rfl
  refine x_lvE (lv2 := [(0, .int l0)]) rfl ?_
  refine x_iload_n (pc := 0) dX11_isLawSet_0 rfl ?_
  refine x_if_lt (tgt := 14) (pc := 1) dX11_isLawSet_1 (by decide) (fun c1 => ?_) (fun c1 => ?_)
  · have hwp := hwp.1 c1
    refine x_iconst (v := 0) (pc := 14) dX11_isLawSet_14 (by decide) ?_
    exact x_zret (pc := 15) dX11_isLawSet_15 rfl hex hnn hzz (by decide) ⟨_, rfl, by decide, hwp⟩
  · have hwp := hwp.2 c1
    refine x_iload_n (pc := 4) dX11_isLawSet_4 rfl ?_
    refine x_bipush (v := 32) (pc := 5) dX11_isLawSet_5 (by decide) ?_
    refine x_icmp_ge (tgt := 14) (pc := 7) dX11_isLawSet_7 (by decide) (fun c2 => ?_) (fun c2 => ?_)
    · have hwp := hwp.1 c2
      refine x_iconst (v := 0) (pc := 14) dX11_isLawSet_14 (by decide) ?_
      exact x_zret (pc := 15) dX11_isLawSet_15 rfl hex hnn hzz (by decide) ⟨_, rfl, by decide, hwp⟩
    · have hwp := hwp.2 c2
      refine x_iconst (v := 1) (pc := 10) dX11_isLawSet_10 (by decide) ?_
      refine x_goto (tgt := 15) (pc := 11) dX11_isLawSet_11 (by decide) ?_
      exact x_zret (pc := 15) dX11_isLawSet_15 rfl hex hnn hzz (by decide) ⟨_, rfl, by decide, hwp⟩

theorem dX11_isPush_0 : decode cX11_isPush 0 = .ok (.iload_n 0, 1) := by decide +kernel
theorem dX11_isPush_1 : decode cX11_isPush 1 = .ok (.ifCond .lt 14, 3) := by decide +kernel
theorem dX11_isPush_4 : decode cX11_isPush 4 = .ok (.iload_n 0, 1) := by decide +kernel
theorem dX11_isPush_5 : decode cX11_isPush 5 = .ok (.ldc_w 326, 3) := by decide +kernel
theorem dX11_isPush_8 : decode cX11_isPush 8 = .ok (.if_icmp .gt 7, 3) := by decide +kernel
theorem dX11_isPush_11 : decode cX11_isPush 11 = .ok (.iconst 1, 1) := by decide +kernel
theorem dX11_isPush_12 : decode cX11_isPush 12 = .ok (.goto 4, 3) := by decide +kernel
theorem dX11_isPush_15 : decode cX11_isPush 15 = .ok (.iconst 0, 1) := by decide +kernel
theorem dX11_isPush_16 : decode cX11_isPush 16 = .ok (.ireturn, 1) := by decide +kernel
def wp_X11_isPush (l0 : Int32) (h : PH) (Q : Int32 → PH → Prop) : Prop := ((l0 < 0 → Q 0 h) ∧ (¬ (l0 < 0) → ((100000 < l0 → Q 0 h) ∧ (¬ (100000 < l0) → Q 1 h))))
set_option maxHeartbeats 4000000 in
set_option maxRecDepth 100000 in
theorem sn_X11_isPush (G : GT) (d : Nat) (l0 : Int32) (h : PH) (Q : Int32 → PH → Prop)  (hwp : wp_X11_isPush l0 h Q) : Mt G (0 + d) 0 0 mX11_isPush [.int l0] h (qqb Q) := by
  unfold wp_X11_isPush at hwp
  refine Mt.of (by decide) rfl (Nat.le_of_ble_eq_true rfl) ?_
  have hex := qEx.rf h
  have hnn : qn h = qn h + 0 := rfl
  have hzz : qz h = qz h + 0 := rfl
  refine x_lvE (lv2 := [(0, .int l0)]) rfl ?_
  refine x_iload_n (pc := 0) dX11_isPush_0 rfl ?_
  refine x_if_lt (tgt := 15) (pc := 1) dX11_isPush_1 (by decide) (fun c1 => ?_) (fun c1 => ?_)
  · have hwp := hwp.1 c1
    refine x_iconst (v := 0) (pc := 15) dX11_isPush_15 (by decide) ?_
    exact x_zret (pc := 16) dX11_isPush_16 rfl hex hnn hzz (by decide) ⟨_, rfl, by decide, hwp⟩
  · have hwp := hwp.2 c1
    refine x_iload_n (pc := 4) dX11_isPush_4 rfl ?_
    refine x_ldcw (v := 100000) (pc := 5) dX11_isPush_5 kRX11_326 ?_
    refine x_icmp_gt (tgt := 15) (pc := 8) dX11_isPush_8 (by decide) (fun c2 => ?_) (fun c2 => ?_)
    · have hwp := hwp.1 c2
      refine x_iconst (v := 0) (pc := 15) dX11_isPush_15 (by decide) ?_
      exact x_zret (pc := 16) dX11_isPush_16 rfl hex hnn hzz (by decide) ⟨_, rfl, by decide, hwp⟩
    · have hwp := hwp.2 c2
      refine x_iconst (v := 1) (pc := 11) dX11_isPush_11 (by decide) ?_
      refine x_goto (tgt := 16) (pc := 12) dX11_isPush_12 (by decide) ?_
      exact x_zret (pc := 16) dX11_isPush_16 rfl hex hnn hzz (by decide) ⟨_, rfl, by decide, hwp⟩

theorem dX11_run_0 : decode cX11_run 0 = .ok (.aload_n 0, 1) := by decide +kernel
theorem dX11_run_1 : decode cX11_run 1 = .ok (.iload_n 1, 1) := by decide +kernel
theorem dX11_run_2 : decode cX11_run 2 = .ok (.invokevirtual 134, 3) := by decide +kernel
theorem dX11_run_5 : decode cX11_run 5 = .ok (.ifCond .eq 17, 3) := by decide +kernel
theorem dX11_run_8 : decode cX11_run 8 = .ok (.iload_n 2, 1) := by decide +kernel
theorem dX11_run_9 : decode cX11_run 9 = .ok (.invokestatic 180, 3) := by decide +kernel
theorem dX11_run_12 : decode cX11_run 12 = .ok (.ifCond .eq 10, 3) := by decide +kernel
theorem dX11_run_15 : decode cX11_run 15 = .ok (.iload_n 3, 1) := by decide +kernel
theorem dX11_run_16 : decode cX11_run 16 = .ok (.invokestatic 162, 3) := by decide +kernel
theorem dX11_run_19 : decode cX11_run 19 = .ok (.ifCond .ne 5, 3) := by decide +kernel
theorem dX11_run_22 : decode cX11_run 22 = .ok (.iconst (-1), 1) := by decide +kernel
theorem dX11_run_23 : decode cX11_run 23 = .ok (.ireturn, 1) := by decide +kernel
theorem dX11_run_24 : decode cX11_run 24 = .ok (.aload_n 0, 1) := by decide +kernel
theorem dX11_run_25 : decode cX11_run 25 = .ok (.getfield 33, 3) := by decide +kernel
theorem dX11_run_28 : decode cX11_run 28 = .ok (.aload_n 0, 1) := by decide +kernel
theorem dX11_run_29 : decode cX11_run 29 = .ok (.getfield 26, 3) := by decide +kernel
theorem dX11_run_32 : decode cX11_run 32 = .ok (.iload_n 3, 1) := by decide +kernel
theorem dX11_run_33 : decode cX11_run 33 = .ok (.invokevirtual 183, 3) := by decide +kernel
theorem dX11_run_36 : decode cX11_run 36 = .ok (.aload_n 0, 1) := by decide +kernel
theorem dX11_run_37 : decode cX11_run 37 = .ok (.getfield 40, 3) := by decide +kernel
theorem dX11_run_40 : decode cX11_run 40 = .ok (.iload_n 1, 1) := by decide +kernel
theorem dX11_run_41 : decode cX11_run 41 = .ok (.iload_n 2, 1) := by decide +kernel
theorem dX11_run_42 : decode cX11_run 42 = .ok (.invokevirtual 187, 3) := by decide +kernel
theorem dX11_run_45 : decode cX11_run 45 = .ok (.aload_n 0, 1) := by decide +kernel
theorem dX11_run_46 : decode cX11_run 46 = .ok (.getfield 40, 3) := by decide +kernel
theorem dX11_run_49 : decode cX11_run 49 = .ok (.aload_n 0, 1) := by decide +kernel
theorem dX11_run_50 : decode cX11_run 50 = .ok (.getfield 33, 3) := by decide +kernel
theorem dX11_run_53 : decode cX11_run 53 = .ok (.invokevirtual 191, 3) := by decide +kernel
theorem dX11_run_56 : decode cX11_run 56 = .ok (.aload_n 0, 1) := by decide +kernel
theorem dX11_run_57 : decode cX11_run 57 = .ok (.getfield 40, 3) := by decide +kernel
theorem dX11_run_60 : decode cX11_run 60 = .ok (.getfield 195, 3) := by decide +kernel
theorem dX11_run_63 : decode cX11_run 63 = .ok (.ireturn, 1) := by decide +kernel
def wp_X11_run (l0 : Nat) (l1 : Int32) (l2 : Int32) (l3 : Int32) (h : PH) (Q : Int32 → PH → Prop) : Prop := (wp_X11_isPlace l0 l1 h (fun r2 h1 => ((r2 = 0 → Q (-1) h1) ∧ (¬ (r2 = 0) → (wp_X11_isPush l2 h1 (fun r5 h4 => ((r5 = 0 → Q (-1) h4) ∧ (¬ (r5 = 0) → (wp_X11_isLawSet l3 h4 (fun r8 h7 => ((¬ r8 = 0 → (∃ b10, qR h7 l0 3 = some b10 ∧ (∃ b12, qR h7 l0 2 = some b12 ∧ (wp_X10_prepare b10 b12 l3 h7 (fun h14 => (∃ b16, qR h14 l0 4 = some b16 ∧ (wp_X5_start b16 l1 l2 h14 (fun h18 => (∃ b20, qR h18 l0 4 = some b20 ∧ (∃ b22, qR h18 l0 3 = some b22 ∧ (wp_X5_turn b20 b22 h18 (fun h24 => (∃ b26, qR h24 l0 4 = some b26 ∧ Q (qI h24 b26 3) h24))))))))))))) ∧ (r8 = 0 → Q (-1) h7))))))))))))
set_option maxHeartbeats 4000000 in
set_option maxRecDepth 100000 in
theorem sn_X11_run (G : GT) (d : Nat) (l0 : Nat) (l1 : Int32) (l2 : Int32) (l3 : Int32) (h : PH) (Q : Int32 → PH → Prop) (okl0 : qOK h 10 l0) (hwp : wp_X11_run l0 l1 l2 l3 h Q) : Mt G (2 + d) 0 0 mX11_run [.ref l0, .int l1, .int l2, .int l3] h (qqi Q) := by
  unfold wp_X11_run at hwp
  refine Mt.of (by decide) rfl (Nat.le_of_ble_eq_true rfl) ?_
  have hex := qEx.rf h
  have hnn : qn h = qn h + 0 := rfl
  have hzz : qz h = qz h + 0 := rfl
  refine x_lvE (lv2 := [(0, .ref l0), (1, .int l1), (2, .int l2), (3, .int l3)]) rfl ?_
  refine x_aload_n (pc := 0) dX11_run_0 rfl ?_
  refine x_iload_n (pc := 1) dX11_run_1 rfl ?_
  refine x_invV (As := [.int l1]) (st := []) (pc := 2) dX11_run_2 lRX11_134 fX11_isPlace vX11_isPlace okl0 rfl (Nat.le_of_ble_eq_true rfl) (q_R (by omega) (by decide)) (q_C hnn hzz (by decide) (by decide)) (sn_X11_isPlace G (d + 1) l0 l1 h _ okl0 hwp) (k_b (fun r2 h1 hwp zbr2 cxh1 => ?_))
  have hex := hex.tr cxh1.1
  have hnn : qn h1 = qn h + 0 := by have := cxh1.2.1; omega
  have hzz : qz h1 = qz h + 0 := by have := cxh1.2.2; omega
  have okl0 := okl0.ex cxh1.1
  refine x_if_eq (tgt := 22) (pc := 5) dX11_run_5 (by decide) (fun c3 => ?_) (fun c3 => ?_)
  · have hwp := hwp.1 c3
    refine x_iconst (v := (-1)) (pc := 22) dX11_run_22 (by decide) ?_
    exact x_iret (pc := 23) dX11_run_23 rfl hex hnn hzz ⟨_, rfl, hwp⟩
  · have hwp := hwp.2 c3
    refine x_iload_n (pc := 8) dX11_run_8 rfl ?_
    refine x_invS (As := [.int l2]) (st := []) (pc := 9) dX11_run_9 lRX11_180 fX11_isPush sX11_isPush rfl (Nat.le_of_ble_eq_true rfl) (q_R (by omega) (by decide)) (q_C hnn hzz (by decide) (by decide)) (sn_X11_isPush G (d + 1) l2 h1 _  hwp) (k_b (fun r5 h4 hwp zbr5 cxh4 => ?_))
    have hex := hex.tr cxh4.1
    have hnn : qn h4 = qn h + 0 := by have := cxh4.2.1; omega
    have hzz : qz h4 = qz h + 0 := by have := cxh4.2.2; omega
    have okl0 := okl0.ex cxh4.1
    refine x_if_eq (tgt := 22) (pc := 12) dX11_run_12 (by decide) (fun c6 => ?_) (fun c6 => ?_)
    · have hwp := hwp.1 c6
      refine x_iconst (v := (-1)) (pc := 22) dX11_run_22 (by decide) ?_
      exact x_iret (pc := 23) dX11_run_23 rfl hex hnn hzz ⟨_, rfl, hwp⟩
    · have hwp := hwp.2 c6
      refine x_iload_n (pc := 15) dX11_run_15 rfl ?_
      refine x_invS (As := [.int l3]) (st := []) (pc := 16) dX11_run_16 lRX11_162 fX11_isLawSet sX11_isLawSet rfl (Nat.le_of_ble_eq_true rfl) (q_R (by omega) (by decide)) (q_C hnn hzz (by decide) (by decide)) (sn_X11_isLawSet G (d + 1) l3 h4 _  hwp) (k_b (fun r8 h7 hwp zbr8 cxh7 => ?_))
      have hex := hex.tr cxh7.1
      have hnn : qn h7 = qn h + 0 := by have := cxh7.2.1; omega
      have hzz : qz h7 = qz h + 0 := by have := cxh7.2.2; omega
      have okl0 := okl0.ex cxh7.1
      refine x_if_ne (tgt := 24) (pc := 19) dX11_run_19 (by decide) (fun c9 => ?_) (fun c9 => ?_)
      · have hwp := hwp.1 c9
        refine x_aload_n (pc := 24) dX11_run_24 rfl ?_
        obtain ⟨b10, e11, hwp⟩ := hwp
        refine x_getR (pc := 25) dX11_run_25 qRX11_33 okl0 e11 (fun okb10 => ?_)
        refine x_aload_n (pc := 28) dX11_run_28 rfl ?_
        obtain ⟨b12, e13, hwp⟩ := hwp
        refine x_getR (pc := 29) dX11_run_29 qRX11_26 okl0 e13 (fun okb12 => ?_)
        refine x_iload_n (pc := 32) dX11_run_32 rfl ?_
        refine x_invV (As := [.ref b12, .int l3]) (st := []) (pc := 33) dX11_run_33 lRX11_183 fX10_prepare vX10_prepare okb10 rfl (Nat.le_of_ble_eq_true rfl) (q_R (by omega) (by decide)) (q_C hnn hzz (by decide) (by decide)) (sn_X10_prepare G (d + 0) b10 b12 l3 h7 _ okb10 okb12 hwp) (k_v (fun h14 hwp cxh14 => ?_))
        have hex := hex.tr cxh14.1
        have hnn : qn h14 = qn h + 0 := by have := cxh14.2.1; omega
        have hzz : qz h14 = qz h + 0 := by have := cxh14.2.2; omega
        have okl0 := okl0.ex cxh14.1
        have okb10 := okb10.ex cxh14.1
        have okb12 := okb12.ex cxh14.1
        refine x_aload_n (pc := 36) dX11_run_36 rfl ?_
        obtain ⟨b16, e17, hwp⟩ := hwp
        refine x_getR (pc := 37) dX11_run_37 qRX11_40 okl0 e17 (fun okb16 => ?_)
        refine x_iload_n (pc := 40) dX11_run_40 rfl ?_
        refine x_iload_n (pc := 41) dX11_run_41 rfl ?_
        refine x_invV (As := [.int l1, .int l2]) (st := []) (pc := 42) dX11_run_42 lRX11_187 fX5_start vX5_start okb16 rfl (Nat.le_of_ble_eq_true rfl) (q_R (by omega) (by decide)) (q_C hnn hzz (by decide) (by decide)) (sn_X5_start G (d + 1) b16 l1 l2 h14 _ okb16 hwp) (k_v (fun h18 hwp cxh18 => ?_))
        have hex := hex.tr cxh18.1
        have hnn : qn h18 = qn h + 0 := by have := cxh18.2.1; omega
        have hzz : qz h18 = qz h + 0 := by have := cxh18.2.2; omega
        have okl0 := okl0.ex cxh18.1
        have okb10 := okb10.ex cxh18.1
        have okb12 := okb12.ex cxh18.1
        have okb16 := okb16.ex cxh18.1
        refine x_aload_n (pc := 45) dX11_run_45 rfl ?_
        obtain ⟨b20, e21, hwp⟩ := hwp
        refine x_getR (pc := 46) dX11_run_46 qRX11_40 okl0 e21 (fun okb20 => ?_)
        refine x_aload_n (pc := 49) dX11_run_49 rfl ?_
        obtain ⟨b22, e23, hwp⟩ := hwp
        refine x_getR (pc := 50) dX11_run_50 qRX11_33 okl0 e23 (fun okb22 => ?_)
        refine x_invV (As := [.ref b22]) (st := []) (pc := 53) dX11_run_53 lRX11_191 fX5_turn vX5_turn okb20 rfl (Nat.le_of_ble_eq_true rfl) (q_R (by omega) (by decide)) (q_C hnn hzz (by decide) (by decide)) (sn_X5_turn G (d + 0) b20 b22 h18 _ okb20 okb22 hwp) (k_v (fun h24 hwp cxh24 => ?_))
        have hex := hex.tr cxh24.1
        have hnn : qn h24 = qn h + 0 := by have := cxh24.2.1; omega
        have hzz : qz h24 = qz h + 0 := by have := cxh24.2.2; omega
        have okl0 := okl0.ex cxh24.1
        have okb10 := okb10.ex cxh24.1
        have okb12 := okb12.ex cxh24.1
        have okb16 := okb16.ex cxh24.1
        have okb20 := okb20.ex cxh24.1
        have okb22 := okb22.ex cxh24.1
        refine x_aload_n (pc := 56) dX11_run_56 rfl ?_
        obtain ⟨b26, e27, hwp⟩ := hwp
        refine x_getR (pc := 57) dX11_run_57 qRX11_40 okl0 e27 (fun okb26 => ?_)
        refine x_getI (pc := 60) dX11_run_60 qRX11_195 okb26 (by decide) ?_
        exact x_iret (pc := 63) dX11_run_63 rfl hex hnn hzz ⟨_, rfl, hwp⟩
      · have hwp := hwp.2 c9
        refine x_iconst (v := (-1)) (pc := 22) dX11_run_22 (by decide) ?_
        exact x_iret (pc := 23) dX11_run_23 rfl hex hnn hzz ⟨_, rfl, hwp⟩

theorem dX11_ran_0 : decode cX11_ran 0 = .ok (.aload_n 0, 1) := by decide +kernel
theorem dX11_ran_1 : decode cX11_ran 1 = .ok (.getfield 40, 3) := by decide +kernel
theorem dX11_ran_4 : decode cX11_ran 4 = .ok (.getfield 198, 3) := by decide +kernel
theorem dX11_ran_7 : decode cX11_ran 7 = .ok (.ifCond .ne 5, 3) := by decide +kernel
theorem dX11_ran_10 : decode cX11_ran 10 = .ok (.iconst (-1), 1) := by decide +kernel
theorem dX11_ran_11 : decode cX11_ran 11 = .ok (.ireturn, 1) := by decide +kernel
theorem dX11_ran_12 : decode cX11_ran 12 = .ok (.iload_n 1, 1) := by decide +kernel
theorem dX11_ran_13 : decode cX11_ran 13 = .ok (.tableswitch 83 0 4 #[35, 43, 51, 59, 67], 35) := by decide +kernel
theorem dX11_ran_48 : decode cX11_ran 48 = .ok (.aload_n 0, 1) := by decide +kernel
theorem dX11_ran_49 : decode cX11_ran 49 = .ok (.getfield 40, 3) := by decide +kernel
theorem dX11_ran_52 : decode cX11_ran 52 = .ok (.getfield 202, 3) := by decide +kernel
theorem dX11_ran_55 : decode cX11_ran 55 = .ok (.ireturn, 1) := by decide +kernel
theorem dX11_ran_56 : decode cX11_ran 56 = .ok (.aload_n 0, 1) := by decide +kernel
theorem dX11_ran_57 : decode cX11_ran 57 = .ok (.getfield 40, 3) := by decide +kernel
theorem dX11_ran_60 : decode cX11_ran 60 = .ok (.getfield 205, 3) := by decide +kernel
theorem dX11_ran_63 : decode cX11_ran 63 = .ok (.ireturn, 1) := by decide +kernel
theorem dX11_ran_64 : decode cX11_ran 64 = .ok (.aload_n 0, 1) := by decide +kernel
theorem dX11_ran_65 : decode cX11_ran 65 = .ok (.getfield 40, 3) := by decide +kernel
theorem dX11_ran_68 : decode cX11_ran 68 = .ok (.getfield 208, 3) := by decide +kernel
theorem dX11_ran_71 : decode cX11_ran 71 = .ok (.ireturn, 1) := by decide +kernel
theorem dX11_ran_72 : decode cX11_ran 72 = .ok (.aload_n 0, 1) := by decide +kernel
theorem dX11_ran_73 : decode cX11_ran 73 = .ok (.getfield 40, 3) := by decide +kernel
theorem dX11_ran_76 : decode cX11_ran 76 = .ok (.getfield 211, 3) := by decide +kernel
theorem dX11_ran_79 : decode cX11_ran 79 = .ok (.ireturn, 1) := by decide +kernel
theorem dX11_ran_80 : decode cX11_ran 80 = .ok (.aload_n 0, 1) := by decide +kernel
theorem dX11_ran_81 : decode cX11_ran 81 = .ok (.getfield 40, 3) := by decide +kernel
theorem dX11_ran_84 : decode cX11_ran 84 = .ok (.getfield 214, 3) := by decide +kernel
theorem dX11_ran_87 : decode cX11_ran 87 = .ok (.ifCond .eq 7, 3) := by decide +kernel
theorem dX11_ran_90 : decode cX11_ran 90 = .ok (.iconst 1, 1) := by decide +kernel
theorem dX11_ran_91 : decode cX11_ran 91 = .ok (.goto 4, 3) := by decide +kernel
theorem dX11_ran_94 : decode cX11_ran 94 = .ok (.iconst 0, 1) := by decide +kernel
theorem dX11_ran_95 : decode cX11_ran 95 = .ok (.ireturn, 1) := by decide +kernel
theorem dX11_ran_96 : decode cX11_ran 96 = .ok (.iconst (-1), 1) := by decide +kernel
theorem dX11_ran_97 : decode cX11_ran 97 = .ok (.ireturn, 1) := by decide +kernel
def wp_X11_ran (l0 : Nat) (l1 : Int32) (h : PH) (Q : Int32 → PH → Prop) : Prop := (∃ b1, qR h l0 4 = some b1 ∧ ((¬ (qI h b1 0) = 0 → ((l1 = 0 → (∃ b5, qR h l0 4 = some b5 ∧ Q (qI h b5 1) h)) ∧ (l1 = 1 → (∃ b8, qR h l0 4 = some b8 ∧ Q (qI h b8 2) h)) ∧ (l1 = 2 → (∃ b11, qR h l0 4 = some b11 ∧ Q (qI h b11 4) h)) ∧ (l1 = 3 → (∃ b14, qR h l0 4 = some b14 ∧ Q (qI h b14 5) h)) ∧ (l1 = 4 → (∃ b17, qR h l0 4 = some b17 ∧ (((qI h b17 6) = 0 → Q 0 h) ∧ (¬ ((qI h b17 6) = 0) → Q 1 h)))) ∧ (¬ l1 = 0 → ¬ l1 = 1 → ¬ l1 = 2 → ¬ l1 = 3 → ¬ l1 = 4 → Q (-1) h))) ∧ ((qI h b1 0) = 0 → Q (-1) h)))
set_option maxHeartbeats 4000000 in
set_option maxRecDepth 100000 in
theorem sn_X11_ran (G : GT) (d : Nat) (l0 : Nat) (l1 : Int32) (h : PH) (Q : Int32 → PH → Prop) (okl0 : qOK h 10 l0) (hwp : wp_X11_ran l0 l1 h Q) : Mt G (0 + d) 0 0 mX11_ran [.ref l0, .int l1] h (qqi Q) := by
  unfold wp_X11_ran at hwp
  refine Mt.of (by decide) rfl (Nat.le_of_ble_eq_true rfl) ?_
  have hex := qEx.rf h
  have hnn : qn h = qn h + 0 := rfl
  have hzz : qz h = qz h + 0 := rfl
  refine x_lvE (lv2 := [(0, .ref l0), (1, .int l1)]) rfl ?_
  refine x_aload_n (pc := 0) dX11_ran_0 rfl ?_
  obtain ⟨b1, e2, hwp⟩ := hwp
  refine x_getR (pc := 1) dX11_ran_1 qRX11_40 okl0 e2 (fun okb1 => ?_)
  refine x_getI (pc := 4) dX11_ran_4 qRX11_198 okb1 (by decide) ?_
  refine x_if_ne (tgt := 12) (pc := 7) dX11_ran_7 (by decide) (fun c3 => ?_) (fun c3 => ?_)
  · have hwp := hwp.1 c3
    refine x_iload_n (pc := 12) dX11_ran_12 rfl ?_
    by_cases c4 : l1 = 0
    · have hwp := hwp.1 c4
      refine x_tabIn (tgt := 48) (pc := 13) dX11_ran_13 (by rw [q_teq c4 (n := 0) (by decide)]; decide) (by rw [q_teq c4 (n := 0) (by decide)]; decide) (by rw [q_teq c4 (n := 0) (by decide)]; rfl) (by decide) ?_
      refine x_aload_n (pc := 48) dX11_ran_48 rfl ?_
      obtain ⟨b5, e6, hwp⟩ := hwp
      refine x_getR (pc := 49) dX11_ran_49 qRX11_40 okl0 e6 (fun okb5 => ?_)
      refine x_getI (pc := 52) dX11_ran_52 qRX11_202 okb5 (by decide) ?_
      exact x_iret (pc := 55) dX11_ran_55 rfl hex hnn hzz ⟨_, rfl, hwp⟩
    by_cases c7 : l1 = 1
    · have hwp := hwp.2.1 c7
      refine x_tabIn (tgt := 56) (pc := 13) dX11_ran_13 (by rw [q_teq c7 (n := 1) (by decide)]; decide) (by rw [q_teq c7 (n := 1) (by decide)]; decide) (by rw [q_teq c7 (n := 1) (by decide)]; rfl) (by decide) ?_
      refine x_aload_n (pc := 56) dX11_ran_56 rfl ?_
      obtain ⟨b8, e9, hwp⟩ := hwp
      refine x_getR (pc := 57) dX11_ran_57 qRX11_40 okl0 e9 (fun okb8 => ?_)
      refine x_getI (pc := 60) dX11_ran_60 qRX11_205 okb8 (by decide) ?_
      exact x_iret (pc := 63) dX11_ran_63 rfl hex hnn hzz ⟨_, rfl, hwp⟩
    by_cases c10 : l1 = 2
    · have hwp := hwp.2.2.1 c10
      refine x_tabIn (tgt := 64) (pc := 13) dX11_ran_13 (by rw [q_teq c10 (n := 2) (by decide)]; decide) (by rw [q_teq c10 (n := 2) (by decide)]; decide) (by rw [q_teq c10 (n := 2) (by decide)]; rfl) (by decide) ?_
      refine x_aload_n (pc := 64) dX11_ran_64 rfl ?_
      obtain ⟨b11, e12, hwp⟩ := hwp
      refine x_getR (pc := 65) dX11_ran_65 qRX11_40 okl0 e12 (fun okb11 => ?_)
      refine x_getI (pc := 68) dX11_ran_68 qRX11_208 okb11 (by decide) ?_
      exact x_iret (pc := 71) dX11_ran_71 rfl hex hnn hzz ⟨_, rfl, hwp⟩
    by_cases c13 : l1 = 3
    · have hwp := hwp.2.2.2.1 c13
      refine x_tabIn (tgt := 72) (pc := 13) dX11_ran_13 (by rw [q_teq c13 (n := 3) (by decide)]; decide) (by rw [q_teq c13 (n := 3) (by decide)]; decide) (by rw [q_teq c13 (n := 3) (by decide)]; rfl) (by decide) ?_
      refine x_aload_n (pc := 72) dX11_ran_72 rfl ?_
      obtain ⟨b14, e15, hwp⟩ := hwp
      refine x_getR (pc := 73) dX11_ran_73 qRX11_40 okl0 e15 (fun okb14 => ?_)
      refine x_getI (pc := 76) dX11_ran_76 qRX11_211 okb14 (by decide) ?_
      exact x_iret (pc := 79) dX11_ran_79 rfl hex hnn hzz ⟨_, rfl, hwp⟩
    by_cases c16 : l1 = 4
    · have hwp := hwp.2.2.2.2.1 c16
      refine x_tabIn (tgt := 80) (pc := 13) dX11_ran_13 (by rw [q_teq c16 (n := 4) (by decide)]; decide) (by rw [q_teq c16 (n := 4) (by decide)]; decide) (by rw [q_teq c16 (n := 4) (by decide)]; rfl) (by decide) ?_
      refine x_aload_n (pc := 80) dX11_ran_80 rfl ?_
      obtain ⟨b17, e18, hwp⟩ := hwp
      refine x_getR (pc := 81) dX11_ran_81 qRX11_40 okl0 e18 (fun okb17 => ?_)
      refine x_getI (pc := 84) dX11_ran_84 qRX11_214 okb17 (by decide) ?_
      refine x_if_eq (tgt := 94) (pc := 87) dX11_ran_87 (by decide) (fun c19 => ?_) (fun c19 => ?_)
      · have hwp := hwp.1 c19
        refine x_iconst (v := 0) (pc := 94) dX11_ran_94 (by decide) ?_
        exact x_iret (pc := 95) dX11_ran_95 rfl hex hnn hzz ⟨_, rfl, hwp⟩
      · have hwp := hwp.2 c19
        refine x_iconst (v := 1) (pc := 90) dX11_ran_90 (by decide) ?_
        refine x_goto (tgt := 95) (pc := 91) dX11_ran_91 (by decide) ?_
        exact x_iret (pc := 95) dX11_ran_95 rfl hex hnn hzz ⟨_, rfl, hwp⟩
    have hwp := hwp.2.2.2.2.2 c4 c7 c10 c13 c16
    refine x_tabOut (tgt := 96) (pc := 13) dX11_ran_13 (by have := q_tne c4 (n := 0) (by decide); have := q_tne c7 (n := 1) (by decide); have := q_tne c10 (n := 2) (by decide); have := q_tne c13 (n := 3) (by decide); have := q_tne c16 (n := 4) (by decide); omega) (by decide) ?_
    refine x_iconst (v := (-1)) (pc := 96) dX11_ran_96 (by decide) ?_
    exact x_iret (pc := 97) dX11_ran_97 rfl hex hnn hzz ⟨_, rfl, hwp⟩
  · have hwp := hwp.2 c3
    refine x_iconst (v := (-1)) (pc := 10) dX11_ran_10 (by decide) ?_
    exact x_iret (pc := 11) dX11_ran_11 rfl hex hnn hzz ⟨_, rfl, hwp⟩

theorem dX11_stands_0 : decode cX11_stands 0 = .ok (.iload_n 1, 1) := by decide +kernel
theorem dX11_stands_1 : decode cX11_stands 1 = .ok (.invokestatic 162, 3) := by decide +kernel
theorem dX11_stands_4 : decode cX11_stands 4 = .ok (.ifCond .ne 5, 3) := by decide +kernel
theorem dX11_stands_7 : decode cX11_stands 7 = .ok (.iconst (-1), 1) := by decide +kernel
theorem dX11_stands_8 : decode cX11_stands 8 = .ok (.ireturn, 1) := by decide +kernel
theorem dX11_stands_9 : decode cX11_stands 9 = .ok (.aload_n 0, 1) := by decide +kernel
theorem dX11_stands_10 : decode cX11_stands 10 = .ok (.getfield 33, 3) := by decide +kernel
theorem dX11_stands_13 : decode cX11_stands 13 = .ok (.aload_n 0, 1) := by decide +kernel
theorem dX11_stands_14 : decode cX11_stands 14 = .ok (.getfield 26, 3) := by decide +kernel
theorem dX11_stands_17 : decode cX11_stands 17 = .ok (.iload_n 1, 1) := by decide +kernel
theorem dX11_stands_18 : decode cX11_stands 18 = .ok (.invokevirtual 183, 3) := by decide +kernel
theorem dX11_stands_21 : decode cX11_stands 21 = .ok (.aload_n 0, 1) := by decide +kernel
theorem dX11_stands_22 : decode cX11_stands 22 = .ok (.iconst 0, 1) := by decide +kernel
theorem dX11_stands_23 : decode cX11_stands 23 = .ok (.putfield 95, 3) := by decide +kernel
theorem dX11_stands_26 : decode cX11_stands 26 = .ok (.iconst 0, 1) := by decide +kernel
theorem dX11_stands_27 : decode cX11_stands 27 = .ok (.istore_n 2, 1) := by decide +kernel
theorem dX11_stands_28 : decode cX11_stands 28 = .ok (.iload_n 2, 1) := by decide +kernel
theorem dX11_stands_29 : decode cX11_stands 29 = .ok (.aload_n 0, 1) := by decide +kernel
theorem dX11_stands_30 : decode cX11_stands 30 = .ok (.getfield 70, 3) := by decide +kernel
theorem dX11_stands_33 : decode cX11_stands 33 = .ok (.getfield 148, 3) := by decide +kernel
theorem dX11_stands_36 : decode cX11_stands 36 = .ok (.if_icmp .ge 53, 3) := by decide +kernel
theorem dX11_stands_39 : decode cX11_stands 39 = .ok (.aload_n 0, 1) := by decide +kernel
theorem dX11_stands_40 : decode cX11_stands 40 = .ok (.getfield 33, 3) := by decide +kernel
theorem dX11_stands_43 : decode cX11_stands 43 = .ok (.getfield 217, 3) := by decide +kernel
theorem dX11_stands_46 : decode cX11_stands 46 = .ok (.iload_n 2, 1) := by decide +kernel
theorem dX11_stands_47 : decode cX11_stands 47 = .ok (.iaload, 1) := by decide +kernel
theorem dX11_stands_48 : decode cX11_stands 48 = .ok (.ifCond .ge 35, 3) := by decide +kernel
theorem dX11_stands_51 : decode cX11_stands 51 = .ok (.aload_n 0, 1) := by decide +kernel
theorem dX11_stands_52 : decode cX11_stands 52 = .ok (.getfield 33, 3) := by decide +kernel
theorem dX11_stands_55 : decode cX11_stands 55 = .ok (.getfield 220, 3) := by decide +kernel
theorem dX11_stands_58 : decode cX11_stands 58 = .ok (.iload_n 2, 1) := by decide +kernel
theorem dX11_stands_59 : decode cX11_stands 59 = .ok (.iaload, 1) := by decide +kernel
theorem dX11_stands_60 : decode cX11_stands 60 = .ok (.ifCond .ge 23, 3) := by decide +kernel
theorem dX11_stands_63 : decode cX11_stands 63 = .ok (.aload_n 0, 1) := by decide +kernel
theorem dX11_stands_64 : decode cX11_stands 64 = .ok (.getfield 60, 3) := by decide +kernel
theorem dX11_stands_67 : decode cX11_stands 67 = .ok (.aload_n 0, 1) := by decide +kernel
theorem dX11_stands_68 : decode cX11_stands 68 = .ok (.getfield 95, 3) := by decide +kernel
theorem dX11_stands_71 : decode cX11_stands 71 = .ok (.iload_n 2, 1) := by decide +kernel
theorem dX11_stands_72 : decode cX11_stands 72 = .ok (.iastore, 1) := by decide +kernel
theorem dX11_stands_73 : decode cX11_stands 73 = .ok (.aload_n 0, 1) := by decide +kernel
theorem dX11_stands_74 : decode cX11_stands 74 = .ok (.dup, 1) := by decide +kernel
theorem dX11_stands_75 : decode cX11_stands 75 = .ok (.getfield 95, 3) := by decide +kernel
theorem dX11_stands_78 : decode cX11_stands 78 = .ok (.iconst 1, 1) := by decide +kernel
theorem dX11_stands_79 : decode cX11_stands 79 = .ok (.iadd, 1) := by decide +kernel
theorem dX11_stands_80 : decode cX11_stands 80 = .ok (.putfield 95, 3) := by decide +kernel
theorem dX11_stands_83 : decode cX11_stands 83 = .ok (.iinc 2 1, 3) := by decide +kernel
theorem dX11_stands_86 : decode cX11_stands 86 = .ok (.goto (-58), 3) := by decide +kernel
theorem dX11_stands_89 : decode cX11_stands 89 = .ok (.aload_n 0, 1) := by decide +kernel
theorem dX11_stands_90 : decode cX11_stands 90 = .ok (.getfield 95, 3) := by decide +kernel
theorem dX11_stands_93 : decode cX11_stands 93 = .ok (.ireturn, 1) := by decide +kernel
def E_X11_stands_28 (G : GT) (d : Nat) (h0 hb : PH) (l0 : Nat) (Q : Int32 → PH → Prop) (s : Int32 × PH) : Prop := qEx hb s.2 ∧ qn s.2 = qn hb ∧ qz s.2 = qz hb → Ex G (qrm (2 + d) 0 0) mX11_stands (qn h0) (qz h0) (ZN G h0 0 0 (qqi Q)) 28 [(0, .ref l0), (2, .int s.1)] [] s.2
def wb_X11_stands_28 (l0 : Nat)  (Q : Int32 → PH → Prop) (bk28 : Int32 × PH → Prop) (l2 : Int32) (h : PH) : Prop := (∃ b11, qR h l0 10 = some b11 ∧ (((qI h b11 2) ≤ l2 → Q (qI h l0 16) h) ∧ (¬ ((qI h b11 2) ≤ l2) → (∃ b14, qR h l0 3 = some b14 ∧ (∃ b16, qR h b14 0 = some b16 ∧ (vp_in l2 (qL h b16) ∧ ((0 ≤ (qI h b16 l2.toNatClampNeg) → ∀ v20 : Int32, v20 = l2 + 1 → bk28 (v20, h)) ∧ (¬ (0 ≤ (qI h b16 l2.toNatClampNeg)) → (∃ b21, qR h l0 3 = some b21 ∧ (∃ b23, qR h b21 1 = some b23 ∧ (vp_in l2 (qL h b23) ∧ ((0 ≤ (qI h b23 l2.toNatClampNeg) → ∀ v27 : Int32, v27 = l2 + 1 → bk28 (v27, h)) ∧ (¬ (0 ≤ (qI h b23 l2.toNatClampNeg)) → (∃ b28, qR h l0 8 = some b28 ∧ (vp_in (qI h l0 16) (qL h b28) ∧ ∀ h30, h30 = qsI h b28 (qI h l0 16).toNatClampNeg l2 → (∀ h32, h32 = qsI h30 l0 16 ((qI h30 l0 16) + 1) → ∀ v33 : Int32, v33 = l2 + 1 → bk28 (v33, h32)))))))))))))))))
def wp_X11_stands_28 (l0 : Nat)  (Q : Int32 → PH → Prop) (bk28 : Int32 × PH → Prop) (s : Int32 × PH) : Prop := wb_X11_stands_28 l0 Q bk28 s.1 s.2
set_option maxHeartbeats 4000000 in
set_option maxRecDepth 100000 in
theorem bd_X11_stands_28 (G : GT) (d : Nat) (h0 hb : PH) (l0 : Nat) (Q : Int32 → PH → Prop)  (hex : qEx h0 hb) (hnn : qn hb = qn h0 + 0) (hzz : qz hb = qz h0 + 0) (okl0 : qOK hb 10 l0) (bk28 : Int32 × PH → Prop) (hbk28 : ∀ s2, bk28 s2 → E_X11_stands_28 G d h0 hb l0 Q s2) (l2 : Int32) (h : PH) (hwp : wb_X11_stands_28 l0 Q bk28 l2 h) (hx28 : qEx hb h) (hn28 : qn h = qn hb) (hz28 : qz h = qz hb) : Ex G (qrm (2 + d) 0 0) mX11_stands (qn h0) (qz h0) (ZN G h0 0 0 (qqi Q)) 28 [(0, .ref l0), (2, .int l2)] [] h := by
  unfold wb_X11_stands_28 at hwp
  have hex := hex.tr hx28
  have hnn := hn28.trans hnn
  have hzz := hz28.trans hzz
  have okl0 := okl0.ex hx28
  refine x_iload_n (pc := 28) dX11_stands_28 rfl ?_
  refine x_aload_n (pc := 29) dX11_stands_29 rfl ?_
  obtain ⟨b11, e12, hwp⟩ := hwp
  refine x_getR (pc := 30) dX11_stands_30 qRX11_70 okl0 e12 (fun okb11 => ?_)
  refine x_getI (pc := 33) dX11_stands_33 qRX11_148 okb11 (by decide) ?_
  refine x_icmp_ge (tgt := 89) (pc := 36) dX11_stands_36 (by decide) (fun c13 => ?_) (fun c13 => ?_)
  · have hwp := hwp.1 c13
    refine x_aload_n (pc := 89) dX11_stands_89 rfl ?_
    refine x_getI (pc := 90) dX11_stands_90 qRX11_95 okl0 (by decide) ?_
    exact x_iret (pc := 93) dX11_stands_93 rfl hex hnn hzz ⟨_, rfl, hwp⟩
  · have hwp := hwp.2 c13
    refine x_aload_n (pc := 39) dX11_stands_39 rfl ?_
    obtain ⟨b14, e15, hwp⟩ := hwp
    refine x_getR (pc := 40) dX11_stands_40 qRX11_33 okl0 e15 (fun okb14 => ?_)
    obtain ⟨b16, e17, hwp⟩ := hwp
    refine x_getR (pc := 43) dX11_stands_43 qRX11_217 okb14 e17 (fun okb16 => ?_)
    refine x_iload_n (pc := 46) dX11_stands_46 rfl ?_
    obtain ⟨i18, hwp⟩ := hwp
    refine x_iaload (pc := 47) dX11_stands_47 okb16 i18 ?_
    refine x_if_ge (tgt := 83) (pc := 48) dX11_stands_48 (by decide) (fun c19 => ?_) (fun c19 => ?_)
    · have hwp := hwp.1 c19
      refine y_iinc (c := 1) (pc := 83) dX11_stands_83 rfl (by decide) (by decide) (fun v20 ev20 => ?_)
      have hwp := hwp v20 ev20
      refine x_lvE (lv2 := [(2, .int v20), (0, .ref l0)]) rfl ?_
      refine x_goto (tgt := 28) (pc := 86) dX11_stands_86 (by decide) ?_
      refine x_sub [1, 0] rfl ?_
      exact hbk28 _ hwp ⟨hx28, hn28, hz28⟩
    · have hwp := hwp.2 c19
      refine x_aload_n (pc := 51) dX11_stands_51 rfl ?_
      obtain ⟨b21, e22, hwp⟩ := hwp
      refine x_getR (pc := 52) dX11_stands_52 qRX11_33 okl0 e22 (fun okb21 => ?_)
      obtain ⟨b23, e24, hwp⟩ := hwp
      refine x_getR (pc := 55) dX11_stands_55 qRX11_220 okb21 e24 (fun okb23 => ?_)
      refine x_iload_n (pc := 58) dX11_stands_58 rfl ?_
      obtain ⟨i25, hwp⟩ := hwp
      refine x_iaload (pc := 59) dX11_stands_59 okb23 i25 ?_
      refine x_if_ge (tgt := 83) (pc := 60) dX11_stands_60 (by decide) (fun c26 => ?_) (fun c26 => ?_)
      · have hwp := hwp.1 c26
        refine y_iinc (c := 1) (pc := 83) dX11_stands_83 rfl (by decide) (by decide) (fun v27 ev27 => ?_)
        have hwp := hwp v27 ev27
        refine x_lvE (lv2 := [(2, .int v27), (0, .ref l0)]) rfl ?_
        refine x_goto (tgt := 28) (pc := 86) dX11_stands_86 (by decide) ?_
        refine x_sub [1, 0] rfl ?_
        exact hbk28 _ hwp ⟨hx28, hn28, hz28⟩
      · have hwp := hwp.2 c26
        refine x_aload_n (pc := 63) dX11_stands_63 rfl ?_
        obtain ⟨b28, e29, hwp⟩ := hwp
        refine x_getR (pc := 64) dX11_stands_64 qRX11_60 okl0 e29 (fun okb28 => ?_)
        refine x_aload_n (pc := 67) dX11_stands_67 rfl ?_
        refine x_getI (pc := 68) dX11_stands_68 qRX11_95 okl0 (by decide) ?_
        refine x_iload_n (pc := 71) dX11_stands_71 rfl ?_
        obtain ⟨i31, hwp⟩ := hwp
        refine y_iastore (pc := 72) dX11_stands_72 okb28 i31 (fun h30 eh30 nxh30 => ?_)
        have hwp := hwp h30 eh30
        have hex := hex.tr nxh30.1
        have hnn := nxh30.2.1.trans hnn
        have hzz := nxh30.2.2.trans hzz
        have hx28 := hx28.tr nxh30.1
        have hn28 := nxh30.2.1.trans hn28
        have hz28 := nxh30.2.2.trans hz28
        have okl0 := okl0.ex nxh30.1
        have okb11 := okb11.ex nxh30.1
        have okb14 := okb14.ex nxh30.1
        have okb16 := okb16.ex nxh30.1
        have okb21 := okb21.ex nxh30.1
        have okb23 := okb23.ex nxh30.1
        have okb28 := okb28.ex nxh30.1
        refine x_aload_n (pc := 73) dX11_stands_73 rfl ?_
        refine x_dup (pc := 74) dX11_stands_74 rfl ?_
        refine x_getI (pc := 75) dX11_stands_75 qRX11_95 okl0 (by decide) ?_
        refine x_iconst (v := 1) (pc := 78) dX11_stands_78 (by decide) ?_
        refine x_iadd (pc := 79) dX11_stands_79 ?_
        refine y_putI (pc := 80) dX11_stands_80 qRX11_95 okl0 (fun h32 eh32 nxh32 => ?_)
        have hwp := hwp h32 eh32
        have hex := hex.tr nxh32.1
        have hnn := nxh32.2.1.trans hnn
        have hzz := nxh32.2.2.trans hzz
        have hx28 := hx28.tr nxh32.1
        have hn28 := nxh32.2.1.trans hn28
        have hz28 := nxh32.2.2.trans hz28
        have okl0 := okl0.ex nxh32.1
        have okb11 := okb11.ex nxh32.1
        have okb14 := okb14.ex nxh32.1
        have okb16 := okb16.ex nxh32.1
        have okb21 := okb21.ex nxh32.1
        have okb23 := okb23.ex nxh32.1
        have okb28 := okb28.ex nxh32.1
        refine y_iinc (c := 1) (pc := 83) dX11_stands_83 rfl (by decide) (by decide) (fun v33 ev33 => ?_)
        have hwp := hwp v33 ev33
        refine x_lvE (lv2 := [(2, .int v33), (0, .ref l0)]) rfl ?_
        refine x_goto (tgt := 28) (pc := 86) dX11_stands_86 (by decide) ?_
        refine x_sub [1, 0] rfl ?_
        exact hbk28 _ hwp ⟨hx28, hn28, hz28⟩
theorem lp_X11_stands_28 (G : GT) (d : Nat) (h0 hb : PH) (l0 : Nat) (Q : Int32 → PH → Prop)  (hex : qEx h0 hb) (hnn : qn hb = qn h0 + 0) (hzz : qz hb = qz h0 + 0) (okl0 : qOK hb 10 l0) {s : Int32 × PH} (hwp : qLoop (wp_X11_stands_28 l0 Q) s) : E_X11_stands_28 G d h0 hb l0 Q s :=
  qLoop.use (E := E_X11_stands_28 G d h0 hb l0 Q) (fun back s hbk hw hx => bd_X11_stands_28 G d h0 hb l0 Q hex hnn hzz okl0 back hbk s.1 s.2 hw hx.1 hx.2.1 hx.2.2) hwp
def wp_X11_stands (l0 : Nat) (l1 : Int32) (h : PH) (Q : Int32 → PH → Prop) : Prop := (wp_X11_isLawSet l1 h (fun r2 h1 => ((¬ r2 = 0 → (∃ b4, qR h1 l0 3 = some b4 ∧ (∃ b6, qR h1 l0 2 = some b6 ∧ (wp_X10_prepare b4 b6 l1 h1 (fun h8 => (∀ h10, h10 = qsI h8 l0 16 0 → (qLoop (wp_X11_stands_28 l0 Q) (0, h10)))))))) ∧ (r2 = 0 → Q (-1) h1))))
set_option maxHeartbeats 4000000 in
set_option maxRecDepth 100000 in
theorem sn_X11_stands (G : GT) (d : Nat) (l0 : Nat) (l1 : Int32) (h : PH) (Q : Int32 → PH → Prop) (okl0 : qOK h 10 l0) (hwp : wp_X11_stands l0 l1 h Q) : Mt G (2 + d) 0 0 mX11_stands [.ref l0, .int l1] h (qqi Q) := by
  unfold wp_X11_stands at hwp
  refine Mt.of (by decide) rfl (Nat.le_of_ble_eq_true rfl) ?_
  have hex := qEx.rf h
  have hnn : qn h = qn h + 0 := rfl
  have hzz : qz h = qz h + 0 := rfl
  refine x_lvE (lv2 := [(0, .ref l0), (1, .int l1)]) rfl ?_
  refine x_iload_n (pc := 0) dX11_stands_0 rfl ?_
  refine x_invS (As := [.int l1]) (st := []) (pc := 1) dX11_stands_1 lRX11_162 fX11_isLawSet sX11_isLawSet rfl (Nat.le_of_ble_eq_true rfl) (q_R (by omega) (by decide)) (q_C hnn hzz (by decide) (by decide)) (sn_X11_isLawSet G (d + 1) l1 h _  hwp) (k_b (fun r2 h1 hwp zbr2 cxh1 => ?_))
  have hex := hex.tr cxh1.1
  have hnn : qn h1 = qn h + 0 := by have := cxh1.2.1; omega
  have hzz : qz h1 = qz h + 0 := by have := cxh1.2.2; omega
  have okl0 := okl0.ex cxh1.1
  refine x_if_ne (tgt := 9) (pc := 4) dX11_stands_4 (by decide) (fun c3 => ?_) (fun c3 => ?_)
  · have hwp := hwp.1 c3
    refine x_aload_n (pc := 9) dX11_stands_9 rfl ?_
    obtain ⟨b4, e5, hwp⟩ := hwp
    refine x_getR (pc := 10) dX11_stands_10 qRX11_33 okl0 e5 (fun okb4 => ?_)
    refine x_aload_n (pc := 13) dX11_stands_13 rfl ?_
    obtain ⟨b6, e7, hwp⟩ := hwp
    refine x_getR (pc := 14) dX11_stands_14 qRX11_26 okl0 e7 (fun okb6 => ?_)
    refine x_iload_n (pc := 17) dX11_stands_17 rfl ?_
    refine x_invV (As := [.ref b6, .int l1]) (st := []) (pc := 18) dX11_stands_18 lRX11_183 fX10_prepare vX10_prepare okb4 rfl (Nat.le_of_ble_eq_true rfl) (q_R (by omega) (by decide)) (q_C hnn hzz (by decide) (by decide)) (sn_X10_prepare G (d + 0) b4 b6 l1 h1 _ okb4 okb6 hwp) (k_v (fun h8 hwp cxh8 => ?_))
    have hex := hex.tr cxh8.1
    have hnn : qn h8 = qn h + 0 := by have := cxh8.2.1; omega
    have hzz : qz h8 = qz h + 0 := by have := cxh8.2.2; omega
    have okl0 := okl0.ex cxh8.1
    have okb4 := okb4.ex cxh8.1
    have okb6 := okb6.ex cxh8.1
    refine x_aload_n (pc := 21) dX11_stands_21 rfl ?_
    refine x_iconst (v := 0) (pc := 22) dX11_stands_22 (by decide) ?_
    refine y_putI (pc := 23) dX11_stands_23 qRX11_95 okl0 (fun h10 eh10 nxh10 => ?_)
    have hwp := hwp h10 eh10
    have hex := hex.tr nxh10.1
    have hnn := nxh10.2.1.trans hnn
    have hzz := nxh10.2.2.trans hzz
    have okl0 := okl0.ex nxh10.1
    have okb4 := okb4.ex nxh10.1
    have okb6 := okb6.ex nxh10.1
    refine x_iconst (v := 0) (pc := 26) dX11_stands_26 (by decide) ?_
    refine x_istore_n (lv2 := [(2, .int 0), (0, .ref l0), (1, .int l1)]) (pc := 27) dX11_stands_27 (by decide) rfl ?_
    refine x_sub [1, 0] rfl ?_
    exact lp_X11_stands_28 G d h h10 l0 Q hex hnn hzz okl0 hwp ⟨qEx.rf _, rfl, rfl⟩
  · have hwp := hwp.2 c3
    refine x_iconst (v := (-1)) (pc := 7) dX11_stands_7 (by decide) ?_
    exact x_iret (pc := 8) dX11_stands_8 rfl hex hnn hzz ⟨_, rfl, hwp⟩

theorem dX11_stand_0 : decode cX11_stand 0 = .ok (.iload_n 1, 1) := by decide +kernel
theorem dX11_stand_1 : decode cX11_stand 1 = .ok (.ifCond .lt 20, 3) := by decide +kernel
theorem dX11_stand_4 : decode cX11_stand 4 = .ok (.iload_n 1, 1) := by decide +kernel
theorem dX11_stand_5 : decode cX11_stand 5 = .ok (.aload_n 0, 1) := by decide +kernel
theorem dX11_stand_6 : decode cX11_stand 6 = .ok (.getfield 95, 3) := by decide +kernel
theorem dX11_stand_9 : decode cX11_stand 9 = .ok (.if_icmp .ge 12, 3) := by decide +kernel
theorem dX11_stand_12 : decode cX11_stand 12 = .ok (.aload_n 0, 1) := by decide +kernel
theorem dX11_stand_13 : decode cX11_stand 13 = .ok (.getfield 60, 3) := by decide +kernel
theorem dX11_stand_16 : decode cX11_stand 16 = .ok (.iload_n 1, 1) := by decide +kernel
theorem dX11_stand_17 : decode cX11_stand 17 = .ok (.iaload, 1) := by decide +kernel
theorem dX11_stand_18 : decode cX11_stand 18 = .ok (.goto 4, 3) := by decide +kernel
theorem dX11_stand_21 : decode cX11_stand 21 = .ok (.iconst (-1), 1) := by decide +kernel
theorem dX11_stand_22 : decode cX11_stand 22 = .ok (.ireturn, 1) := by decide +kernel
def wp_X11_stand (l0 : Nat) (l1 : Int32) (h : PH) (Q : Int32 → PH → Prop) : Prop := ((l1 < 0 → Q (-1) h) ∧ (¬ (l1 < 0) → (((qI h l0 16) ≤ l1 → Q (-1) h) ∧ (¬ ((qI h l0 16) ≤ l1) → (∃ b3, qR h l0 8 = some b3 ∧ (vp_in l1 (qL h b3) ∧ Q (qI h b3 l1.toNatClampNeg) h))))))
set_option maxHeartbeats 4000000 in
set_option maxRecDepth 100000 in
theorem sn_X11_stand (G : GT) (d : Nat) (l0 : Nat) (l1 : Int32) (h : PH) (Q : Int32 → PH → Prop) (okl0 : qOK h 10 l0) (hwp : wp_X11_stand l0 l1 h Q) : Mt G (0 + d) 0 0 mX11_stand [.ref l0, .int l1] h (qqi Q) := by
  unfold wp_X11_stand at hwp
  refine Mt.of (by decide) rfl (Nat.le_of_ble_eq_true rfl) ?_
  have hex := qEx.rf h
  have hnn : qn h = qn h + 0 := rfl
  have hzz : qz h = qz h + 0 := rfl
  refine x_lvE (lv2 := [(0, .ref l0), (1, .int l1)]) rfl ?_
  refine x_iload_n (pc := 0) dX11_stand_0 rfl ?_
  refine x_if_lt (tgt := 21) (pc := 1) dX11_stand_1 (by decide) (fun c1 => ?_) (fun c1 => ?_)
  · have hwp := hwp.1 c1
    refine x_iconst (v := (-1)) (pc := 21) dX11_stand_21 (by decide) ?_
    exact x_iret (pc := 22) dX11_stand_22 rfl hex hnn hzz ⟨_, rfl, hwp⟩
  · have hwp := hwp.2 c1
    refine x_iload_n (pc := 4) dX11_stand_4 rfl ?_
    refine x_aload_n (pc := 5) dX11_stand_5 rfl ?_
    refine x_getI (pc := 6) dX11_stand_6 qRX11_95 okl0 (by decide) ?_
    refine x_icmp_ge (tgt := 21) (pc := 9) dX11_stand_9 (by decide) (fun c2 => ?_) (fun c2 => ?_)
    · have hwp := hwp.1 c2
      refine x_iconst (v := (-1)) (pc := 21) dX11_stand_21 (by decide) ?_
      exact x_iret (pc := 22) dX11_stand_22 rfl hex hnn hzz ⟨_, rfl, hwp⟩
    · have hwp := hwp.2 c2
      refine x_aload_n (pc := 12) dX11_stand_12 rfl ?_
      obtain ⟨b3, e4, hwp⟩ := hwp
      refine x_getR (pc := 13) dX11_stand_13 qRX11_60 okl0 e4 (fun okb3 => ?_)
      refine x_iload_n (pc := 16) dX11_stand_16 rfl ?_
      obtain ⟨i5, hwp⟩ := hwp
      refine x_iaload (pc := 17) dX11_stand_17 okb3 i5 ?_
      refine x_goto (tgt := 22) (pc := 18) dX11_stand_18 (by decide) ?_
      exact x_iret (pc := 22) dX11_stand_22 rfl hex hnn hzz ⟨_, rfl, hwp⟩

theorem dX11_claim_0 : decode cX11_claim 0 = .ok (.aload_n 0, 1) := by decide +kernel
theorem dX11_claim_1 : decode cX11_claim 1 = .ok (.sipush 200, 3) := by decide +kernel
theorem dX11_claim_4 : decode cX11_claim 4 = .ok (.invokevirtual 109, 3) := by decide +kernel
theorem dX11_claim_7 : decode cX11_claim 7 = .ok (.aload_n 0, 1) := by decide +kernel
theorem dX11_claim_8 : decode cX11_claim 8 = .ok (.getfield 84, 3) := by decide +kernel
theorem dX11_claim_11 : decode cX11_claim 11 = .ok (.aload_n 0, 1) := by decide +kernel
theorem dX11_claim_12 : decode cX11_claim 12 = .ok (.getfield 19, 3) := by decide +kernel
theorem dX11_claim_15 : decode cX11_claim 15 = .ok (.invokevirtual 223, 3) := by decide +kernel
theorem dX11_claim_18 : decode cX11_claim 18 = .ok (.ifCond .ne 11, 3) := by decide +kernel
theorem dX11_claim_21 : decode cX11_claim 21 = .ok (.aload_n 0, 1) := by decide +kernel
theorem dX11_claim_22 : decode cX11_claim 22 = .ok (.getfield 19, 3) := by decide +kernel
theorem dX11_claim_25 : decode cX11_claim 25 = .ok (.invokevirtual 116, 3) := by decide +kernel
theorem dX11_claim_28 : decode cX11_claim 28 = .ok (.ireturn, 1) := by decide +kernel
theorem dX11_claim_29 : decode cX11_claim 29 = .ok (.aload_n 0, 1) := by decide +kernel
theorem dX11_claim_30 : decode cX11_claim 30 = .ok (.getfield 84, 3) := by decide +kernel
theorem dX11_claim_33 : decode cX11_claim 33 = .ok (.astore_n 1, 1) := by decide +kernel
theorem dX11_claim_34 : decode cX11_claim 34 = .ok (.aload_n 0, 1) := by decide +kernel
theorem dX11_claim_35 : decode cX11_claim 35 = .ok (.aload_n 0, 1) := by decide +kernel
theorem dX11_claim_36 : decode cX11_claim 36 = .ok (.getfield 80, 3) := by decide +kernel
theorem dX11_claim_39 : decode cX11_claim 39 = .ok (.putfield 84, 3) := by decide +kernel
theorem dX11_claim_42 : decode cX11_claim 42 = .ok (.aload_n 0, 1) := by decide +kernel
theorem dX11_claim_43 : decode cX11_claim 43 = .ok (.aload_n 1, 1) := by decide +kernel
theorem dX11_claim_44 : decode cX11_claim 44 = .ok (.putfield 80, 3) := by decide +kernel
theorem dX11_claim_47 : decode cX11_claim 47 = .ok (.aload_n 0, 1) := by decide +kernel
theorem dX11_claim_48 : decode cX11_claim 48 = .ok (.getfield 80, 3) := by decide +kernel
theorem dX11_claim_51 : decode cX11_claim 51 = .ok (.getfield 224, 3) := by decide +kernel
theorem dX11_claim_54 : decode cX11_claim 54 = .ok (.ireturn, 1) := by decide +kernel
def wp_X11_claim (l0 : Nat) (h : PH) (Q : Int32 → PH → Prop) : Prop := (wp_X11_cutTape l0 200 h (fun h1 => (∃ b3, qR h1 l0 13 = some b3 ∧ (∃ b5, qR h1 l0 1 = some b5 ∧ (wp_X0_readFrom b3 b5 h1 (fun r8 h7 => ((¬ r8 = 0 → (∃ b10, qR h7 l0 13 = some b10 ∧ (∃ b12, qR h7 l0 12 = some b12 ∧ (∀ h14, h14 = qsR h7 l0 13 (some b12) → (∀ h15, h15 = qsR h14 l0 12 (some b10) → (∃ b16, qR h15 l0 12 = some b16 ∧ Q (qI h15 b16 6) h15)))))) ∧ (r8 = 0 → (∃ b18, qR h7 l0 1 = some b18 ∧ (wp_X7_faultAnswer b18 h7 (fun r21 h20 => Q r21 h20)))))))))))
set_option maxHeartbeats 4000000 in
set_option maxRecDepth 100000 in
theorem sn_X11_claim (G : GT) (d : Nat) (l0 : Nat) (h : PH) (Q : Int32 → PH → Prop) (okl0 : qOK h 10 l0) (hwp : wp_X11_claim l0 h Q) : Mt G (45 + d) 0 0 mX11_claim [.ref l0] h (qqi Q) := by
  unfold wp_X11_claim at hwp
  refine Mt.of (by decide) rfl (Nat.le_of_ble_eq_true rfl) ?_
  have hex := qEx.rf h
  have hnn : qn h = qn h + 0 := rfl
  have hzz : qz h = qz h + 0 := rfl
  refine x_lvE (lv2 := [(0, .ref l0)]) rfl ?_
  refine x_aload_n (pc := 0) dX11_claim_0 rfl ?_
  refine x_sipush (v := 200) (pc := 1) dX11_claim_1 (by decide) ?_
  refine x_invV (As := [.int 200]) (st := []) (pc := 4) dX11_claim_4 lRX11_109 fX11_cutTape vX11_cutTape okl0 rfl (Nat.le_of_ble_eq_true rfl) (q_R (by omega) (by decide)) (q_C hnn hzz (by decide) (by decide)) (sn_X11_cutTape G (d + 41) l0 200 h _ okl0 hwp) (k_v (fun h1 hwp cxh1 => ?_))
  have hex := hex.tr cxh1.1
  have hnn : qn h1 = qn h + 0 := by have := cxh1.2.1; omega
  have hzz : qz h1 = qz h + 0 := by have := cxh1.2.2; omega
  have okl0 := okl0.ex cxh1.1
  refine x_aload_n (pc := 7) dX11_claim_7 rfl ?_
  obtain ⟨b3, e4, hwp⟩ := hwp
  refine x_getR (pc := 8) dX11_claim_8 qRX11_84 okl0 e4 (fun okb3 => ?_)
  refine x_aload_n (pc := 11) dX11_claim_11 rfl ?_
  obtain ⟨b5, e6, hwp⟩ := hwp
  refine x_getR (pc := 12) dX11_claim_12 qRX11_19 okl0 e6 (fun okb5 => ?_)
  refine x_invV (As := [.ref b5]) (st := []) (pc := 15) dX11_claim_15 lRX11_223 fX0_readFrom vX0_readFrom okb3 rfl (Nat.le_of_ble_eq_true rfl) (q_R (by omega) (by decide)) (q_C hnn hzz (by decide) (by decide)) (sn_X0_readFrom G (d + 0) b3 b5 h1 _ okb3 okb5 hwp) (k_b (fun r8 h7 hwp zbr8 cxh7 => ?_))
  have hex := hex.tr cxh7.1
  have hnn : qn h7 = qn h + 0 := by have := cxh7.2.1; omega
  have hzz : qz h7 = qz h + 0 := by have := cxh7.2.2; omega
  have okl0 := okl0.ex cxh7.1
  have okb3 := okb3.ex cxh7.1
  have okb5 := okb5.ex cxh7.1
  refine x_if_ne (tgt := 29) (pc := 18) dX11_claim_18 (by decide) (fun c9 => ?_) (fun c9 => ?_)
  · have hwp := hwp.1 c9
    refine x_aload_n (pc := 29) dX11_claim_29 rfl ?_
    obtain ⟨b10, e11, hwp⟩ := hwp
    refine x_getR (pc := 30) dX11_claim_30 qRX11_84 okl0 e11 (fun okb10 => ?_)
    refine x_astore_n (lv2 := [(1, .ref b10), (0, .ref l0)]) (pc := 33) dX11_claim_33 (by decide) rfl ?_
    refine x_aload_n (pc := 34) dX11_claim_34 rfl ?_
    refine x_aload_n (pc := 35) dX11_claim_35 rfl ?_
    obtain ⟨b12, e13, hwp⟩ := hwp
    refine x_getR (pc := 36) dX11_claim_36 qRX11_80 okl0 e13 (fun okb12 => ?_)
    refine y_putR (pc := 39) dX11_claim_39 qRX11_84 okl0 okb12 (fun h14 eh14 nxh14 => ?_)
    have hwp := hwp h14 eh14
    have hex := hex.tr nxh14.1
    have hnn := nxh14.2.1.trans hnn
    have hzz := nxh14.2.2.trans hzz
    have okl0 := okl0.ex nxh14.1
    have okb3 := okb3.ex nxh14.1
    have okb5 := okb5.ex nxh14.1
    have okb10 := okb10.ex nxh14.1
    have okb12 := okb12.ex nxh14.1
    refine x_aload_n (pc := 42) dX11_claim_42 rfl ?_
    refine x_aload_n (pc := 43) dX11_claim_43 rfl ?_
    refine y_putR (pc := 44) dX11_claim_44 qRX11_80 okl0 okb10 (fun h15 eh15 nxh15 => ?_)
    have hwp := hwp h15 eh15
    have hex := hex.tr nxh15.1
    have hnn := nxh15.2.1.trans hnn
    have hzz := nxh15.2.2.trans hzz
    have okl0 := okl0.ex nxh15.1
    have okb3 := okb3.ex nxh15.1
    have okb5 := okb5.ex nxh15.1
    have okb10 := okb10.ex nxh15.1
    have okb12 := okb12.ex nxh15.1
    refine x_aload_n (pc := 47) dX11_claim_47 rfl ?_
    obtain ⟨b16, e17, hwp⟩ := hwp
    refine x_getR (pc := 48) dX11_claim_48 qRX11_80 okl0 e17 (fun okb16 => ?_)
    refine x_getI (pc := 51) dX11_claim_51 qRX11_224 okb16 (by decide) ?_
    exact x_iret (pc := 54) dX11_claim_54 rfl hex hnn hzz ⟨_, rfl, hwp⟩
  · have hwp := hwp.2 c9
    refine x_aload_n (pc := 21) dX11_claim_21 rfl ?_
    obtain ⟨b18, e19, hwp⟩ := hwp
    refine x_getR (pc := 22) dX11_claim_22 qRX11_19 okl0 e19 (fun okb18 => ?_)
    refine x_invV (As := []) (st := []) (pc := 25) dX11_claim_25 lRX11_116 fX7_faultAnswer vX7_faultAnswer okb18 rfl (Nat.le_of_ble_eq_true rfl) (q_R (by omega) (by decide)) (q_C hnn hzz (by decide) (by decide)) (sn_X7_faultAnswer G (d + 44) b18 h7 _ okb18 hwp) (k_i (fun r21 h20 hwp cxh20 => ?_))
    have hex := hex.tr cxh20.1
    have hnn : qn h20 = qn h + 0 := by have := cxh20.2.1; omega
    have hzz : qz h20 = qz h + 0 := by have := cxh20.2.2; omega
    have okl0 := okl0.ex cxh20.1
    have okb3 := okb3.ex cxh20.1
    have okb5 := okb5.ex cxh20.1
    have okb18 := okb18.ex cxh20.1
    exact x_iret (pc := 28) dX11_claim_28 rfl hex hnn hzz ⟨_, rfl, hwp⟩

theorem dX11_firstAtWhichClaimIs_0 : decode cX11_firstAtWhichClaimIs 0 = .ok (.iconst 0, 1) := by decide +kernel
theorem dX11_firstAtWhichClaimIs_1 : decode cX11_firstAtWhichClaimIs 1 = .ok (.istore_n 2, 1) := by decide +kernel
theorem dX11_firstAtWhichClaimIs_2 : decode cX11_firstAtWhichClaimIs 2 = .ok (.iload_n 2, 1) := by decide +kernel
theorem dX11_firstAtWhichClaimIs_3 : decode cX11_firstAtWhichClaimIs 3 = .ok (.aload_n 0, 1) := by decide +kernel
theorem dX11_firstAtWhichClaimIs_4 : decode cX11_firstAtWhichClaimIs 4 = .ok (.getfield 70, 3) := by decide +kernel
theorem dX11_firstAtWhichClaimIs_7 : decode cX11_firstAtWhichClaimIs 7 = .ok (.getfield 148, 3) := by decide +kernel
theorem dX11_firstAtWhichClaimIs_10 : decode cX11_firstAtWhichClaimIs 10 = .ok (.if_icmp .ge 27, 3) := by decide +kernel
theorem dX11_firstAtWhichClaimIs_13 : decode cX11_firstAtWhichClaimIs 13 = .ok (.aload_n 0, 1) := by decide +kernel
theorem dX11_firstAtWhichClaimIs_14 : decode cX11_firstAtWhichClaimIs 14 = .ok (.getfield 80, 3) := by decide +kernel
theorem dX11_firstAtWhichClaimIs_17 : decode cX11_firstAtWhichClaimIs 17 = .ok (.iload_n 2, 1) := by decide +kernel
theorem dX11_firstAtWhichClaimIs_18 : decode cX11_firstAtWhichClaimIs 18 = .ok (.aload_n 0, 1) := by decide +kernel
theorem dX11_firstAtWhichClaimIs_19 : decode cX11_firstAtWhichClaimIs 19 = .ok (.getfield 26, 3) := by decide +kernel
theorem dX11_firstAtWhichClaimIs_22 : decode cX11_firstAtWhichClaimIs 22 = .ok (.invokevirtual 234, 3) := by decide +kernel
theorem dX11_firstAtWhichClaimIs_25 : decode cX11_firstAtWhichClaimIs 25 = .ok (.iload_n 1, 1) := by decide +kernel
theorem dX11_firstAtWhichClaimIs_26 : decode cX11_firstAtWhichClaimIs 26 = .ok (.if_icmp .ne 5, 3) := by decide +kernel
theorem dX11_firstAtWhichClaimIs_29 : decode cX11_firstAtWhichClaimIs 29 = .ok (.iload_n 2, 1) := by decide +kernel
theorem dX11_firstAtWhichClaimIs_30 : decode cX11_firstAtWhichClaimIs 30 = .ok (.ireturn, 1) := by decide +kernel
theorem dX11_firstAtWhichClaimIs_31 : decode cX11_firstAtWhichClaimIs 31 = .ok (.iinc 2 1, 3) := by decide +kernel
theorem dX11_firstAtWhichClaimIs_34 : decode cX11_firstAtWhichClaimIs 34 = .ok (.goto (-32), 3) := by decide +kernel
theorem dX11_firstAtWhichClaimIs_37 : decode cX11_firstAtWhichClaimIs 37 = .ok (.iconst (-1), 1) := by decide +kernel
theorem dX11_firstAtWhichClaimIs_38 : decode cX11_firstAtWhichClaimIs 38 = .ok (.ireturn, 1) := by decide +kernel
def E_X11_firstAtWhichClaimIs_2 (G : GT) (d : Nat) (h0 hb : PH) (l0 : Nat) (l1 : Int32) (Q : Int32 → PH → Prop) (s : Int32 × PH) : Prop := qEx hb s.2 ∧ qn s.2 = qn hb ∧ qz s.2 = qz hb → Ex G (qrm (3 + d) 0 0) mX11_firstAtWhichClaimIs (qn h0) (qz h0) (ZN G h0 0 0 (qqi Q)) 2 [(0, .ref l0), (1, .int l1), (2, .int s.1)] [] s.2
def wb_X11_firstAtWhichClaimIs_2 (l0 : Nat) (l1 : Int32)  (Q : Int32 → PH → Prop) (bk2 : Int32 × PH → Prop) (l2 : Int32) (h : PH) : Prop := (∃ b1, qR h l0 10 = some b1 ∧ (((qI h b1 2) ≤ l2 → Q (-1) h) ∧ (¬ ((qI h b1 2) ≤ l2) → (∃ b4, qR h l0 12 = some b4 ∧ (∃ b6, qR h l0 2 = some b6 ∧ (wp_X0_isSoAt b4 l2 b6 h (fun r9 h8 => ((¬ r9 = l1 → ∀ v11 : Int32, v11 = l2 + 1 → bk2 (v11, h8)) ∧ (r9 = l1 → Q l2 h8)))))))))
def wp_X11_firstAtWhichClaimIs_2 (l0 : Nat) (l1 : Int32)  (Q : Int32 → PH → Prop) (bk2 : Int32 × PH → Prop) (s : Int32 × PH) : Prop := wb_X11_firstAtWhichClaimIs_2 l0 l1 Q bk2 s.1 s.2
set_option maxHeartbeats 4000000 in
set_option maxRecDepth 100000 in
theorem bd_X11_firstAtWhichClaimIs_2 (G : GT) (d : Nat) (h0 hb : PH) (l0 : Nat) (l1 : Int32) (Q : Int32 → PH → Prop)  (hex : qEx h0 hb) (hnn : qn hb = qn h0 + 0) (hzz : qz hb = qz h0 + 0) (okl0 : qOK hb 10 l0) (bk2 : Int32 × PH → Prop) (hbk2 : ∀ s2, bk2 s2 → E_X11_firstAtWhichClaimIs_2 G d h0 hb l0 l1 Q s2) (l2 : Int32) (h : PH) (hwp : wb_X11_firstAtWhichClaimIs_2 l0 l1 Q bk2 l2 h) (hx2 : qEx hb h) (hn2 : qn h = qn hb) (hz2 : qz h = qz hb) : Ex G (qrm (3 + d) 0 0) mX11_firstAtWhichClaimIs (qn h0) (qz h0) (ZN G h0 0 0 (qqi Q)) 2 [(0, .ref l0), (1, .int l1), (2, .int l2)] [] h := by
  unfold wb_X11_firstAtWhichClaimIs_2 at hwp
  have hex := hex.tr hx2
  have hnn := hn2.trans hnn
  have hzz := hz2.trans hzz
  have okl0 := okl0.ex hx2
  refine x_iload_n (pc := 2) dX11_firstAtWhichClaimIs_2 rfl ?_
  refine x_aload_n (pc := 3) dX11_firstAtWhichClaimIs_3 rfl ?_
  obtain ⟨b1, e2, hwp⟩ := hwp
  refine x_getR (pc := 4) dX11_firstAtWhichClaimIs_4 qRX11_70 okl0 e2 (fun okb1 => ?_)
  refine x_getI (pc := 7) dX11_firstAtWhichClaimIs_7 qRX11_148 okb1 (by decide) ?_
  refine x_icmp_ge (tgt := 37) (pc := 10) dX11_firstAtWhichClaimIs_10 (by decide) (fun c3 => ?_) (fun c3 => ?_)
  · have hwp := hwp.1 c3
    refine x_iconst (v := (-1)) (pc := 37) dX11_firstAtWhichClaimIs_37 (by decide) ?_
    exact x_iret (pc := 38) dX11_firstAtWhichClaimIs_38 rfl hex hnn hzz ⟨_, rfl, hwp⟩
  · have hwp := hwp.2 c3
    refine x_aload_n (pc := 13) dX11_firstAtWhichClaimIs_13 rfl ?_
    obtain ⟨b4, e5, hwp⟩ := hwp
    refine x_getR (pc := 14) dX11_firstAtWhichClaimIs_14 qRX11_80 okl0 e5 (fun okb4 => ?_)
    refine x_iload_n (pc := 17) dX11_firstAtWhichClaimIs_17 rfl ?_
    refine x_aload_n (pc := 18) dX11_firstAtWhichClaimIs_18 rfl ?_
    obtain ⟨b6, e7, hwp⟩ := hwp
    refine x_getR (pc := 19) dX11_firstAtWhichClaimIs_19 qRX11_26 okl0 e7 (fun okb6 => ?_)
    refine x_invV (As := [.int l2, .ref b6]) (st := []) (pc := 22) dX11_firstAtWhichClaimIs_22 lRX11_234 fX0_isSoAt vX0_isSoAt okb4 rfl (Nat.le_of_ble_eq_true rfl) (q_R (by omega) (by decide)) (q_C hnn hzz (by decide) (by decide)) (sn_X0_isSoAt G (d + 0) b4 l2 b6 h _ okb4 okb6 hwp) (k_b (fun r9 h8 hwp zbr9 cxh8 => ?_))
    have hex := hex.tr cxh8.1
    have hnn : qn h8 = qn h0 + 0 := by have := cxh8.2.1; omega
    have hzz : qz h8 = qz h0 + 0 := by have := cxh8.2.2; omega
    have hx2 := hx2.tr cxh8.1
    have hn2 : qn h8 = qn hb := by have := cxh8.2.1; omega
    have hz2 : qz h8 = qz hb := by have := cxh8.2.2; omega
    have okl0 := okl0.ex cxh8.1
    have okb1 := okb1.ex cxh8.1
    have okb4 := okb4.ex cxh8.1
    have okb6 := okb6.ex cxh8.1
    refine x_iload_n (pc := 25) dX11_firstAtWhichClaimIs_25 rfl ?_
    refine x_icmp_ne (tgt := 31) (pc := 26) dX11_firstAtWhichClaimIs_26 (by decide) (fun c10 => ?_) (fun c10 => ?_)
    · have hwp := hwp.1 c10
      refine y_iinc (c := 1) (pc := 31) dX11_firstAtWhichClaimIs_31 rfl (by decide) (by decide) (fun v11 ev11 => ?_)
      have hwp := hwp v11 ev11
      refine x_lvE (lv2 := [(2, .int v11), (0, .ref l0), (1, .int l1)]) rfl ?_
      refine x_goto (tgt := 2) (pc := 34) dX11_firstAtWhichClaimIs_34 (by decide) ?_
      refine x_sub [1, 2, 0] rfl ?_
      exact hbk2 _ hwp ⟨hx2, hn2, hz2⟩
    · have hwp := hwp.2 c10
      refine x_iload_n (pc := 29) dX11_firstAtWhichClaimIs_29 rfl ?_
      exact x_iret (pc := 30) dX11_firstAtWhichClaimIs_30 rfl hex hnn hzz ⟨_, rfl, hwp⟩
theorem lp_X11_firstAtWhichClaimIs_2 (G : GT) (d : Nat) (h0 hb : PH) (l0 : Nat) (l1 : Int32) (Q : Int32 → PH → Prop)  (hex : qEx h0 hb) (hnn : qn hb = qn h0 + 0) (hzz : qz hb = qz h0 + 0) (okl0 : qOK hb 10 l0) {s : Int32 × PH} (hwp : qLoop (wp_X11_firstAtWhichClaimIs_2 l0 l1 Q) s) : E_X11_firstAtWhichClaimIs_2 G d h0 hb l0 l1 Q s :=
  qLoop.use (E := E_X11_firstAtWhichClaimIs_2 G d h0 hb l0 l1 Q) (fun back s hbk hw hx => bd_X11_firstAtWhichClaimIs_2 G d h0 hb l0 l1 Q hex hnn hzz okl0 back hbk s.1 s.2 hw hx.1 hx.2.1 hx.2.2) hwp
def wp_X11_firstAtWhichClaimIs (l0 : Nat) (l1 : Int32) (h : PH) (Q : Int32 → PH → Prop) : Prop := (qLoop (wp_X11_firstAtWhichClaimIs_2 l0 l1 Q) (0, h))
set_option maxHeartbeats 4000000 in
set_option maxRecDepth 100000 in
theorem sn_X11_firstAtWhichClaimIs (G : GT) (d : Nat) (l0 : Nat) (l1 : Int32) (h : PH) (Q : Int32 → PH → Prop) (okl0 : qOK h 10 l0) (hwp : wp_X11_firstAtWhichClaimIs l0 l1 h Q) : Mt G (3 + d) 0 0 mX11_firstAtWhichClaimIs [.ref l0, .int l1] h (qqi Q) := by
  unfold wp_X11_firstAtWhichClaimIs at hwp
  refine Mt.of (by decide) rfl (Nat.le_of_ble_eq_true rfl) ?_
  have hex := qEx.rf h
  have hnn : qn h = qn h + 0 := rfl
  have hzz : qz h = qz h + 0 := rfl
  refine x_lvE (lv2 := [(0, .ref l0), (1, .int l1)]) rfl ?_
  refine x_iconst (v := 0) (pc := 0) dX11_firstAtWhichClaimIs_0 (by decide) ?_
  refine x_istore_n (lv2 := [(2, .int 0), (0, .ref l0), (1, .int l1)]) (pc := 1) dX11_firstAtWhichClaimIs_1 (by decide) rfl ?_
  refine x_sub [1, 2, 0] rfl ?_
  exact lp_X11_firstAtWhichClaimIs_2 G d h h l0 l1 Q hex hnn hzz okl0 hwp ⟨qEx.rf _, rfl, rfl⟩

theorem dX11_holds_0 : decode cX11_holds 0 = .ok (.aload_n 0, 1) := by decide +kernel
theorem dX11_holds_1 : decode cX11_holds 1 = .ok (.getfield 80, 3) := by decide +kernel
theorem dX11_holds_4 : decode cX11_holds 4 = .ok (.getfield 227, 3) := by decide +kernel
theorem dX11_holds_7 : decode cX11_holds 7 = .ok (.tableswitch 76 1 3 #[25, 40, 55], 25) := by decide +kernel
theorem dX11_holds_32 : decode cX11_holds 32 = .ok (.aload_n 0, 1) := by decide +kernel
theorem dX11_holds_33 : decode cX11_holds 33 = .ok (.iconst 0, 1) := by decide +kernel
theorem dX11_holds_34 : decode cX11_holds 34 = .ok (.invokevirtual 230, 3) := by decide +kernel
theorem dX11_holds_37 : decode cX11_holds 37 = .ok (.iconst (-1), 1) := by decide +kernel
theorem dX11_holds_38 : decode cX11_holds 38 = .ok (.if_icmp .ne 7, 3) := by decide +kernel
theorem dX11_holds_41 : decode cX11_holds 41 = .ok (.iconst 1, 1) := by decide +kernel
theorem dX11_holds_42 : decode cX11_holds 42 = .ok (.goto 4, 3) := by decide +kernel
theorem dX11_holds_45 : decode cX11_holds 45 = .ok (.iconst 0, 1) := by decide +kernel
theorem dX11_holds_46 : decode cX11_holds 46 = .ok (.ireturn, 1) := by decide +kernel
theorem dX11_holds_47 : decode cX11_holds 47 = .ok (.aload_n 0, 1) := by decide +kernel
theorem dX11_holds_48 : decode cX11_holds 48 = .ok (.iconst 1, 1) := by decide +kernel
theorem dX11_holds_49 : decode cX11_holds 49 = .ok (.invokevirtual 230, 3) := by decide +kernel
theorem dX11_holds_52 : decode cX11_holds 52 = .ok (.iconst (-1), 1) := by decide +kernel
theorem dX11_holds_53 : decode cX11_holds 53 = .ok (.if_icmp .ne 7, 3) := by decide +kernel
theorem dX11_holds_56 : decode cX11_holds 56 = .ok (.iconst 0, 1) := by decide +kernel
theorem dX11_holds_57 : decode cX11_holds 57 = .ok (.goto 4, 3) := by decide +kernel
theorem dX11_holds_60 : decode cX11_holds 60 = .ok (.iconst 1, 1) := by decide +kernel
theorem dX11_holds_61 : decode cX11_holds 61 = .ok (.ireturn, 1) := by decide +kernel
theorem dX11_holds_62 : decode cX11_holds 62 = .ok (.aload_n 0, 1) := by decide +kernel
theorem dX11_holds_63 : decode cX11_holds 63 = .ok (.getfield 80, 3) := by decide +kernel
theorem dX11_holds_66 : decode cX11_holds 66 = .ok (.iconst (-1), 1) := by decide +kernel
theorem dX11_holds_67 : decode cX11_holds 67 = .ok (.aload_n 0, 1) := by decide +kernel
theorem dX11_holds_68 : decode cX11_holds 68 = .ok (.getfield 26, 3) := by decide +kernel
theorem dX11_holds_71 : decode cX11_holds 71 = .ok (.invokevirtual 234, 3) := by decide +kernel
theorem dX11_holds_74 : decode cX11_holds 74 = .ok (.ifCond .eq 7, 3) := by decide +kernel
theorem dX11_holds_77 : decode cX11_holds 77 = .ok (.iconst 1, 1) := by decide +kernel
theorem dX11_holds_78 : decode cX11_holds 78 = .ok (.goto 4, 3) := by decide +kernel
theorem dX11_holds_81 : decode cX11_holds 81 = .ok (.iconst 0, 1) := by decide +kernel
theorem dX11_holds_82 : decode cX11_holds 82 = .ok (.ireturn, 1) := by decide +kernel
theorem dX11_holds_83 : decode cX11_holds 83 = .ok (.iconst (-1), 1) := by decide +kernel
theorem dX11_holds_84 : decode cX11_holds 84 = .ok (.ireturn, 1) := by decide +kernel
def wp_X11_holds (l0 : Nat) (h : PH) (Q : Int32 → PH → Prop) : Prop := (∃ b1, qR h l0 12 = some b1 ∧ (((qI h b1 4) = 1 → (wp_X11_firstAtWhichClaimIs l0 0 h (fun r5 h4 => ((¬ r5 = (-1) → Q 0 h4) ∧ (r5 = (-1) → Q 1 h4))))) ∧ ((qI h b1 4) = 2 → (wp_X11_firstAtWhichClaimIs l0 1 h (fun r9 h8 => ((¬ r9 = (-1) → Q 1 h8) ∧ (r9 = (-1) → Q 0 h8))))) ∧ ((qI h b1 4) = 3 → (∃ b12, qR h l0 12 = some b12 ∧ (∃ b14, qR h l0 2 = some b14 ∧ (wp_X0_isSoAt b12 (-1) b14 h (fun r17 h16 => ((r17 = 0 → Q 0 h16) ∧ (¬ (r17 = 0) → Q 1 h16))))))) ∧ (¬ (qI h b1 4) = 1 → ¬ (qI h b1 4) = 2 → ¬ (qI h b1 4) = 3 → Q (-1) h)))
set_option maxHeartbeats 4000000 in
set_option maxRecDepth 100000 in
theorem sn_X11_holds (G : GT) (d : Nat) (l0 : Nat) (h : PH) (Q : Int32 → PH → Prop) (okl0 : qOK h 10 l0) (hwp : wp_X11_holds l0 h Q) : Mt G (4 + d) 0 0 mX11_holds [.ref l0] h (qqi Q) := by
  unfold wp_X11_holds at hwp
  refine Mt.of (by decide) rfl (Nat.le_of_ble_eq_true rfl) ?_
  have hex := qEx.rf h
  have hnn : qn h = qn h + 0 := rfl
  have hzz : qz h = qz h + 0 := rfl
  refine x_lvE (lv2 := [(0, .ref l0)]) rfl ?_
  refine x_aload_n (pc := 0) dX11_holds_0 rfl ?_
  obtain ⟨b1, e2, hwp⟩ := hwp
  refine x_getR (pc := 1) dX11_holds_1 qRX11_80 okl0 e2 (fun okb1 => ?_)
  refine x_getI (pc := 4) dX11_holds_4 qRX11_227 okb1 (by decide) ?_
  by_cases c3 : (qI h b1 4) = 1
  · have hwp := hwp.1 c3
    refine x_tabIn (tgt := 32) (pc := 7) dX11_holds_7 (by rw [q_teq c3 (n := 1) (by decide)]; decide) (by rw [q_teq c3 (n := 1) (by decide)]; decide) (by rw [q_teq c3 (n := 1) (by decide)]; rfl) (by decide) ?_
    refine x_aload_n (pc := 32) dX11_holds_32 rfl ?_
    refine x_iconst (v := 0) (pc := 33) dX11_holds_33 (by decide) ?_
    refine x_invV (As := [.int 0]) (st := []) (pc := 34) dX11_holds_34 lRX11_230 fX11_firstAtWhichClaimIs vX11_firstAtWhichClaimIs okl0 rfl (Nat.le_of_ble_eq_true rfl) (q_R (by omega) (by decide)) (q_C hnn hzz (by decide) (by decide)) (sn_X11_firstAtWhichClaimIs G (d + 0) l0 0 h _ okl0 hwp) (k_i (fun r5 h4 hwp cxh4 => ?_))
    have hex := hex.tr cxh4.1
    have hnn : qn h4 = qn h + 0 := by have := cxh4.2.1; omega
    have hzz : qz h4 = qz h + 0 := by have := cxh4.2.2; omega
    have okl0 := okl0.ex cxh4.1
    have okb1 := okb1.ex cxh4.1
    refine x_iconst (v := (-1)) (pc := 37) dX11_holds_37 (by decide) ?_
    refine x_icmp_ne (tgt := 45) (pc := 38) dX11_holds_38 (by decide) (fun c6 => ?_) (fun c6 => ?_)
    · have hwp := hwp.1 c6
      refine x_iconst (v := 0) (pc := 45) dX11_holds_45 (by decide) ?_
      exact x_iret (pc := 46) dX11_holds_46 rfl hex hnn hzz ⟨_, rfl, hwp⟩
    · have hwp := hwp.2 c6
      refine x_iconst (v := 1) (pc := 41) dX11_holds_41 (by decide) ?_
      refine x_goto (tgt := 46) (pc := 42) dX11_holds_42 (by decide) ?_
      exact x_iret (pc := 46) dX11_holds_46 rfl hex hnn hzz ⟨_, rfl, hwp⟩
  by_cases c7 : (qI h b1 4) = 2
  · have hwp := hwp.2.1 c7
    refine x_tabIn (tgt := 47) (pc := 7) dX11_holds_7 (by rw [q_teq c7 (n := 2) (by decide)]; decide) (by rw [q_teq c7 (n := 2) (by decide)]; decide) (by rw [q_teq c7 (n := 2) (by decide)]; rfl) (by decide) ?_
    refine x_aload_n (pc := 47) dX11_holds_47 rfl ?_
    refine x_iconst (v := 1) (pc := 48) dX11_holds_48 (by decide) ?_
    refine x_invV (As := [.int 1]) (st := []) (pc := 49) dX11_holds_49 lRX11_230 fX11_firstAtWhichClaimIs vX11_firstAtWhichClaimIs okl0 rfl (Nat.le_of_ble_eq_true rfl) (q_R (by omega) (by decide)) (q_C hnn hzz (by decide) (by decide)) (sn_X11_firstAtWhichClaimIs G (d + 0) l0 1 h _ okl0 hwp) (k_i (fun r9 h8 hwp cxh8 => ?_))
    have hex := hex.tr cxh8.1
    have hnn : qn h8 = qn h + 0 := by have := cxh8.2.1; omega
    have hzz : qz h8 = qz h + 0 := by have := cxh8.2.2; omega
    have okl0 := okl0.ex cxh8.1
    have okb1 := okb1.ex cxh8.1
    refine x_iconst (v := (-1)) (pc := 52) dX11_holds_52 (by decide) ?_
    refine x_icmp_ne (tgt := 60) (pc := 53) dX11_holds_53 (by decide) (fun c10 => ?_) (fun c10 => ?_)
    · have hwp := hwp.1 c10
      refine x_iconst (v := 1) (pc := 60) dX11_holds_60 (by decide) ?_
      exact x_iret (pc := 61) dX11_holds_61 rfl hex hnn hzz ⟨_, rfl, hwp⟩
    · have hwp := hwp.2 c10
      refine x_iconst (v := 0) (pc := 56) dX11_holds_56 (by decide) ?_
      refine x_goto (tgt := 61) (pc := 57) dX11_holds_57 (by decide) ?_
      exact x_iret (pc := 61) dX11_holds_61 rfl hex hnn hzz ⟨_, rfl, hwp⟩
  by_cases c11 : (qI h b1 4) = 3
  · have hwp := hwp.2.2.1 c11
    refine x_tabIn (tgt := 62) (pc := 7) dX11_holds_7 (by rw [q_teq c11 (n := 3) (by decide)]; decide) (by rw [q_teq c11 (n := 3) (by decide)]; decide) (by rw [q_teq c11 (n := 3) (by decide)]; rfl) (by decide) ?_
    refine x_aload_n (pc := 62) dX11_holds_62 rfl ?_
    obtain ⟨b12, e13, hwp⟩ := hwp
    refine x_getR (pc := 63) dX11_holds_63 qRX11_80 okl0 e13 (fun okb12 => ?_)
    refine x_iconst (v := (-1)) (pc := 66) dX11_holds_66 (by decide) ?_
    refine x_aload_n (pc := 67) dX11_holds_67 rfl ?_
    obtain ⟨b14, e15, hwp⟩ := hwp
    refine x_getR (pc := 68) dX11_holds_68 qRX11_26 okl0 e15 (fun okb14 => ?_)
    refine x_invV (As := [.int (-1), .ref b14]) (st := []) (pc := 71) dX11_holds_71 lRX11_234 fX0_isSoAt vX0_isSoAt okb12 rfl (Nat.le_of_ble_eq_true rfl) (q_R (by omega) (by decide)) (q_C hnn hzz (by decide) (by decide)) (sn_X0_isSoAt G (d + 1) b12 (-1) b14 h _ okb12 okb14 hwp) (k_b (fun r17 h16 hwp zbr17 cxh16 => ?_))
    have hex := hex.tr cxh16.1
    have hnn : qn h16 = qn h + 0 := by have := cxh16.2.1; omega
    have hzz : qz h16 = qz h + 0 := by have := cxh16.2.2; omega
    have okl0 := okl0.ex cxh16.1
    have okb1 := okb1.ex cxh16.1
    have okb12 := okb12.ex cxh16.1
    have okb14 := okb14.ex cxh16.1
    refine x_if_eq (tgt := 81) (pc := 74) dX11_holds_74 (by decide) (fun c18 => ?_) (fun c18 => ?_)
    · have hwp := hwp.1 c18
      refine x_iconst (v := 0) (pc := 81) dX11_holds_81 (by decide) ?_
      exact x_iret (pc := 82) dX11_holds_82 rfl hex hnn hzz ⟨_, rfl, hwp⟩
    · have hwp := hwp.2 c18
      refine x_iconst (v := 1) (pc := 77) dX11_holds_77 (by decide) ?_
      refine x_goto (tgt := 82) (pc := 78) dX11_holds_78 (by decide) ?_
      exact x_iret (pc := 82) dX11_holds_82 rfl hex hnn hzz ⟨_, rfl, hwp⟩
  have hwp := hwp.2.2.2 c3 c7 c11
  refine x_tabOut (tgt := 83) (pc := 7) dX11_holds_7 (by have := q_tne c3 (n := 1) (by decide); have := q_tne c7 (n := 2) (by decide); have := q_tne c11 (n := 3) (by decide); omega) (by decide) ?_
  refine x_iconst (v := (-1)) (pc := 83) dX11_holds_83 (by decide) ?_
  exact x_iret (pc := 84) dX11_holds_84 rfl hex hnn hzz ⟨_, rfl, hwp⟩

theorem dX11_where_0 : decode cX11_where 0 = .ok (.aload_n 0, 1) := by decide +kernel
theorem dX11_where_1 : decode cX11_where 1 = .ok (.getfield 80, 3) := by decide +kernel
theorem dX11_where_4 : decode cX11_where 4 = .ok (.getfield 227, 3) := by decide +kernel
theorem dX11_where_7 : decode cX11_where 7 = .ok (.iconst 1, 1) := by decide +kernel
theorem dX11_where_8 : decode cX11_where 8 = .ok (.if_icmp .ne 11, 3) := by decide +kernel
theorem dX11_where_11 : decode cX11_where 11 = .ok (.aload_n 0, 1) := by decide +kernel
theorem dX11_where_12 : decode cX11_where 12 = .ok (.iconst 0, 1) := by decide +kernel
theorem dX11_where_13 : decode cX11_where 13 = .ok (.invokevirtual 230, 3) := by decide +kernel
theorem dX11_where_16 : decode cX11_where 16 = .ok (.goto 4, 3) := by decide +kernel
theorem dX11_where_19 : decode cX11_where 19 = .ok (.iconst (-1), 1) := by decide +kernel
theorem dX11_where_20 : decode cX11_where 20 = .ok (.ireturn, 1) := by decide +kernel
def wp_X11_where (l0 : Nat) (h : PH) (Q : Int32 → PH → Prop) : Prop := (∃ b1, qR h l0 12 = some b1 ∧ ((¬ (qI h b1 4) = 1 → Q (-1) h) ∧ ((qI h b1 4) = 1 → (wp_X11_firstAtWhichClaimIs l0 0 h (fun r5 h4 => Q r5 h4)))))
set_option maxHeartbeats 4000000 in
set_option maxRecDepth 100000 in
theorem sn_X11_where (G : GT) (d : Nat) (l0 : Nat) (h : PH) (Q : Int32 → PH → Prop) (okl0 : qOK h 10 l0) (hwp : wp_X11_where l0 h Q) : Mt G (4 + d) 0 0 mX11_where [.ref l0] h (qqi Q) := by
  unfold wp_X11_where at hwp
  refine Mt.of (by decide) rfl (Nat.le_of_ble_eq_true rfl) ?_
  have hex := qEx.rf h
  have hnn : qn h = qn h + 0 := rfl
  have hzz : qz h = qz h + 0 := rfl
  refine x_lvE (lv2 := [(0, .ref l0)]) rfl ?_
  refine x_aload_n (pc := 0) dX11_where_0 rfl ?_
  obtain ⟨b1, e2, hwp⟩ := hwp
  refine x_getR (pc := 1) dX11_where_1 qRX11_80 okl0 e2 (fun okb1 => ?_)
  refine x_getI (pc := 4) dX11_where_4 qRX11_227 okb1 (by decide) ?_
  refine x_iconst (v := 1) (pc := 7) dX11_where_7 (by decide) ?_
  refine x_icmp_ne (tgt := 19) (pc := 8) dX11_where_8 (by decide) (fun c3 => ?_) (fun c3 => ?_)
  · have hwp := hwp.1 c3
    refine x_iconst (v := (-1)) (pc := 19) dX11_where_19 (by decide) ?_
    exact x_iret (pc := 20) dX11_where_20 rfl hex hnn hzz ⟨_, rfl, hwp⟩
  · have hwp := hwp.2 c3
    refine x_aload_n (pc := 11) dX11_where_11 rfl ?_
    refine x_iconst (v := 0) (pc := 12) dX11_where_12 (by decide) ?_
    refine x_invV (As := [.int 0]) (st := []) (pc := 13) dX11_where_13 lRX11_230 fX11_firstAtWhichClaimIs vX11_firstAtWhichClaimIs okl0 rfl (Nat.le_of_ble_eq_true rfl) (q_R (by omega) (by decide)) (q_C hnn hzz (by decide) (by decide)) (sn_X11_firstAtWhichClaimIs G (d + 0) l0 0 h _ okl0 hwp) (k_i (fun r5 h4 hwp cxh4 => ?_))
    have hex := hex.tr cxh4.1
    have hnn : qn h4 = qn h + 0 := by have := cxh4.2.1; omega
    have hzz : qz h4 = qz h + 0 := by have := cxh4.2.2; omega
    have okl0 := okl0.ex cxh4.1
    have okb1 := okb1.ex cxh4.1
    refine x_goto (tgt := 20) (pc := 16) dX11_where_16 (by decide) ?_
    exact x_iret (pc := 20) dX11_where_20 rfl hex hnn hzz ⟨_, rfl, hwp⟩

theorem dX11_goers_0 : decode cX11_goers 0 = .ok (.iconst 0, 1) := by decide +kernel
theorem dX11_goers_1 : decode cX11_goers 1 = .ok (.istore_n 1, 1) := by decide +kernel
theorem dX11_goers_2 : decode cX11_goers 2 = .ok (.iconst 0, 1) := by decide +kernel
theorem dX11_goers_3 : decode cX11_goers 3 = .ok (.istore_n 2, 1) := by decide +kernel
theorem dX11_goers_4 : decode cX11_goers 4 = .ok (.iload_n 2, 1) := by decide +kernel
theorem dX11_goers_5 : decode cX11_goers 5 = .ok (.bipush 32, 2) := by decide +kernel
theorem dX11_goers_7 : decode cX11_goers 7 = .ok (.if_icmp .ge 26, 3) := by decide +kernel
theorem dX11_goers_10 : decode cX11_goers 10 = .ok (.aload_n 0, 1) := by decide +kernel
theorem dX11_goers_11 : decode cX11_goers 11 = .ok (.getfield 26, 3) := by decide +kernel
theorem dX11_goers_14 : decode cX11_goers 14 = .ok (.iload_n 2, 1) := by decide +kernel
theorem dX11_goers_15 : decode cX11_goers 15 = .ok (.invokevirtual 173, 3) := by decide +kernel
theorem dX11_goers_18 : decode cX11_goers 18 = .ok (.ifCond .le 9, 3) := by decide +kernel
theorem dX11_goers_21 : decode cX11_goers 21 = .ok (.iload_n 1, 1) := by decide +kernel
theorem dX11_goers_22 : decode cX11_goers 22 = .ok (.iconst 1, 1) := by decide +kernel
theorem dX11_goers_23 : decode cX11_goers 23 = .ok (.iload_n 2, 1) := by decide +kernel
theorem dX11_goers_24 : decode cX11_goers 24 = .ok (.ishl, 1) := by decide +kernel
theorem dX11_goers_25 : decode cX11_goers 25 = .ok (.ior, 1) := by decide +kernel
theorem dX11_goers_26 : decode cX11_goers 26 = .ok (.istore_n 1, 1) := by decide +kernel
theorem dX11_goers_27 : decode cX11_goers 27 = .ok (.iinc 2 1, 3) := by decide +kernel
theorem dX11_goers_30 : decode cX11_goers 30 = .ok (.goto (-26), 3) := by decide +kernel
theorem dX11_goers_33 : decode cX11_goers 33 = .ok (.iload_n 1, 1) := by decide +kernel
theorem dX11_goers_34 : decode cX11_goers 34 = .ok (.ireturn, 1) := by decide +kernel
def E_X11_goers_4 (G : GT) (d : Nat) (h0 hb : PH) (l0 : Nat) (Q : Int32 → PH → Prop) (s : Int32 × Int32 × PH) : Prop := qEx hb s.2.2 ∧ qn s.2.2 = qn hb ∧ qz s.2.2 = qz hb → Ex G (qrm (2 + d) 0 0) mX11_goers (qn h0) (qz h0) (ZN G h0 0 0 (qqi Q)) 4 [(0, .ref l0), (1, .int s.1), (2, .int s.2.1)] [] s.2.2
def wb_X11_goers_4 (l0 : Nat)  (Q : Int32 → PH → Prop) (bk4 : Int32 × Int32 × PH → Prop) (l1 : Int32) (l2 : Int32) (h : PH) : Prop := ((32 ≤ l2 → Q l1 h) ∧ (¬ (32 ≤ l2) → (∃ b2, qR h l0 2 = some b2 ∧ (wp_X8_wholeWith b2 l2 h (fun r5 h4 => ((r5 ≤ 0 → ∀ v7 : Int32, v7 = l2 + 1 → bk4 (l1, v7, h4)) ∧ (¬ (r5 ≤ 0) → ∀ v8 : Int32, v8 = l1 ||| (1 <<< (l2 &&& 31)) → ∀ v9 : Int32, v9 = l2 + 1 → bk4 (v8, v9, h4))))))))
def wp_X11_goers_4 (l0 : Nat)  (Q : Int32 → PH → Prop) (bk4 : Int32 × Int32 × PH → Prop) (s : Int32 × Int32 × PH) : Prop := wb_X11_goers_4 l0 Q bk4 s.1 s.2.1 s.2.2
set_option maxHeartbeats 4000000 in
set_option maxRecDepth 100000 in
theorem bd_X11_goers_4 (G : GT) (d : Nat) (h0 hb : PH) (l0 : Nat) (Q : Int32 → PH → Prop)  (hex : qEx h0 hb) (hnn : qn hb = qn h0 + 0) (hzz : qz hb = qz h0 + 0) (okl0 : qOK hb 10 l0) (bk4 : Int32 × Int32 × PH → Prop) (hbk4 : ∀ s2, bk4 s2 → E_X11_goers_4 G d h0 hb l0 Q s2) (l1 : Int32) (l2 : Int32) (h : PH) (hwp : wb_X11_goers_4 l0 Q bk4 l1 l2 h) (hx4 : qEx hb h) (hn4 : qn h = qn hb) (hz4 : qz h = qz hb) : Ex G (qrm (2 + d) 0 0) mX11_goers (qn h0) (qz h0) (ZN G h0 0 0 (qqi Q)) 4 [(0, .ref l0), (1, .int l1), (2, .int l2)] [] h := by
  unfold wb_X11_goers_4 at hwp
  have hex := hex.tr hx4
  have hnn := hn4.trans hnn
  have hzz := hz4.trans hzz
  have okl0 := okl0.ex hx4
  refine x_iload_n (pc := 4) dX11_goers_4 rfl ?_
  refine x_bipush (v := 32) (pc := 5) dX11_goers_5 (by decide) ?_
  refine x_icmp_ge (tgt := 33) (pc := 7) dX11_goers_7 (by decide) (fun c1 => ?_) (fun c1 => ?_)
  · have hwp := hwp.1 c1
    refine x_iload_n (pc := 33) dX11_goers_33 rfl ?_
    exact x_iret (pc := 34) dX11_goers_34 rfl hex hnn hzz ⟨_, rfl, hwp⟩
  · have hwp := hwp.2 c1
    refine x_aload_n (pc := 10) dX11_goers_10 rfl ?_
    obtain ⟨b2, e3, hwp⟩ := hwp
    refine x_getR (pc := 11) dX11_goers_11 qRX11_26 okl0 e3 (fun okb2 => ?_)
    refine x_iload_n (pc := 14) dX11_goers_14 rfl ?_
    refine x_invV (As := [.int l2]) (st := []) (pc := 15) dX11_goers_15 lRX11_173 fX8_wholeWith vX8_wholeWith okb2 rfl (Nat.le_of_ble_eq_true rfl) (q_R (by omega) (by decide)) (q_C hnn hzz (by decide) (by decide)) (sn_X8_wholeWith G (d + 0) b2 l2 h _ okb2 hwp) (k_i (fun r5 h4 hwp cxh4 => ?_))
    have hex := hex.tr cxh4.1
    have hnn : qn h4 = qn h0 + 0 := by have := cxh4.2.1; omega
    have hzz : qz h4 = qz h0 + 0 := by have := cxh4.2.2; omega
    have hx4 := hx4.tr cxh4.1
    have hn4 : qn h4 = qn hb := by have := cxh4.2.1; omega
    have hz4 : qz h4 = qz hb := by have := cxh4.2.2; omega
    have okl0 := okl0.ex cxh4.1
    have okb2 := okb2.ex cxh4.1
    refine x_if_le (tgt := 27) (pc := 18) dX11_goers_18 (by decide) (fun c6 => ?_) (fun c6 => ?_)
    · have hwp := hwp.1 c6
      refine y_iinc (c := 1) (pc := 27) dX11_goers_27 rfl (by decide) (by decide) (fun v7 ev7 => ?_)
      have hwp := hwp v7 ev7
      refine x_lvE (lv2 := [(2, .int v7), (0, .ref l0), (1, .int l1)]) rfl ?_
      refine x_goto (tgt := 4) (pc := 30) dX11_goers_30 (by decide) ?_
      refine x_sub [1, 2, 0] rfl ?_
      exact hbk4 _ hwp ⟨hx4, hn4, hz4⟩
    · have hwp := hwp.2 c6
      refine x_iload_n (pc := 21) dX11_goers_21 rfl ?_
      refine x_iconst (v := 1) (pc := 22) dX11_goers_22 (by decide) ?_
      refine x_iload_n (pc := 23) dX11_goers_23 rfl ?_
      refine x_ishl (pc := 24) dX11_goers_24 ?_
      refine x_ior (pc := 25) dX11_goers_25 ?_
      refine x_nmI (fun v8 ev8 => ?_)
      have hwp := hwp v8 ev8
      refine x_istore_n (lv2 := [(1, .int v8), (0, .ref l0), (2, .int l2)]) (pc := 26) dX11_goers_26 (by decide) rfl ?_
      refine y_iinc (c := 1) (pc := 27) dX11_goers_27 rfl (by decide) (by decide) (fun v9 ev9 => ?_)
      have hwp := hwp v9 ev9
      refine x_lvE (lv2 := [(2, .int v9), (1, .int v8), (0, .ref l0)]) rfl ?_
      refine x_goto (tgt := 4) (pc := 30) dX11_goers_30 (by decide) ?_
      refine x_sub [2, 1, 0] rfl ?_
      exact hbk4 _ hwp ⟨hx4, hn4, hz4⟩
theorem lp_X11_goers_4 (G : GT) (d : Nat) (h0 hb : PH) (l0 : Nat) (Q : Int32 → PH → Prop)  (hex : qEx h0 hb) (hnn : qn hb = qn h0 + 0) (hzz : qz hb = qz h0 + 0) (okl0 : qOK hb 10 l0) {s : Int32 × Int32 × PH} (hwp : qLoop (wp_X11_goers_4 l0 Q) s) : E_X11_goers_4 G d h0 hb l0 Q s :=
  qLoop.use (E := E_X11_goers_4 G d h0 hb l0 Q) (fun back s hbk hw hx => bd_X11_goers_4 G d h0 hb l0 Q hex hnn hzz okl0 back hbk s.1 s.2.1 s.2.2 hw hx.1 hx.2.1 hx.2.2) hwp
def wp_X11_goers (l0 : Nat) (h : PH) (Q : Int32 → PH → Prop) : Prop := (qLoop (wp_X11_goers_4 l0 Q) (0, 0, h))
set_option maxHeartbeats 4000000 in
set_option maxRecDepth 100000 in
theorem sn_X11_goers (G : GT) (d : Nat) (l0 : Nat) (h : PH) (Q : Int32 → PH → Prop) (okl0 : qOK h 10 l0) (hwp : wp_X11_goers l0 h Q) : Mt G (2 + d) 0 0 mX11_goers [.ref l0] h (qqi Q) := by
  unfold wp_X11_goers at hwp
  refine Mt.of (by decide) rfl (Nat.le_of_ble_eq_true rfl) ?_
  have hex := qEx.rf h
  have hnn : qn h = qn h + 0 := rfl
  have hzz : qz h = qz h + 0 := rfl
  refine x_lvE (lv2 := [(0, .ref l0)]) rfl ?_
  refine x_iconst (v := 0) (pc := 0) dX11_goers_0 (by decide) ?_
  refine x_istore_n (lv2 := [(1, .int 0), (0, .ref l0)]) (pc := 1) dX11_goers_1 (by decide) rfl ?_
  refine x_iconst (v := 0) (pc := 2) dX11_goers_2 (by decide) ?_
  refine x_istore_n (lv2 := [(2, .int 0), (1, .int 0), (0, .ref l0)]) (pc := 3) dX11_goers_3 (by decide) rfl ?_
  refine x_sub [2, 1, 0] rfl ?_
  exact lp_X11_goers_4 G d h h l0 Q hex hnn hzz okl0 hwp ⟨qEx.rf _, rfl, rfl⟩

theorem dX11_goes_0 : decode cX11_goes 0 = .ok (.iload_n 1, 1) := by decide +kernel
theorem dX11_goes_1 : decode cX11_goes 1 = .ok (.iconst (-1), 1) := by decide +kernel
theorem dX11_goes_2 : decode cX11_goes 2 = .ok (.if_icmp .ne 11, 3) := by decide +kernel
theorem dX11_goes_5 : decode cX11_goes 5 = .ok (.aload_n 0, 1) := by decide +kernel
theorem dX11_goes_6 : decode cX11_goes 6 = .ok (.invokevirtual 243, 3) := by decide +kernel
theorem dX11_goes_9 : decode cX11_goes 9 = .ok (.invokestatic 246, 3) := by decide +kernel
theorem dX11_goes_12 : decode cX11_goes 12 = .ok (.ireturn, 1) := by decide +kernel
theorem dX11_goes_13 : decode cX11_goes 13 = .ok (.iload_n 1, 1) := by decide +kernel
theorem dX11_goes_14 : decode cX11_goes 14 = .ok (.invokestatic 162, 3) := by decide +kernel
theorem dX11_goes_17 : decode cX11_goes 17 = .ok (.ifCond .ne 6, 3) := by decide +kernel
theorem dX11_goes_20 : decode cX11_goes 20 = .ok (.bipush (-2), 2) := by decide +kernel
theorem dX11_goes_22 : decode cX11_goes 22 = .ok (.ireturn, 1) := by decide +kernel
theorem dX11_goes_23 : decode cX11_goes 23 = .ok (.aload_n 0, 1) := by decide +kernel
theorem dX11_goes_24 : decode cX11_goes 24 = .ok (.getfield 26, 3) := by decide +kernel
theorem dX11_goes_27 : decode cX11_goes 27 = .ok (.iload_n 1, 1) := by decide +kernel
theorem dX11_goes_28 : decode cX11_goes 28 = .ok (.invokevirtual 173, 3) := by decide +kernel
theorem dX11_goes_31 : decode cX11_goes 31 = .ok (.ifCond .le 7, 3) := by decide +kernel
theorem dX11_goes_34 : decode cX11_goes 34 = .ok (.iconst 1, 1) := by decide +kernel
theorem dX11_goes_35 : decode cX11_goes 35 = .ok (.goto 4, 3) := by decide +kernel
theorem dX11_goes_38 : decode cX11_goes 38 = .ok (.iconst 0, 1) := by decide +kernel
theorem dX11_goes_39 : decode cX11_goes 39 = .ok (.ireturn, 1) := by decide +kernel
def wp_X11_goes (l0 : Nat) (l1 : Int32) (h : PH) (Q : Int32 → PH → Prop) : Prop := ((¬ l1 = (-1) → (wp_X11_isLawSet l1 h (fun r3 h2 => ((¬ r3 = 0 → (∃ b5, qR h2 l0 2 = some b5 ∧ (wp_X8_wholeWith b5 l1 h2 (fun r8 h7 => ((r8 ≤ 0 → Q 0 h7) ∧ (¬ (r8 ≤ 0) → Q 1 h7)))))) ∧ (r3 = 0 → Q (-2) h2))))) ∧ (l1 = (-1) → (wp_X11_goers l0 h (fun r11 h10 => (wp_J6_bitCount_0f7a4 r11 h10 (fun r13 h12 => Q r13 h12))))))
set_option maxHeartbeats 4000000 in
set_option maxRecDepth 100000 in
theorem sn_X11_goes (G : GT) (d : Nat) (l0 : Nat) (l1 : Int32) (h : PH) (Q : Int32 → PH → Prop) (okl0 : qOK h 10 l0) (hwp : wp_X11_goes l0 l1 h Q) : Mt G (3 + d) 0 0 mX11_goes [.ref l0, .int l1] h (qqi Q) := by
  unfold wp_X11_goes at hwp
  refine Mt.of (by decide) rfl (Nat.le_of_ble_eq_true rfl) ?_
  have hex := qEx.rf h
  have hnn : qn h = qn h + 0 := rfl
  have hzz : qz h = qz h + 0 := rfl
  refine x_lvE (lv2 := [(0, .ref l0), (1, .int l1)]) rfl ?_
  refine x_iload_n (pc := 0) dX11_goes_0 rfl ?_
  refine x_iconst (v := (-1)) (pc := 1) dX11_goes_1 (by decide) ?_
  refine x_icmp_ne (tgt := 13) (pc := 2) dX11_goes_2 (by decide) (fun c1 => ?_) (fun c1 => ?_)
  · have hwp := hwp.1 c1
    refine x_iload_n (pc := 13) dX11_goes_13 rfl ?_
    refine x_invS (As := [.int l1]) (st := []) (pc := 14) dX11_goes_14 lRX11_162 fX11_isLawSet sX11_isLawSet rfl (Nat.le_of_ble_eq_true rfl) (q_R (by omega) (by decide)) (q_C hnn hzz (by decide) (by decide)) (sn_X11_isLawSet G (d + 2) l1 h _  hwp) (k_b (fun r3 h2 hwp zbr3 cxh2 => ?_))
    have hex := hex.tr cxh2.1
    have hnn : qn h2 = qn h + 0 := by have := cxh2.2.1; omega
    have hzz : qz h2 = qz h + 0 := by have := cxh2.2.2; omega
    have okl0 := okl0.ex cxh2.1
    refine x_if_ne (tgt := 23) (pc := 17) dX11_goes_17 (by decide) (fun c4 => ?_) (fun c4 => ?_)
    · have hwp := hwp.1 c4
      refine x_aload_n (pc := 23) dX11_goes_23 rfl ?_
      obtain ⟨b5, e6, hwp⟩ := hwp
      refine x_getR (pc := 24) dX11_goes_24 qRX11_26 okl0 e6 (fun okb5 => ?_)
      refine x_iload_n (pc := 27) dX11_goes_27 rfl ?_
      refine x_invV (As := [.int l1]) (st := []) (pc := 28) dX11_goes_28 lRX11_173 fX8_wholeWith vX8_wholeWith okb5 rfl (Nat.le_of_ble_eq_true rfl) (q_R (by omega) (by decide)) (q_C hnn hzz (by decide) (by decide)) (sn_X8_wholeWith G (d + 1) b5 l1 h2 _ okb5 hwp) (k_i (fun r8 h7 hwp cxh7 => ?_))
      have hex := hex.tr cxh7.1
      have hnn : qn h7 = qn h + 0 := by have := cxh7.2.1; omega
      have hzz : qz h7 = qz h + 0 := by have := cxh7.2.2; omega
      have okl0 := okl0.ex cxh7.1
      have okb5 := okb5.ex cxh7.1
      refine x_if_le (tgt := 38) (pc := 31) dX11_goes_31 (by decide) (fun c9 => ?_) (fun c9 => ?_)
      · have hwp := hwp.1 c9
        refine x_iconst (v := 0) (pc := 38) dX11_goes_38 (by decide) ?_
        exact x_iret (pc := 39) dX11_goes_39 rfl hex hnn hzz ⟨_, rfl, hwp⟩
      · have hwp := hwp.2 c9
        refine x_iconst (v := 1) (pc := 34) dX11_goes_34 (by decide) ?_
        refine x_goto (tgt := 39) (pc := 35) dX11_goes_35 (by decide) ?_
        exact x_iret (pc := 39) dX11_goes_39 rfl hex hnn hzz ⟨_, rfl, hwp⟩
    · have hwp := hwp.2 c4
      refine x_bipush (v := (-2)) (pc := 20) dX11_goes_20 (by decide) ?_
      exact x_iret (pc := 22) dX11_goes_22 rfl hex hnn hzz ⟨_, rfl, hwp⟩
  · have hwp := hwp.2 c1
    refine x_aload_n (pc := 5) dX11_goes_5 rfl ?_
    refine x_invV (As := []) (st := []) (pc := 6) dX11_goes_6 lRX11_243 fX11_goers vX11_goers okl0 rfl (Nat.le_of_ble_eq_true rfl) (q_R (by omega) (by decide)) (q_C hnn hzz (by decide) (by decide)) (sn_X11_goers G (d + 0) l0 h _ okl0 hwp) (k_i (fun r11 h10 hwp cxh10 => ?_))
    have hex := hex.tr cxh10.1
    have hnn : qn h10 = qn h + 0 := by have := cxh10.2.1; omega
    have hzz : qz h10 = qz h + 0 := by have := cxh10.2.2; omega
    have okl0 := okl0.ex cxh10.1
    refine x_invS (As := [.int r11]) (st := []) (pc := 9) dX11_goes_9 lRX11_246 fJ6_bitCount_0f7a4 sJ6_bitCount_0f7a4 rfl (Nat.le_of_ble_eq_true rfl) (q_R (by omega) (by decide)) (q_C hnn hzz (by decide) (by decide)) (sn_J6_bitCount_0f7a4 G (d + 2) r11 h10 _  hwp) (k_i (fun r13 h12 hwp cxh12 => ?_))
    have hex := hex.tr cxh12.1
    have hnn : qn h12 = qn h + 0 := by have := cxh12.2.1; omega
    have hzz : qz h12 = qz h + 0 := by have := cxh12.2.2; omega
    have okl0 := okl0.ex cxh12.1
    exact x_iret (pc := 12) dX11_goes_12 rfl hex hnn hzz ⟨_, rfl, hwp⟩

theorem dX11_isLeastOf_0 : decode cX11_isLeastOf 0 = .ok (.iload_n 0, 1) := by decide +kernel
theorem dX11_isLeastOf_1 : decode cX11_isLeastOf 1 = .ok (.iload_n 1, 1) := by decide +kernel
theorem dX11_isLeastOf_2 : decode cX11_isLeastOf 2 = .ok (.iushr, 1) := by decide +kernel
theorem dX11_isLeastOf_3 : decode cX11_isLeastOf 3 = .ok (.iconst 1, 1) := by decide +kernel
theorem dX11_isLeastOf_4 : decode cX11_isLeastOf 4 = .ok (.iand, 1) := by decide +kernel
theorem dX11_isLeastOf_5 : decode cX11_isLeastOf 5 = .ok (.ifCond .ne 5, 3) := by decide +kernel
theorem dX11_isLeastOf_8 : decode cX11_isLeastOf 8 = .ok (.iconst 0, 1) := by decide +kernel
theorem dX11_isLeastOf_9 : decode cX11_isLeastOf 9 = .ok (.ireturn, 1) := by decide +kernel
theorem dX11_isLeastOf_10 : decode cX11_isLeastOf 10 = .ok (.iconst 0, 1) := by decide +kernel
theorem dX11_isLeastOf_11 : decode cX11_isLeastOf 11 = .ok (.istore_n 2, 1) := by decide +kernel
theorem dX11_isLeastOf_12 : decode cX11_isLeastOf 12 = .ok (.iload_n 2, 1) := by decide +kernel
theorem dX11_isLeastOf_13 : decode cX11_isLeastOf 13 = .ok (.iload_n 1, 1) := by decide +kernel
theorem dX11_isLeastOf_14 : decode cX11_isLeastOf 14 = .ok (.if_icmp .ge 26, 3) := by decide +kernel
theorem dX11_isLeastOf_17 : decode cX11_isLeastOf 17 = .ok (.iload_n 2, 1) := by decide +kernel
theorem dX11_isLeastOf_18 : decode cX11_isLeastOf 18 = .ok (.iload_n 1, 1) := by decide +kernel
theorem dX11_isLeastOf_19 : decode cX11_isLeastOf 19 = .ok (.iand, 1) := by decide +kernel
theorem dX11_isLeastOf_20 : decode cX11_isLeastOf 20 = .ok (.iload_n 2, 1) := by decide +kernel
theorem dX11_isLeastOf_21 : decode cX11_isLeastOf 21 = .ok (.if_icmp .ne 13, 3) := by decide +kernel
theorem dX11_isLeastOf_24 : decode cX11_isLeastOf 24 = .ok (.iload_n 0, 1) := by decide +kernel
theorem dX11_isLeastOf_25 : decode cX11_isLeastOf 25 = .ok (.iload_n 2, 1) := by decide +kernel
theorem dX11_isLeastOf_26 : decode cX11_isLeastOf 26 = .ok (.iushr, 1) := by decide +kernel
theorem dX11_isLeastOf_27 : decode cX11_isLeastOf 27 = .ok (.iconst 1, 1) := by decide +kernel
theorem dX11_isLeastOf_28 : decode cX11_isLeastOf 28 = .ok (.iand, 1) := by decide +kernel
theorem dX11_isLeastOf_29 : decode cX11_isLeastOf 29 = .ok (.ifCond .eq 5, 3) := by decide +kernel
theorem dX11_isLeastOf_32 : decode cX11_isLeastOf 32 = .ok (.iconst 0, 1) := by decide +kernel
theorem dX11_isLeastOf_33 : decode cX11_isLeastOf 33 = .ok (.ireturn, 1) := by decide +kernel
theorem dX11_isLeastOf_34 : decode cX11_isLeastOf 34 = .ok (.iinc 2 1, 3) := by decide +kernel
theorem dX11_isLeastOf_37 : decode cX11_isLeastOf 37 = .ok (.goto (-25), 3) := by decide +kernel
theorem dX11_isLeastOf_40 : decode cX11_isLeastOf 40 = .ok (.iconst 1, 1) := by decide +kernel
theorem dX11_isLeastOf_41 : decode cX11_isLeastOf 41 = .ok (.ireturn, 1) := by decide +kernel
def E_X11_isLeastOf_12 (G : GT) (d : Nat) (h0 hb : PH) (l0 : Int32) (l1 : Int32) (Q : Int32 → PH → Prop) (s : Int32 × PH) : Prop := qEx hb s.2 ∧ qn s.2 = qn hb ∧ qz s.2 = qz hb → Ex G (qrm (0 + d) 0 0) mX11_isLeastOf (qn h0) (qz h0) (ZN G h0 0 0 (qqb Q)) 12 [(0, .int l0), (1, .int l1), (2, .int s.1)] [] s.2
def wb_X11_isLeastOf_12 (l0 : Int32) (l1 : Int32)  (Q : Int32 → PH → Prop) (bk12 : Int32 × PH → Prop) (l2 : Int32) (h : PH) : Prop := ((l1 ≤ l2 → Q 1 h) ∧ (¬ (l1 ≤ l2) → ((¬ (l2 &&& l1) = l2 → ∀ v4 : Int32, v4 = l2 + 1 → bk12 (v4, h)) ∧ ((l2 &&& l1) = l2 → ((((q_ushr l0 l2) &&& 1) = 0 → ∀ v6 : Int32, v6 = l2 + 1 → bk12 (v6, h)) ∧ (¬ (((q_ushr l0 l2) &&& 1) = 0) → Q 0 h))))))
def wp_X11_isLeastOf_12 (l0 : Int32) (l1 : Int32)  (Q : Int32 → PH → Prop) (bk12 : Int32 × PH → Prop) (s : Int32 × PH) : Prop := wb_X11_isLeastOf_12 l0 l1 Q bk12 s.1 s.2
set_option maxHeartbeats 4000000 in
set_option maxRecDepth 100000 in
theorem bd_X11_isLeastOf_12 (G : GT) (d : Nat) (h0 hb : PH) (l0 : Int32) (l1 : Int32) (Q : Int32 → PH → Prop)  (hex : qEx h0 hb) (hnn : qn hb = qn h0 + 0) (hzz : qz hb = qz h0 + 0)  (bk12 : Int32 × PH → Prop) (hbk12 : ∀ s2, bk12 s2 → E_X11_isLeastOf_12 G d h0 hb l0 l1 Q s2) (l2 : Int32) (h : PH) (hwp : wb_X11_isLeastOf_12 l0 l1 Q bk12 l2 h) (hx12 : qEx hb h) (hn12 : qn h = qn hb) (hz12 : qz h = qz hb) : Ex G (qrm (0 + d) 0 0) mX11_isLeastOf (qn h0) (qz h0) (ZN G h0 0 0 (qqb Q)) 12 [(0, .int l0), (1, .int l1), (2, .int l2)] [] h := by
  unfold wb_X11_isLeastOf_12 at hwp
  have hex := hex.tr hx12
  have hnn := hn12.trans hnn
  have hzz := hz12.trans hzz
  refine x_iload_n (pc := 12) dX11_isLeastOf_12 rfl ?_
  refine x_iload_n (pc := 13) dX11_isLeastOf_13 rfl ?_
  refine x_icmp_ge (tgt := 40) (pc := 14) dX11_isLeastOf_14 (by decide) (fun c2 => ?_) (fun c2 => ?_)
  · have hwp := hwp.1 c2
    refine x_iconst (v := 1) (pc := 40) dX11_isLeastOf_40 (by decide) ?_
    exact x_zret (pc := 41) dX11_isLeastOf_41 rfl hex hnn hzz (by decide) ⟨_, rfl, by decide, hwp⟩
  · have hwp := hwp.2 c2
    refine x_iload_n (pc := 17) dX11_isLeastOf_17 rfl ?_
    refine x_iload_n (pc := 18) dX11_isLeastOf_18 rfl ?_
    refine x_iand (pc := 19) dX11_isLeastOf_19 ?_
    refine x_iload_n (pc := 20) dX11_isLeastOf_20 rfl ?_
    refine x_icmp_ne (tgt := 34) (pc := 21) dX11_isLeastOf_21 (by decide) (fun c3 => ?_) (fun c3 => ?_)
    · have hwp := hwp.1 c3
      refine y_iinc (c := 1) (pc := 34) dX11_isLeastOf_34 rfl (by decide) (by decide) (fun v4 ev4 => ?_)
      have hwp := hwp v4 ev4
      refine x_lvE (lv2 := [(2, .int v4), (0, .int l0), (1, .int l1)]) rfl ?_
      refine x_goto (tgt := 12) (pc := 37) dX11_isLeastOf_37 (by decide) ?_
      refine x_sub [1, 2, 0] rfl ?_
      exact hbk12 _ hwp ⟨hx12, hn12, hz12⟩
    · have hwp := hwp.2 c3
      refine x_iload_n (pc := 24) dX11_isLeastOf_24 rfl ?_
      refine x_iload_n (pc := 25) dX11_isLeastOf_25 rfl ?_
      refine x_iushr (pc := 26) dX11_isLeastOf_26 ?_
      refine x_iconst (v := 1) (pc := 27) dX11_isLeastOf_27 (by decide) ?_
      refine x_iand (pc := 28) dX11_isLeastOf_28 ?_
      refine x_if_eq (tgt := 34) (pc := 29) dX11_isLeastOf_29 (by decide) (fun c5 => ?_) (fun c5 => ?_)
      · have hwp := hwp.1 c5
        refine y_iinc (c := 1) (pc := 34) dX11_isLeastOf_34 rfl (by decide) (by decide) (fun v6 ev6 => ?_)
        have hwp := hwp v6 ev6
        refine x_lvE (lv2 := [(2, .int v6), (0, .int l0), (1, .int l1)]) rfl ?_
        refine x_goto (tgt := 12) (pc := 37) dX11_isLeastOf_37 (by decide) ?_
        refine x_sub [1, 2, 0] rfl ?_
        exact hbk12 _ hwp ⟨hx12, hn12, hz12⟩
      · have hwp := hwp.2 c5
        refine x_iconst (v := 0) (pc := 32) dX11_isLeastOf_32 (by decide) ?_
        exact x_zret (pc := 33) dX11_isLeastOf_33 rfl hex hnn hzz (by decide) ⟨_, rfl, by decide, hwp⟩
theorem lp_X11_isLeastOf_12 (G : GT) (d : Nat) (h0 hb : PH) (l0 : Int32) (l1 : Int32) (Q : Int32 → PH → Prop)  (hex : qEx h0 hb) (hnn : qn hb = qn h0 + 0) (hzz : qz hb = qz h0 + 0)  {s : Int32 × PH} (hwp : qLoop (wp_X11_isLeastOf_12 l0 l1 Q) s) : E_X11_isLeastOf_12 G d h0 hb l0 l1 Q s :=
  qLoop.use (E := E_X11_isLeastOf_12 G d h0 hb l0 l1 Q) (fun back s hbk hw hx => bd_X11_isLeastOf_12 G d h0 hb l0 l1 Q hex hnn hzz back hbk s.1 s.2 hw hx.1 hx.2.1 hx.2.2) hwp
def wp_X11_isLeastOf (l0 : Int32) (l1 : Int32) (h : PH) (Q : Int32 → PH → Prop) : Prop := ((¬ ((q_ushr l0 l1) &&& 1) = 0 → (qLoop (wp_X11_isLeastOf_12 l0 l1 Q) (0, h))) ∧ (((q_ushr l0 l1) &&& 1) = 0 → Q 0 h))
set_option maxHeartbeats 4000000 in
set_option maxRecDepth 100000 in
theorem sn_X11_isLeastOf (G : GT) (d : Nat) (l0 : Int32) (l1 : Int32) (h : PH) (Q : Int32 → PH → Prop)  (hwp : wp_X11_isLeastOf l0 l1 h Q) : Mt G (0 + d) 0 0 mX11_isLeastOf [.int l0, .int l1] h (qqb Q) := by
  unfold wp_X11_isLeastOf at hwp
  refine Mt.of (by decide) rfl (Nat.le_of_ble_eq_true rfl) ?_
  have hex := qEx.rf h
  have hnn : qn h = qn h + 0 := rfl
  have hzz : qz h = qz h + 0 := rfl
  refine x_lvE (lv2 := [(0, .int l0), (1, .int l1)]) rfl ?_
  refine x_iload_n (pc := 0) dX11_isLeastOf_0 rfl ?_
  refine x_iload_n (pc := 1) dX11_isLeastOf_1 rfl ?_
  refine x_iushr (pc := 2) dX11_isLeastOf_2 ?_
  refine x_iconst (v := 1) (pc := 3) dX11_isLeastOf_3 (by decide) ?_
  refine x_iand (pc := 4) dX11_isLeastOf_4 ?_
  refine x_if_ne (tgt := 10) (pc := 5) dX11_isLeastOf_5 (by decide) (fun c1 => ?_) (fun c1 => ?_)
  · have hwp := hwp.1 c1
    refine x_iconst (v := 0) (pc := 10) dX11_isLeastOf_10 (by decide) ?_
    refine x_istore_n (lv2 := [(2, .int 0), (0, .int l0), (1, .int l1)]) (pc := 11) dX11_isLeastOf_11 (by decide) rfl ?_
    refine x_sub [1, 2, 0] rfl ?_
    exact lp_X11_isLeastOf_12 G d h h l0 l1 Q hex hnn hzz hwp ⟨qEx.rf _, rfl, rfl⟩
  · have hwp := hwp.2 c1
    refine x_iconst (v := 0) (pc := 8) dX11_isLeastOf_8 (by decide) ?_
    exact x_zret (pc := 9) dX11_isLeastOf_9 rfl hex hnn hzz (by decide) ⟨_, rfl, by decide, hwp⟩

theorem dX11_least_0 : decode cX11_least 0 = .ok (.aload_n 0, 1) := by decide +kernel
theorem dX11_least_1 : decode cX11_least 1 = .ok (.invokevirtual 243, 3) := by decide +kernel
theorem dX11_least_4 : decode cX11_least 4 = .ok (.istore_n 2, 1) := by decide +kernel
theorem dX11_least_5 : decode cX11_least 5 = .ok (.iconst 0, 1) := by decide +kernel
theorem dX11_least_6 : decode cX11_least 6 = .ok (.istore_n 3, 1) := by decide +kernel
theorem dX11_least_7 : decode cX11_least 7 = .ok (.iconst 0, 1) := by decide +kernel
theorem dX11_least_8 : decode cX11_least 8 = .ok (.istore 4, 2) := by decide +kernel
theorem dX11_least_10 : decode cX11_least 10 = .ok (.iload 4, 2) := by decide +kernel
theorem dX11_least_12 : decode cX11_least 12 = .ok (.bipush 32, 2) := by decide +kernel
theorem dX11_least_14 : decode cX11_least 14 = .ok (.if_icmp .ge 29, 3) := by decide +kernel
theorem dX11_least_17 : decode cX11_least 17 = .ok (.iload_n 2, 1) := by decide +kernel
theorem dX11_least_18 : decode cX11_least 18 = .ok (.iload 4, 2) := by decide +kernel
theorem dX11_least_20 : decode cX11_least 20 = .ok (.invokestatic 251, 3) := by decide +kernel
theorem dX11_least_23 : decode cX11_least 23 = .ok (.ifCond .eq 14, 3) := by decide +kernel
theorem dX11_least_26 : decode cX11_least 26 = .ok (.iload_n 3, 1) := by decide +kernel
theorem dX11_least_27 : decode cX11_least 27 = .ok (.iload_n 1, 1) := by decide +kernel
theorem dX11_least_28 : decode cX11_least 28 = .ok (.if_icmp .ne 6, 3) := by decide +kernel
theorem dX11_least_31 : decode cX11_least 31 = .ok (.iload 4, 2) := by decide +kernel
theorem dX11_least_33 : decode cX11_least 33 = .ok (.ireturn, 1) := by decide +kernel
theorem dX11_least_34 : decode cX11_least 34 = .ok (.iinc 3 1, 3) := by decide +kernel
theorem dX11_least_37 : decode cX11_least 37 = .ok (.iinc 4 1, 3) := by decide +kernel
theorem dX11_least_40 : decode cX11_least 40 = .ok (.goto (-30), 3) := by decide +kernel
theorem dX11_least_43 : decode cX11_least 43 = .ok (.iconst (-1), 1) := by decide +kernel
theorem dX11_least_44 : decode cX11_least 44 = .ok (.ireturn, 1) := by decide +kernel
def E_X11_least_10 (G : GT) (d : Nat) (h0 hb : PH) (l1 : Int32) (l2 : Int32) (Q : Int32 → PH → Prop) (s : Int32 × Int32 × PH) : Prop := qEx hb s.2.2 ∧ qn s.2.2 = qn hb ∧ qz s.2.2 = qz hb → Ex G (qrm (3 + d) 0 0) mX11_least (qn h0) (qz h0) (ZN G h0 0 0 (qqi Q)) 10 [(1, .int l1), (2, .int l2), (3, .int s.1), (4, .int s.2.1)] [] s.2.2
def wb_X11_least_10 (l1 : Int32) (l2 : Int32)  (Q : Int32 → PH → Prop) (bk10 : Int32 × Int32 × PH → Prop) (l3 : Int32) (l4 : Int32) (h : PH) : Prop := ((32 ≤ l4 → Q (-1) h) ∧ (¬ (32 ≤ l4) → (wp_X11_isLeastOf l2 l4 h (fun r5 h4 => ((r5 = 0 → ∀ v7 : Int32, v7 = l4 + 1 → bk10 (l3, v7, h4)) ∧ (¬ (r5 = 0) → ((¬ l3 = l1 → ∀ v9 : Int32, v9 = l3 + 1 → ∀ v10 : Int32, v10 = l4 + 1 → bk10 (v9, v10, h4)) ∧ (l3 = l1 → Q l4 h4))))))))
def wp_X11_least_10 (l1 : Int32) (l2 : Int32)  (Q : Int32 → PH → Prop) (bk10 : Int32 × Int32 × PH → Prop) (s : Int32 × Int32 × PH) : Prop := wb_X11_least_10 l1 l2 Q bk10 s.1 s.2.1 s.2.2
set_option maxHeartbeats 4000000 in
set_option maxRecDepth 100000 in
theorem bd_X11_least_10 (G : GT) (d : Nat) (h0 hb : PH) (l1 : Int32) (l2 : Int32) (Q : Int32 → PH → Prop)  (hex : qEx h0 hb) (hnn : qn hb = qn h0 + 0) (hzz : qz hb = qz h0 + 0)  (bk10 : Int32 × Int32 × PH → Prop) (hbk10 : ∀ s2, bk10 s2 → E_X11_least_10 G d h0 hb l1 l2 Q s2) (l3 : Int32) (l4 : Int32) (h : PH) (hwp : wb_X11_least_10 l1 l2 Q bk10 l3 l4 h) (hx10 : qEx hb h) (hn10 : qn h = qn hb) (hz10 : qz h = qz hb) : Ex G (qrm (3 + d) 0 0) mX11_least (qn h0) (qz h0) (ZN G h0 0 0 (qqi Q)) 10 [(1, .int l1), (2, .int l2), (3, .int l3), (4, .int l4)] [] h := by
  unfold wb_X11_least_10 at hwp
  have hex := hex.tr hx10
  have hnn := hn10.trans hnn
  have hzz := hz10.trans hzz
  refine x_iload (pc := 10) dX11_least_10 rfl ?_
  refine x_bipush (v := 32) (pc := 12) dX11_least_12 (by decide) ?_
  refine x_icmp_ge (tgt := 43) (pc := 14) dX11_least_14 (by decide) (fun c3 => ?_) (fun c3 => ?_)
  · have hwp := hwp.1 c3
    refine x_iconst (v := (-1)) (pc := 43) dX11_least_43 (by decide) ?_
    exact x_iret (pc := 44) dX11_least_44 rfl hex hnn hzz ⟨_, rfl, hwp⟩
  · have hwp := hwp.2 c3
    refine x_iload_n (pc := 17) dX11_least_17 rfl ?_
    refine x_iload (pc := 18) dX11_least_18 rfl ?_
    refine x_invS (As := [.int l2, .int l4]) (st := []) (pc := 20) dX11_least_20 lRX11_251 fX11_isLeastOf sX11_isLeastOf rfl (Nat.le_of_ble_eq_true rfl) (q_R (by omega) (by decide)) (q_C hnn hzz (by decide) (by decide)) (sn_X11_isLeastOf G (d + 2) l2 l4 h _  hwp) (k_b (fun r5 h4 hwp zbr5 cxh4 => ?_))
    have hex := hex.tr cxh4.1
    have hnn : qn h4 = qn h0 + 0 := by have := cxh4.2.1; omega
    have hzz : qz h4 = qz h0 + 0 := by have := cxh4.2.2; omega
    have hx10 := hx10.tr cxh4.1
    have hn10 : qn h4 = qn hb := by have := cxh4.2.1; omega
    have hz10 : qz h4 = qz hb := by have := cxh4.2.2; omega
    refine x_if_eq (tgt := 37) (pc := 23) dX11_least_23 (by decide) (fun c6 => ?_) (fun c6 => ?_)
    · have hwp := hwp.1 c6
      refine y_iinc (c := 1) (pc := 37) dX11_least_37 rfl (by decide) (by decide) (fun v7 ev7 => ?_)
      have hwp := hwp v7 ev7
      refine x_lvE (lv2 := [(4, .int v7), (1, .int l1), (2, .int l2), (3, .int l3)]) rfl ?_
      refine x_goto (tgt := 10) (pc := 40) dX11_least_40 (by decide) ?_
      refine x_sub [1, 2, 3, 0] rfl ?_
      exact hbk10 _ hwp ⟨hx10, hn10, hz10⟩
    · have hwp := hwp.2 c6
      refine x_iload_n (pc := 26) dX11_least_26 rfl ?_
      refine x_iload_n (pc := 27) dX11_least_27 rfl ?_
      refine x_icmp_ne (tgt := 34) (pc := 28) dX11_least_28 (by decide) (fun c8 => ?_) (fun c8 => ?_)
      · have hwp := hwp.1 c8
        refine y_iinc (c := 1) (pc := 34) dX11_least_34 rfl (by decide) (by decide) (fun v9 ev9 => ?_)
        have hwp := hwp v9 ev9
        refine x_lvE (lv2 := [(3, .int v9), (1, .int l1), (2, .int l2), (4, .int l4)]) rfl ?_
        refine y_iinc (c := 1) (pc := 37) dX11_least_37 rfl (by decide) (by decide) (fun v10 ev10 => ?_)
        have hwp := hwp v10 ev10
        refine x_lvE (lv2 := [(4, .int v10), (3, .int v9), (1, .int l1), (2, .int l2)]) rfl ?_
        refine x_goto (tgt := 10) (pc := 40) dX11_least_40 (by decide) ?_
        refine x_sub [2, 3, 1, 0] rfl ?_
        exact hbk10 _ hwp ⟨hx10, hn10, hz10⟩
      · have hwp := hwp.2 c8
        refine x_iload (pc := 31) dX11_least_31 rfl ?_
        exact x_iret (pc := 33) dX11_least_33 rfl hex hnn hzz ⟨_, rfl, hwp⟩
theorem lp_X11_least_10 (G : GT) (d : Nat) (h0 hb : PH) (l1 : Int32) (l2 : Int32) (Q : Int32 → PH → Prop)  (hex : qEx h0 hb) (hnn : qn hb = qn h0 + 0) (hzz : qz hb = qz h0 + 0)  {s : Int32 × Int32 × PH} (hwp : qLoop (wp_X11_least_10 l1 l2 Q) s) : E_X11_least_10 G d h0 hb l1 l2 Q s :=
  qLoop.use (E := E_X11_least_10 G d h0 hb l1 l2 Q) (fun back s hbk hw hx => bd_X11_least_10 G d h0 hb l1 l2 Q hex hnn hzz back hbk s.1 s.2.1 s.2.2 hw hx.1 hx.2.1 hx.2.2) hwp
def wp_X11_least (l0 : Nat) (l1 : Int32) (h : PH) (Q : Int32 → PH → Prop) : Prop := (wp_X11_goers l0 h (fun r2 h1 => (qLoop (wp_X11_least_10 l1 r2 Q) (0, 0, h1))))
set_option maxHeartbeats 4000000 in
set_option maxRecDepth 100000 in
theorem sn_X11_least (G : GT) (d : Nat) (l0 : Nat) (l1 : Int32) (h : PH) (Q : Int32 → PH → Prop) (okl0 : qOK h 10 l0) (hwp : wp_X11_least l0 l1 h Q) : Mt G (3 + d) 0 0 mX11_least [.ref l0, .int l1] h (qqi Q) := by
  unfold wp_X11_least at hwp
  refine Mt.of (by decide) rfl (Nat.le_of_ble_eq_true rfl) ?_
  have hex := qEx.rf h
  have hnn : qn h = qn h + 0 := rfl
  have hzz : qz h = qz h + 0 := rfl
  refine x_lvE (lv2 := [(0, .ref l0), (1, .int l1)]) rfl ?_
  refine x_aload_n (pc := 0) dX11_least_0 rfl ?_
  refine x_invV (As := []) (st := []) (pc := 1) dX11_least_1 lRX11_243 fX11_goers vX11_goers okl0 rfl (Nat.le_of_ble_eq_true rfl) (q_R (by omega) (by decide)) (q_C hnn hzz (by decide) (by decide)) (sn_X11_goers G (d + 0) l0 h _ okl0 hwp) (k_i (fun r2 h1 hwp cxh1 => ?_))
  have hex := hex.tr cxh1.1
  have hnn : qn h1 = qn h + 0 := by have := cxh1.2.1; omega
  have hzz : qz h1 = qz h + 0 := by have := cxh1.2.2; omega
  have okl0 := okl0.ex cxh1.1
  refine x_istore_n (lv2 := [(2, .int r2), (0, .ref l0), (1, .int l1)]) (pc := 4) dX11_least_4 (by decide) rfl ?_
  refine x_iconst (v := 0) (pc := 5) dX11_least_5 (by decide) ?_
  refine x_istore_n (lv2 := [(3, .int 0), (2, .int r2), (0, .ref l0), (1, .int l1)]) (pc := 6) dX11_least_6 (by decide) rfl ?_
  refine x_iconst (v := 0) (pc := 7) dX11_least_7 (by decide) ?_
  refine x_istore (lv2 := [(4, .int 0), (3, .int 0), (2, .int r2), (0, .ref l0), (1, .int l1)]) (pc := 8) dX11_least_8 (by decide) rfl ?_
  refine x_sub [4, 2, 1, 0] rfl ?_
  exact lp_X11_least_10 G d h h1 l1 r2 Q hex hnn hzz hwp ⟨qEx.rf _, rfl, rfl⟩

theorem dX11_needs_0 : decode cX11_needs 0 = .ok (.iload_n 1, 1) := by decide +kernel
theorem dX11_needs_1 : decode cX11_needs 1 = .ok (.iconst 1, 1) := by decide +kernel
theorem dX11_needs_2 : decode cX11_needs 2 = .ok (.if_icmp .eq 21, 3) := by decide +kernel
theorem dX11_needs_5 : decode cX11_needs 5 = .ok (.iload_n 1, 1) := by decide +kernel
theorem dX11_needs_6 : decode cX11_needs 6 = .ok (.iconst 2, 1) := by decide +kernel
theorem dX11_needs_7 : decode cX11_needs 7 = .ok (.if_icmp .eq 16, 3) := by decide +kernel
theorem dX11_needs_10 : decode cX11_needs 10 = .ok (.iload_n 1, 1) := by decide +kernel
theorem dX11_needs_11 : decode cX11_needs 11 = .ok (.iconst 4, 1) := by decide +kernel
theorem dX11_needs_12 : decode cX11_needs 12 = .ok (.if_icmp .eq 11, 3) := by decide +kernel
theorem dX11_needs_15 : decode cX11_needs 15 = .ok (.iload_n 1, 1) := by decide +kernel
theorem dX11_needs_16 : decode cX11_needs 16 = .ok (.bipush 8, 2) := by decide +kernel
theorem dX11_needs_18 : decode cX11_needs 18 = .ok (.if_icmp .eq 5, 3) := by decide +kernel
theorem dX11_needs_21 : decode cX11_needs 21 = .ok (.iconst (-1), 1) := by decide +kernel
theorem dX11_needs_22 : decode cX11_needs 22 = .ok (.ireturn, 1) := by decide +kernel
theorem dX11_needs_23 : decode cX11_needs 23 = .ok (.iconst 0, 1) := by decide +kernel
theorem dX11_needs_24 : decode cX11_needs 24 = .ok (.istore_n 2, 1) := by decide +kernel
theorem dX11_needs_25 : decode cX11_needs 25 = .ok (.iconst 0, 1) := by decide +kernel
theorem dX11_needs_26 : decode cX11_needs 26 = .ok (.istore_n 3, 1) := by decide +kernel
theorem dX11_needs_27 : decode cX11_needs 27 = .ok (.iload_n 3, 1) := by decide +kernel
theorem dX11_needs_28 : decode cX11_needs 28 = .ok (.aload_n 0, 1) := by decide +kernel
theorem dX11_needs_29 : decode cX11_needs 29 = .ok (.getfield 70, 3) := by decide +kernel
theorem dX11_needs_32 : decode cX11_needs 32 = .ok (.getfield 124, 3) := by decide +kernel
theorem dX11_needs_35 : decode cX11_needs 35 = .ok (.if_icmp .ge 55, 3) := by decide +kernel
theorem dX11_needs_38 : decode cX11_needs 38 = .ok (.aload_n 0, 1) := by decide +kernel
theorem dX11_needs_39 : decode cX11_needs 39 = .ok (.getfield 70, 3) := by decide +kernel
theorem dX11_needs_42 : decode cX11_needs 42 = .ok (.getfield 144, 3) := by decide +kernel
theorem dX11_needs_45 : decode cX11_needs 45 = .ok (.iload_n 3, 1) := by decide +kernel
theorem dX11_needs_46 : decode cX11_needs 46 = .ok (.aaload, 1) := by decide +kernel
theorem dX11_needs_47 : decode cX11_needs 47 = .ok (.astore 4, 2) := by decide +kernel
theorem dX11_needs_49 : decode cX11_needs 49 = .ok (.aload 4, 2) := by decide +kernel
theorem dX11_needs_51 : decode cX11_needs 51 = .ok (.iload_n 1, 1) := by decide +kernel
theorem dX11_needs_52 : decode cX11_needs 52 = .ok (.aload_n 0, 1) := by decide +kernel
theorem dX11_needs_53 : decode cX11_needs 53 = .ok (.getfield 70, 3) := by decide +kernel
theorem dX11_needs_56 : decode cX11_needs 56 = .ok (.getfield 148, 3) := by decide +kernel
theorem dX11_needs_59 : decode cX11_needs 59 = .ok (.invokevirtual 177, 3) := by decide +kernel
theorem dX11_needs_62 : decode cX11_needs 62 = .ok (.aload 4, 2) := by decide +kernel
theorem dX11_needs_64 : decode cX11_needs 64 = .ok (.iconst 0, 1) := by decide +kernel
theorem dX11_needs_65 : decode cX11_needs 65 = .ok (.aload_n 0, 1) := by decide +kernel
theorem dX11_needs_66 : decode cX11_needs 66 = .ok (.getfield 70, 3) := by decide +kernel
theorem dX11_needs_69 : decode cX11_needs 69 = .ok (.getfield 148, 3) := by decide +kernel
theorem dX11_needs_72 : decode cX11_needs 72 = .ok (.invokevirtual 177, 3) := by decide +kernel
theorem dX11_needs_75 : decode cX11_needs 75 = .ok (.if_icmp .eq 9, 3) := by decide +kernel
theorem dX11_needs_78 : decode cX11_needs 78 = .ok (.iload_n 2, 1) := by decide +kernel
theorem dX11_needs_79 : decode cX11_needs 79 = .ok (.iconst 1, 1) := by decide +kernel
theorem dX11_needs_80 : decode cX11_needs 80 = .ok (.iload_n 3, 1) := by decide +kernel
theorem dX11_needs_81 : decode cX11_needs 81 = .ok (.ishl, 1) := by decide +kernel
theorem dX11_needs_82 : decode cX11_needs 82 = .ok (.ior, 1) := by decide +kernel
theorem dX11_needs_83 : decode cX11_needs 83 = .ok (.istore_n 2, 1) := by decide +kernel
theorem dX11_needs_84 : decode cX11_needs 84 = .ok (.iinc 3 1, 3) := by decide +kernel
theorem dX11_needs_87 : decode cX11_needs 87 = .ok (.goto (-60), 3) := by decide +kernel
theorem dX11_needs_90 : decode cX11_needs 90 = .ok (.iload_n 2, 1) := by decide +kernel
theorem dX11_needs_91 : decode cX11_needs 91 = .ok (.ireturn, 1) := by decide +kernel
def E_X11_needs_27 (G : GT) (d : Nat) (h0 hb : PH) (l0 : Nat) (l1 : Int32) (Q : Int32 → PH → Prop) (s : Int32 × Int32 × PH) : Prop := qEx hb s.2.2 ∧ qn s.2.2 = qn hb ∧ qz s.2.2 = qz hb → Ex G (qrm (5 + d) 0 0) mX11_needs (qn h0) (qz h0) (ZN G h0 0 0 (qqi Q)) 27 [(0, .ref l0), (1, .int l1), (2, .int s.1), (3, .int s.2.1)] [] s.2.2
def wb_X11_needs_27 (l0 : Nat) (l1 : Int32)  (Q : Int32 → PH → Prop) (bk27 : Int32 × Int32 × PH → Prop) (l2 : Int32) (l3 : Int32) (h : PH) : Prop := (∃ b5, qR h l0 10 = some b5 ∧ (((qI h b5 1) ≤ l3 → Q l2 h) ∧ (¬ ((qI h b5 1) ≤ l3) → (∃ b8, qR h l0 10 = some b8 ∧ (∃ b10, qR h b8 0 = some b10 ∧ (vp_in l3 (qL h b10) ∧ ∃ b13, qR h b10 l3.toNatClampNeg = some b13 ∧ (∃ b15, qR h l0 10 = some b15 ∧ (wp_X4_sumWith b13 l1 (qI h b15 2) h (fun r18 h17 => (∃ b19, qR h17 l0 10 = some b19 ∧ (wp_X4_sumWith b13 0 (qI h17 b19 2) h17 (fun r22 h21 => ((r18 = r22 → ∀ v24 : Int32, v24 = l3 + 1 → bk27 (l2, v24, h21)) ∧ (¬ (r18 = r22) → ∀ v25 : Int32, v25 = l2 ||| (1 <<< (l3 &&& 31)) → ∀ v26 : Int32, v26 = l3 + 1 → bk27 (v25, v26, h21)))))))))))))))
def wp_X11_needs_27 (l0 : Nat) (l1 : Int32)  (Q : Int32 → PH → Prop) (bk27 : Int32 × Int32 × PH → Prop) (s : Int32 × Int32 × PH) : Prop := wb_X11_needs_27 l0 l1 Q bk27 s.1 s.2.1 s.2.2
set_option maxHeartbeats 4000000 in
set_option maxRecDepth 100000 in
theorem bd_X11_needs_27 (G : GT) (d : Nat) (h0 hb : PH) (l0 : Nat) (l1 : Int32) (Q : Int32 → PH → Prop)  (hex : qEx h0 hb) (hnn : qn hb = qn h0 + 0) (hzz : qz hb = qz h0 + 0) (okl0 : qOK hb 10 l0) (bk27 : Int32 × Int32 × PH → Prop) (hbk27 : ∀ s2, bk27 s2 → E_X11_needs_27 G d h0 hb l0 l1 Q s2) (l2 : Int32) (l3 : Int32) (h : PH) (hwp : wb_X11_needs_27 l0 l1 Q bk27 l2 l3 h) (hx27 : qEx hb h) (hn27 : qn h = qn hb) (hz27 : qz h = qz hb) : Ex G (qrm (5 + d) 0 0) mX11_needs (qn h0) (qz h0) (ZN G h0 0 0 (qqi Q)) 27 [(0, .ref l0), (1, .int l1), (2, .int l2), (3, .int l3)] [] h := by
  unfold wb_X11_needs_27 at hwp
  have hex := hex.tr hx27
  have hnn := hn27.trans hnn
  have hzz := hz27.trans hzz
  have okl0 := okl0.ex hx27
  refine x_iload_n (pc := 27) dX11_needs_27 rfl ?_
  refine x_aload_n (pc := 28) dX11_needs_28 rfl ?_
  obtain ⟨b5, e6, hwp⟩ := hwp
  refine x_getR (pc := 29) dX11_needs_29 qRX11_70 okl0 e6 (fun okb5 => ?_)
  refine x_getI (pc := 32) dX11_needs_32 qRX11_124 okb5 (by decide) ?_
  refine x_icmp_ge (tgt := 90) (pc := 35) dX11_needs_35 (by decide) (fun c7 => ?_) (fun c7 => ?_)
  · have hwp := hwp.1 c7
    refine x_iload_n (pc := 90) dX11_needs_90 rfl ?_
    exact x_iret (pc := 91) dX11_needs_91 rfl hex hnn hzz ⟨_, rfl, hwp⟩
  · have hwp := hwp.2 c7
    refine x_aload_n (pc := 38) dX11_needs_38 rfl ?_
    obtain ⟨b8, e9, hwp⟩ := hwp
    refine x_getR (pc := 39) dX11_needs_39 qRX11_70 okl0 e9 (fun okb8 => ?_)
    obtain ⟨b10, e11, hwp⟩ := hwp
    refine x_getR (pc := 42) dX11_needs_42 qRX11_144 okb8 e11 (fun okb10 => ?_)
    refine x_iload_n (pc := 45) dX11_needs_45 rfl ?_
    obtain ⟨i12, b13, e14, hwp⟩ := hwp
    refine x_aaload (t := 18) (pc := 46) dX11_needs_46 okb10 (by decide) i12 e14 (fun okb13 => ?_)
    refine x_astore (lv2 := [(4, .ref b13), (0, .ref l0), (1, .int l1), (2, .int l2), (3, .int l3)]) (pc := 47) dX11_needs_47 (by decide) rfl ?_
    refine x_aload (pc := 49) dX11_needs_49 rfl ?_
    refine x_iload_n (pc := 51) dX11_needs_51 rfl ?_
    refine x_aload_n (pc := 52) dX11_needs_52 rfl ?_
    obtain ⟨b15, e16, hwp⟩ := hwp
    refine x_getR (pc := 53) dX11_needs_53 qRX11_70 okl0 e16 (fun okb15 => ?_)
    refine x_getI (pc := 56) dX11_needs_56 qRX11_148 okb15 (by decide) ?_
    refine x_invV (As := [.int l1, .int (qI h b15 2)]) (st := []) (pc := 59) dX11_needs_59 lRX11_177 fX4_sumWith vX4_sumWith okb13 rfl (Nat.le_of_ble_eq_true rfl) (q_R (by omega) (by decide)) (q_C hnn hzz (by decide) (by decide)) (sn_X4_sumWith G (d + 0) b13 l1 (qI h b15 2) h _ okb13 hwp) (k_i (fun r18 h17 hwp cxh17 => ?_))
    have hex := hex.tr cxh17.1
    have hnn : qn h17 = qn h0 + 0 := by have := cxh17.2.1; omega
    have hzz : qz h17 = qz h0 + 0 := by have := cxh17.2.2; omega
    have hx27 := hx27.tr cxh17.1
    have hn27 : qn h17 = qn hb := by have := cxh17.2.1; omega
    have hz27 : qz h17 = qz hb := by have := cxh17.2.2; omega
    have okl0 := okl0.ex cxh17.1
    have okb5 := okb5.ex cxh17.1
    have okb8 := okb8.ex cxh17.1
    have okb10 := okb10.ex cxh17.1
    have okb13 := okb13.ex cxh17.1
    have okb15 := okb15.ex cxh17.1
    refine x_aload (pc := 62) dX11_needs_62 rfl ?_
    refine x_iconst (v := 0) (pc := 64) dX11_needs_64 (by decide) ?_
    refine x_aload_n (pc := 65) dX11_needs_65 rfl ?_
    obtain ⟨b19, e20, hwp⟩ := hwp
    refine x_getR (pc := 66) dX11_needs_66 qRX11_70 okl0 e20 (fun okb19 => ?_)
    refine x_getI (pc := 69) dX11_needs_69 qRX11_148 okb19 (by decide) ?_
    refine x_invV (As := [.int 0, .int (qI h17 b19 2)]) (st := [.int r18]) (pc := 72) dX11_needs_72 lRX11_177 fX4_sumWith vX4_sumWith okb13 rfl (Nat.le_of_ble_eq_true rfl) (q_R (by omega) (by decide)) (q_C hnn hzz (by decide) (by decide)) (sn_X4_sumWith G (d + 0) b13 0 (qI h17 b19 2) h17 _ okb13 hwp) (k_i (fun r22 h21 hwp cxh21 => ?_))
    have hex := hex.tr cxh21.1
    have hnn : qn h21 = qn h0 + 0 := by have := cxh21.2.1; omega
    have hzz : qz h21 = qz h0 + 0 := by have := cxh21.2.2; omega
    have hx27 := hx27.tr cxh21.1
    have hn27 : qn h21 = qn hb := by have := cxh21.2.1; omega
    have hz27 : qz h21 = qz hb := by have := cxh21.2.2; omega
    have okl0 := okl0.ex cxh21.1
    have okb5 := okb5.ex cxh21.1
    have okb8 := okb8.ex cxh21.1
    have okb10 := okb10.ex cxh21.1
    have okb13 := okb13.ex cxh21.1
    have okb15 := okb15.ex cxh21.1
    have okb19 := okb19.ex cxh21.1
    refine x_icmp_eq (tgt := 84) (pc := 75) dX11_needs_75 (by decide) (fun c23 => ?_) (fun c23 => ?_)
    · have hwp := hwp.1 c23
      refine y_iinc (c := 1) (pc := 84) dX11_needs_84 rfl (by decide) (by decide) (fun v24 ev24 => ?_)
      have hwp := hwp v24 ev24
      refine x_lvE (lv2 := [(3, .int v24), (4, .ref b13), (0, .ref l0), (1, .int l1), (2, .int l2)]) rfl ?_
      refine x_goto (tgt := 27) (pc := 87) dX11_needs_87 (by decide) ?_
      refine x_sub [2, 3, 4, 0] rfl ?_
      exact hbk27 _ hwp ⟨hx27, hn27, hz27⟩
    · have hwp := hwp.2 c23
      refine x_iload_n (pc := 78) dX11_needs_78 rfl ?_
      refine x_iconst (v := 1) (pc := 79) dX11_needs_79 (by decide) ?_
      refine x_iload_n (pc := 80) dX11_needs_80 rfl ?_
      refine x_ishl (pc := 81) dX11_needs_81 ?_
      refine x_ior (pc := 82) dX11_needs_82 ?_
      refine x_nmI (fun v25 ev25 => ?_)
      have hwp := hwp v25 ev25
      refine x_istore_n (lv2 := [(2, .int v25), (4, .ref b13), (0, .ref l0), (1, .int l1), (3, .int l3)]) (pc := 83) dX11_needs_83 (by decide) rfl ?_
      refine y_iinc (c := 1) (pc := 84) dX11_needs_84 rfl (by decide) (by decide) (fun v26 ev26 => ?_)
      have hwp := hwp v26 ev26
      refine x_lvE (lv2 := [(3, .int v26), (2, .int v25), (4, .ref b13), (0, .ref l0), (1, .int l1)]) rfl ?_
      refine x_goto (tgt := 27) (pc := 87) dX11_needs_87 (by decide) ?_
      refine x_sub [3, 4, 1, 0] rfl ?_
      exact hbk27 _ hwp ⟨hx27, hn27, hz27⟩
theorem lp_X11_needs_27 (G : GT) (d : Nat) (h0 hb : PH) (l0 : Nat) (l1 : Int32) (Q : Int32 → PH → Prop)  (hex : qEx h0 hb) (hnn : qn hb = qn h0 + 0) (hzz : qz hb = qz h0 + 0) (okl0 : qOK hb 10 l0) {s : Int32 × Int32 × PH} (hwp : qLoop (wp_X11_needs_27 l0 l1 Q) s) : E_X11_needs_27 G d h0 hb l0 l1 Q s :=
  qLoop.use (E := E_X11_needs_27 G d h0 hb l0 l1 Q) (fun back s hbk hw hx => bd_X11_needs_27 G d h0 hb l0 l1 Q hex hnn hzz okl0 back hbk s.1 s.2.1 s.2.2 hw hx.1 hx.2.1 hx.2.2) hwp
def wp_X11_needs (l0 : Nat) (l1 : Int32) (h : PH) (Q : Int32 → PH → Prop) : Prop := ((l1 = 1 → (qLoop (wp_X11_needs_27 l0 l1 Q) (0, 0, h))) ∧ (¬ (l1 = 1) → ((l1 = 2 → (qLoop (wp_X11_needs_27 l0 l1 Q) (0, 0, h))) ∧ (¬ (l1 = 2) → ((l1 = 4 → (qLoop (wp_X11_needs_27 l0 l1 Q) (0, 0, h))) ∧ (¬ (l1 = 4) → ((l1 = 8 → (qLoop (wp_X11_needs_27 l0 l1 Q) (0, 0, h))) ∧ (¬ (l1 = 8) → Q (-1) h))))))))
set_option maxHeartbeats 4000000 in
set_option maxRecDepth 100000 in
theorem sn_X11_needs (G : GT) (d : Nat) (l0 : Nat) (l1 : Int32) (h : PH) (Q : Int32 → PH → Prop) (okl0 : qOK h 10 l0) (hwp : wp_X11_needs l0 l1 h Q) : Mt G (5 + d) 0 0 mX11_needs [.ref l0, .int l1] h (qqi Q) := by
  unfold wp_X11_needs at hwp
  refine Mt.of (by decide) rfl (Nat.le_of_ble_eq_true rfl) ?_
  have hex := qEx.rf h
  have hnn : qn h = qn h + 0 := rfl
  have hzz : qz h = qz h + 0 := rfl
  refine x_lvE (lv2 := [(0, .ref l0), (1, .int l1)]) rfl ?_
  refine x_iload_n (pc := 0) dX11_needs_0 rfl ?_
  refine x_iconst (v := 1) (pc := 1) dX11_needs_1 (by decide) ?_
  refine x_icmp_eq (tgt := 23) (pc := 2) dX11_needs_2 (by decide) (fun c1 => ?_) (fun c1 => ?_)
  · have hwp := hwp.1 c1
    refine x_iconst (v := 0) (pc := 23) dX11_needs_23 (by decide) ?_
    refine x_istore_n (lv2 := [(2, .int 0), (0, .ref l0), (1, .int l1)]) (pc := 24) dX11_needs_24 (by decide) rfl ?_
    refine x_iconst (v := 0) (pc := 25) dX11_needs_25 (by decide) ?_
    refine x_istore_n (lv2 := [(3, .int 0), (2, .int 0), (0, .ref l0), (1, .int l1)]) (pc := 26) dX11_needs_26 (by decide) rfl ?_
    refine x_sub [2, 3, 1, 0] rfl ?_
    exact lp_X11_needs_27 G d h h l0 l1 Q hex hnn hzz okl0 hwp ⟨qEx.rf _, rfl, rfl⟩
  · have hwp := hwp.2 c1
    refine x_iload_n (pc := 5) dX11_needs_5 rfl ?_
    refine x_iconst (v := 2) (pc := 6) dX11_needs_6 (by decide) ?_
    refine x_icmp_eq (tgt := 23) (pc := 7) dX11_needs_7 (by decide) (fun c2 => ?_) (fun c2 => ?_)
    · have hwp := hwp.1 c2
      refine x_iconst (v := 0) (pc := 23) dX11_needs_23 (by decide) ?_
      refine x_istore_n (lv2 := [(2, .int 0), (0, .ref l0), (1, .int l1)]) (pc := 24) dX11_needs_24 (by decide) rfl ?_
      refine x_iconst (v := 0) (pc := 25) dX11_needs_25 (by decide) ?_
      refine x_istore_n (lv2 := [(3, .int 0), (2, .int 0), (0, .ref l0), (1, .int l1)]) (pc := 26) dX11_needs_26 (by decide) rfl ?_
      refine x_sub [2, 3, 1, 0] rfl ?_
      exact lp_X11_needs_27 G d h h l0 l1 Q hex hnn hzz okl0 hwp ⟨qEx.rf _, rfl, rfl⟩
    · have hwp := hwp.2 c2
      refine x_iload_n (pc := 10) dX11_needs_10 rfl ?_
      refine x_iconst (v := 4) (pc := 11) dX11_needs_11 (by decide) ?_
      refine x_icmp_eq (tgt := 23) (pc := 12) dX11_needs_12 (by decide) (fun c3 => ?_) (fun c3 => ?_)
      · have hwp := hwp.1 c3
        refine x_iconst (v := 0) (pc := 23) dX11_needs_23 (by decide) ?_
        refine x_istore_n (lv2 := [(2, .int 0), (0, .ref l0), (1, .int l1)]) (pc := 24) dX11_needs_24 (by decide) rfl ?_
        refine x_iconst (v := 0) (pc := 25) dX11_needs_25 (by decide) ?_
        refine x_istore_n (lv2 := [(3, .int 0), (2, .int 0), (0, .ref l0), (1, .int l1)]) (pc := 26) dX11_needs_26 (by decide) rfl ?_
        refine x_sub [2, 3, 1, 0] rfl ?_
        exact lp_X11_needs_27 G d h h l0 l1 Q hex hnn hzz okl0 hwp ⟨qEx.rf _, rfl, rfl⟩
      · have hwp := hwp.2 c3
        refine x_iload_n (pc := 15) dX11_needs_15 rfl ?_
        refine x_bipush (v := 8) (pc := 16) dX11_needs_16 (by decide) ?_
        refine x_icmp_eq (tgt := 23) (pc := 18) dX11_needs_18 (by decide) (fun c4 => ?_) (fun c4 => ?_)
        · have hwp := hwp.1 c4
          refine x_iconst (v := 0) (pc := 23) dX11_needs_23 (by decide) ?_
          refine x_istore_n (lv2 := [(2, .int 0), (0, .ref l0), (1, .int l1)]) (pc := 24) dX11_needs_24 (by decide) rfl ?_
          refine x_iconst (v := 0) (pc := 25) dX11_needs_25 (by decide) ?_
          refine x_istore_n (lv2 := [(3, .int 0), (2, .int 0), (0, .ref l0), (1, .int l1)]) (pc := 26) dX11_needs_26 (by decide) rfl ?_
          refine x_sub [2, 3, 1, 0] rfl ?_
          exact lp_X11_needs_27 G d h h l0 l1 Q hex hnn hzz okl0 hwp ⟨qEx.rf _, rfl, rfl⟩
        · have hwp := hwp.2 c4
          refine x_iconst (v := (-1)) (pc := 21) dX11_needs_21 (by decide) ?_
          exact x_iret (pc := 22) dX11_needs_22 rfl hex hnn hzz ⟨_, rfl, hwp⟩

theorem dX11_hidden_0 : decode cX11_hidden 0 = .ok (.aload_n 0, 1) := by decide +kernel
theorem dX11_hidden_1 : decode cX11_hidden 1 = .ok (.getfield 10, 3) := by decide +kernel
theorem dX11_hidden_4 : decode cX11_hidden 4 = .ok (.getfield 102, 3) := by decide +kernel
theorem dX11_hidden_7 : decode cX11_hidden 7 = .ok (.istore_n 3, 1) := by decide +kernel
theorem dX11_hidden_8 : decode cX11_hidden 8 = .ok (.aload_n 0, 1) := by decide +kernel
theorem dX11_hidden_9 : decode cX11_hidden 9 = .ok (.getfield 10, 3) := by decide +kernel
theorem dX11_hidden_12 : decode cX11_hidden 12 = .ok (.iconst 0, 1) := by decide +kernel
theorem dX11_hidden_13 : decode cX11_hidden 13 = .ok (.putfield 102, 3) := by decide +kernel
theorem dX11_hidden_16 : decode cX11_hidden 16 = .ok (.iload_n 3, 1) := by decide +kernel
theorem dX11_hidden_17 : decode cX11_hidden 17 = .ok (.iconst 2, 1) := by decide +kernel
theorem dX11_hidden_18 : decode cX11_hidden 18 = .ok (.if_icmp .lt 19, 3) := by decide +kernel
theorem dX11_hidden_21 : decode cX11_hidden 21 = .ok (.iload_n 3, 1) := by decide +kernel
theorem dX11_hidden_22 : decode cX11_hidden 22 = .ok (.bipush 120, 2) := by decide +kernel
theorem dX11_hidden_24 : decode cX11_hidden 24 = .ok (.if_icmp .gt 13, 3) := by decide +kernel
theorem dX11_hidden_27 : decode cX11_hidden 27 = .ok (.iload_n 3, 1) := by decide +kernel
theorem dX11_hidden_28 : decode cX11_hidden 28 = .ok (.iconst 2, 1) := by decide +kernel
theorem dX11_hidden_29 : decode cX11_hidden 29 = .ok (.irem, 1) := by decide +kernel
theorem dX11_hidden_30 : decode cX11_hidden 30 = .ok (.ifCond .ne 7, 3) := by decide +kernel
theorem dX11_hidden_33 : decode cX11_hidden 33 = .ok (.iconst 1, 1) := by decide +kernel
theorem dX11_hidden_34 : decode cX11_hidden 34 = .ok (.goto 4, 3) := by decide +kernel
theorem dX11_hidden_37 : decode cX11_hidden 37 = .ok (.iconst 0, 1) := by decide +kernel
theorem dX11_hidden_38 : decode cX11_hidden 38 = .ok (.istore 4, 2) := by decide +kernel
theorem dX11_hidden_40 : decode cX11_hidden 40 = .ok (.iload 4, 2) := by decide +kernel
theorem dX11_hidden_42 : decode cX11_hidden 42 = .ok (.ifCond .eq 18, 3) := by decide +kernel
theorem dX11_hidden_45 : decode cX11_hidden 45 = .ok (.aload_n 0, 1) := by decide +kernel
theorem dX11_hidden_46 : decode cX11_hidden 46 = .ok (.iload_n 1, 1) := by decide +kernel
theorem dX11_hidden_47 : decode cX11_hidden 47 = .ok (.invokevirtual 134, 3) := by decide +kernel
theorem dX11_hidden_50 : decode cX11_hidden 50 = .ok (.ifCond .eq 10, 3) := by decide +kernel
theorem dX11_hidden_53 : decode cX11_hidden 53 = .ok (.iload_n 2, 1) := by decide +kernel
theorem dX11_hidden_54 : decode cX11_hidden 54 = .ok (.invokestatic 180, 3) := by decide +kernel
theorem dX11_hidden_57 : decode cX11_hidden 57 = .ok (.ifCond .ne 5, 3) := by decide +kernel
theorem dX11_hidden_60 : decode cX11_hidden 60 = .ok (.iconst (-1), 1) := by decide +kernel
theorem dX11_hidden_61 : decode cX11_hidden 61 = .ok (.ireturn, 1) := by decide +kernel
theorem dX11_hidden_62 : decode cX11_hidden 62 = .ok (.aload_n 0, 1) := by decide +kernel
theorem dX11_hidden_63 : decode cX11_hidden 63 = .ok (.getfield 33, 3) := by decide +kernel
theorem dX11_hidden_66 : decode cX11_hidden 66 = .ok (.aload_n 0, 1) := by decide +kernel
theorem dX11_hidden_67 : decode cX11_hidden 67 = .ok (.getfield 26, 3) := by decide +kernel
theorem dX11_hidden_70 : decode cX11_hidden 70 = .ok (.iconst 0, 1) := by decide +kernel
theorem dX11_hidden_71 : decode cX11_hidden 71 = .ok (.invokevirtual 183, 3) := by decide +kernel
theorem dX11_hidden_74 : decode cX11_hidden 74 = .ok (.aload_n 0, 1) := by decide +kernel
theorem dX11_hidden_75 : decode cX11_hidden 75 = .ok (.getfield 50, 3) := by decide +kernel
theorem dX11_hidden_78 : decode cX11_hidden 78 = .ok (.aload_n 0, 1) := by decide +kernel
theorem dX11_hidden_79 : decode cX11_hidden 79 = .ok (.getfield 10, 3) := by decide +kernel
theorem dX11_hidden_82 : decode cX11_hidden 82 = .ok (.iload_n 3, 1) := by decide +kernel
theorem dX11_hidden_83 : decode cX11_hidden 83 = .ok (.iconst 2, 1) := by decide +kernel
theorem dX11_hidden_84 : decode cX11_hidden 84 = .ok (.idiv, 1) := by decide +kernel
theorem dX11_hidden_85 : decode cX11_hidden 85 = .ok (.invokevirtual 255, 3) := by decide +kernel
theorem dX11_hidden_88 : decode cX11_hidden 88 = .ok (.aload_n 0, 1) := by decide +kernel
theorem dX11_hidden_89 : decode cX11_hidden 89 = .ok (.getfield 50, 3) := by decide +kernel
theorem dX11_hidden_92 : decode cX11_hidden 92 = .ok (.aload_n 0, 1) := by decide +kernel
theorem dX11_hidden_93 : decode cX11_hidden 93 = .ok (.getfield 33, 3) := by decide +kernel
theorem dX11_hidden_96 : decode cX11_hidden 96 = .ok (.iload_n 1, 1) := by decide +kernel
theorem dX11_hidden_97 : decode cX11_hidden 97 = .ok (.iload_n 2, 1) := by decide +kernel
theorem dX11_hidden_98 : decode cX11_hidden 98 = .ok (.invokevirtual 259, 3) := by decide +kernel
theorem dX11_hidden_101 : decode cX11_hidden 101 = .ok (.ifCond .eq 6, 3) := by decide +kernel
theorem dX11_hidden_104 : decode cX11_hidden 104 = .ok (.bipush (-2), 2) := by decide +kernel
theorem dX11_hidden_106 : decode cX11_hidden 106 = .ok (.ireturn, 1) := by decide +kernel
theorem dX11_hidden_107 : decode cX11_hidden 107 = .ok (.aload_n 0, 1) := by decide +kernel
theorem dX11_hidden_108 : decode cX11_hidden 108 = .ok (.getfield 50, 3) := by decide +kernel
theorem dX11_hidden_111 : decode cX11_hidden 111 = .ok (.aload_n 0, 1) := by decide +kernel
theorem dX11_hidden_112 : decode cX11_hidden 112 = .ok (.getfield 33, 3) := by decide +kernel
theorem dX11_hidden_115 : decode cX11_hidden 115 = .ok (.iload_n 1, 1) := by decide +kernel
theorem dX11_hidden_116 : decode cX11_hidden 116 = .ok (.iload_n 2, 1) := by decide +kernel
theorem dX11_hidden_117 : decode cX11_hidden 117 = .ok (.invokevirtual 263, 3) := by decide +kernel
theorem dX11_hidden_120 : decode cX11_hidden 120 = .ok (.aload_n 0, 1) := by decide +kernel
theorem dX11_hidden_121 : decode cX11_hidden 121 = .ok (.getfield 50, 3) := by decide +kernel
theorem dX11_hidden_124 : decode cX11_hidden 124 = .ok (.getfield 267, 3) := by decide +kernel
theorem dX11_hidden_127 : decode cX11_hidden 127 = .ok (.ireturn, 1) := by decide +kernel
def wp_X11_hidden_38 (l0 : Nat) (l1 : Int32) (l2 : Int32) (l3 : Int32) (s0 : Int32)  (h : PH) (Q : Int32 → PH → Prop) : Prop := ((s0 = 0 → Q (-1) h) ∧ (¬ (s0 = 0) → (wp_X11_isPlace l0 l1 h (fun r12 h11 => ((r12 = 0 → Q (-1) h11) ∧ (¬ (r12 = 0) → (wp_X11_isPush l2 h11 (fun r15 h14 => ((¬ r15 = 0 → (∃ b17, qR h14 l0 3 = some b17 ∧ (∃ b19, qR h14 l0 2 = some b19 ∧ (wp_X10_prepare b17 b19 0 h14 (fun h21 => (∃ b23, qR h21 l0 6 = some b23 ∧ (∃ b25, qR h21 l0 0 = some b25 ∧ (wp_X2_show b23 b25 (l3 / 2) h21 (fun h27 => (∃ b29, qR h27 l0 6 = some b29 ∧ (∃ b31, qR h27 l0 3 = some b31 ∧ (wp_X2_comesWithout b29 b31 l1 l2 h27 (fun r34 h33 => ((r34 = 0 → (∃ b36, qR h33 l0 6 = some b36 ∧ (∃ b38, qR h33 l0 3 = some b38 ∧ (wp_X2_search b36 b38 l1 l2 h33 (fun h40 => (∃ b42, qR h40 l0 6 = some b42 ∧ Q (qI h40 b42 5) h40)))))) ∧ (¬ (r34 = 0) → Q (-2) h33))))))))))))))) ∧ (r15 = 0 → Q (-1) h14))))))))))
set_option maxHeartbeats 4000000 in
set_option maxRecDepth 100000 in
theorem sg_X11_hidden_38 (G : GT) (d : Nat) (h0 : PH) (l0 : Nat) (l1 : Int32) (l2 : Int32) (l3 : Int32) (s0 : Int32) (h : PH) (Q : Int32 → PH → Prop) (hex : qEx h0 h) (hnn : qn h = qn h0 + 0) (hzz : qz h = qz h0 + 0) (okl0 : qOK h 10 l0) (hwp : wp_X11_hidden_38 l0 l1 l2 l3 s0 h Q) : Ex G (qrm (3 + d) 0 0) mX11_hidden (qn h0) (qz h0) (ZN G h0 0 0 (qqi Q)) 38 [(0, .ref l0), (1, .int l1), (2, .int l2), (3, .int l3)] [.int s0] h := by
  unfold wp_X11_hidden_38 at hwp
  refine x_istore (lv2 := [(4, .int s0), (0, .ref l0), (1, .int l1), (2, .int l2), (3, .int l3)]) (pc := 38) dX11_hidden_38 (by decide) rfl ?_
  refine x_iload (pc := 40) dX11_hidden_40 rfl ?_
  refine x_if_eq (tgt := 60) (pc := 42) dX11_hidden_42 (by decide) (fun c10 => ?_) (fun c10 => ?_)
  · have hwp := hwp.1 c10
    refine x_iconst (v := (-1)) (pc := 60) dX11_hidden_60 (by decide) ?_
    exact x_iret (pc := 61) dX11_hidden_61 rfl hex hnn hzz ⟨_, rfl, hwp⟩
  · have hwp := hwp.2 c10
    refine x_aload_n (pc := 45) dX11_hidden_45 rfl ?_
    refine x_iload_n (pc := 46) dX11_hidden_46 rfl ?_
    refine x_invV (As := [.int l1]) (st := []) (pc := 47) dX11_hidden_47 lRX11_134 fX11_isPlace vX11_isPlace okl0 rfl (Nat.le_of_ble_eq_true rfl) (q_R (by omega) (by decide)) (q_C hnn hzz (by decide) (by decide)) (sn_X11_isPlace G (d + 2) l0 l1 h _ okl0 hwp) (k_b (fun r12 h11 hwp zbr12 cxh11 => ?_))
    have hex := hex.tr cxh11.1
    have hnn : qn h11 = qn h0 + 0 := by have := cxh11.2.1; omega
    have hzz : qz h11 = qz h0 + 0 := by have := cxh11.2.2; omega
    have okl0 := okl0.ex cxh11.1
    refine x_if_eq (tgt := 60) (pc := 50) dX11_hidden_50 (by decide) (fun c13 => ?_) (fun c13 => ?_)
    · have hwp := hwp.1 c13
      refine x_iconst (v := (-1)) (pc := 60) dX11_hidden_60 (by decide) ?_
      exact x_iret (pc := 61) dX11_hidden_61 rfl hex hnn hzz ⟨_, rfl, hwp⟩
    · have hwp := hwp.2 c13
      refine x_iload_n (pc := 53) dX11_hidden_53 rfl ?_
      refine x_invS (As := [.int l2]) (st := []) (pc := 54) dX11_hidden_54 lRX11_180 fX11_isPush sX11_isPush rfl (Nat.le_of_ble_eq_true rfl) (q_R (by omega) (by decide)) (q_C hnn hzz (by decide) (by decide)) (sn_X11_isPush G (d + 2) l2 h11 _  hwp) (k_b (fun r15 h14 hwp zbr15 cxh14 => ?_))
      have hex := hex.tr cxh14.1
      have hnn : qn h14 = qn h0 + 0 := by have := cxh14.2.1; omega
      have hzz : qz h14 = qz h0 + 0 := by have := cxh14.2.2; omega
      have okl0 := okl0.ex cxh14.1
      refine x_if_ne (tgt := 62) (pc := 57) dX11_hidden_57 (by decide) (fun c16 => ?_) (fun c16 => ?_)
      · have hwp := hwp.1 c16
        refine x_aload_n (pc := 62) dX11_hidden_62 rfl ?_
        obtain ⟨b17, e18, hwp⟩ := hwp
        refine x_getR (pc := 63) dX11_hidden_63 qRX11_33 okl0 e18 (fun okb17 => ?_)
        refine x_aload_n (pc := 66) dX11_hidden_66 rfl ?_
        obtain ⟨b19, e20, hwp⟩ := hwp
        refine x_getR (pc := 67) dX11_hidden_67 qRX11_26 okl0 e20 (fun okb19 => ?_)
        refine x_iconst (v := 0) (pc := 70) dX11_hidden_70 (by decide) ?_
        refine x_invV (As := [.ref b19, .int 0]) (st := []) (pc := 71) dX11_hidden_71 lRX11_183 fX10_prepare vX10_prepare okb17 rfl (Nat.le_of_ble_eq_true rfl) (q_R (by omega) (by decide)) (q_C hnn hzz (by decide) (by decide)) (sn_X10_prepare G (d + 1) b17 b19 0 h14 _ okb17 okb19 hwp) (k_v (fun h21 hwp cxh21 => ?_))
        have hex := hex.tr cxh21.1
        have hnn : qn h21 = qn h0 + 0 := by have := cxh21.2.1; omega
        have hzz : qz h21 = qz h0 + 0 := by have := cxh21.2.2; omega
        have okl0 := okl0.ex cxh21.1
        have okb17 := okb17.ex cxh21.1
        have okb19 := okb19.ex cxh21.1
        refine x_aload_n (pc := 74) dX11_hidden_74 rfl ?_
        obtain ⟨b23, e24, hwp⟩ := hwp
        refine x_getR (pc := 75) dX11_hidden_75 qRX11_50 okl0 e24 (fun okb23 => ?_)
        refine x_aload_n (pc := 78) dX11_hidden_78 rfl ?_
        obtain ⟨b25, e26, hwp⟩ := hwp
        refine x_getR (pc := 79) dX11_hidden_79 qRX11_10 okl0 e26 (fun okb25 => ?_)
        refine x_iload_n (pc := 82) dX11_hidden_82 rfl ?_
        refine x_iconst (v := 2) (pc := 83) dX11_hidden_83 (by decide) ?_
        refine x_idiv (pc := 84) dX11_hidden_84 (by decide) ?_
        refine x_invV (As := [.ref b25, .int (l3 / 2)]) (st := []) (pc := 85) dX11_hidden_85 lRX11_255 fX2_show vX2_show okb23 rfl (Nat.le_of_ble_eq_true rfl) (q_R (by omega) (by decide)) (q_C hnn hzz (by decide) (by decide)) (sn_X2_show G (d + 1) b23 b25 (l3 / 2) h21 _ okb23 okb25 hwp) (k_v (fun h27 hwp cxh27 => ?_))
        have hex := hex.tr cxh27.1
        have hnn : qn h27 = qn h0 + 0 := by have := cxh27.2.1; omega
        have hzz : qz h27 = qz h0 + 0 := by have := cxh27.2.2; omega
        have okl0 := okl0.ex cxh27.1
        have okb17 := okb17.ex cxh27.1
        have okb19 := okb19.ex cxh27.1
        have okb23 := okb23.ex cxh27.1
        have okb25 := okb25.ex cxh27.1
        refine x_aload_n (pc := 88) dX11_hidden_88 rfl ?_
        obtain ⟨b29, e30, hwp⟩ := hwp
        refine x_getR (pc := 89) dX11_hidden_89 qRX11_50 okl0 e30 (fun okb29 => ?_)
        refine x_aload_n (pc := 92) dX11_hidden_92 rfl ?_
        obtain ⟨b31, e32, hwp⟩ := hwp
        refine x_getR (pc := 93) dX11_hidden_93 qRX11_33 okl0 e32 (fun okb31 => ?_)
        refine x_iload_n (pc := 96) dX11_hidden_96 rfl ?_
        refine x_iload_n (pc := 97) dX11_hidden_97 rfl ?_
        refine x_invV (As := [.ref b31, .int l1, .int l2]) (st := []) (pc := 98) dX11_hidden_98 lRX11_259 fX2_comesWithout vX2_comesWithout okb29 rfl (Nat.le_of_ble_eq_true rfl) (q_R (by omega) (by decide)) (q_C hnn hzz (by decide) (by decide)) (sn_X2_comesWithout G (d + 1) b29 b31 l1 l2 h27 _ okb29 okb31 hwp) (k_b (fun r34 h33 hwp zbr34 cxh33 => ?_))
        have hex := hex.tr cxh33.1
        have hnn : qn h33 = qn h0 + 0 := by have := cxh33.2.1; omega
        have hzz : qz h33 = qz h0 + 0 := by have := cxh33.2.2; omega
        have okl0 := okl0.ex cxh33.1
        have okb17 := okb17.ex cxh33.1
        have okb19 := okb19.ex cxh33.1
        have okb23 := okb23.ex cxh33.1
        have okb25 := okb25.ex cxh33.1
        have okb29 := okb29.ex cxh33.1
        have okb31 := okb31.ex cxh33.1
        refine x_if_eq (tgt := 107) (pc := 101) dX11_hidden_101 (by decide) (fun c35 => ?_) (fun c35 => ?_)
        · have hwp := hwp.1 c35
          refine x_aload_n (pc := 107) dX11_hidden_107 rfl ?_
          obtain ⟨b36, e37, hwp⟩ := hwp
          refine x_getR (pc := 108) dX11_hidden_108 qRX11_50 okl0 e37 (fun okb36 => ?_)
          refine x_aload_n (pc := 111) dX11_hidden_111 rfl ?_
          obtain ⟨b38, e39, hwp⟩ := hwp
          refine x_getR (pc := 112) dX11_hidden_112 qRX11_33 okl0 e39 (fun okb38 => ?_)
          refine x_iload_n (pc := 115) dX11_hidden_115 rfl ?_
          refine x_iload_n (pc := 116) dX11_hidden_116 rfl ?_
          refine x_invV (As := [.ref b38, .int l1, .int l2]) (st := []) (pc := 117) dX11_hidden_117 lRX11_263 fX2_search vX2_search okb36 rfl (Nat.le_of_ble_eq_true rfl) (q_R (by omega) (by decide)) (q_C hnn hzz (by decide) (by decide)) (sn_X2_search G (d + 0) b36 b38 l1 l2 h33 _ okb36 okb38 hwp) (k_v (fun h40 hwp cxh40 => ?_))
          have hex := hex.tr cxh40.1
          have hnn : qn h40 = qn h0 + 0 := by have := cxh40.2.1; omega
          have hzz : qz h40 = qz h0 + 0 := by have := cxh40.2.2; omega
          have okl0 := okl0.ex cxh40.1
          have okb17 := okb17.ex cxh40.1
          have okb19 := okb19.ex cxh40.1
          have okb23 := okb23.ex cxh40.1
          have okb25 := okb25.ex cxh40.1
          have okb29 := okb29.ex cxh40.1
          have okb31 := okb31.ex cxh40.1
          have okb36 := okb36.ex cxh40.1
          have okb38 := okb38.ex cxh40.1
          refine x_aload_n (pc := 120) dX11_hidden_120 rfl ?_
          obtain ⟨b42, e43, hwp⟩ := hwp
          refine x_getR (pc := 121) dX11_hidden_121 qRX11_50 okl0 e43 (fun okb42 => ?_)
          refine x_getI (pc := 124) dX11_hidden_124 qRX11_267 okb42 (by decide) ?_
          exact x_iret (pc := 127) dX11_hidden_127 rfl hex hnn hzz ⟨_, rfl, hwp⟩
        · have hwp := hwp.2 c35
          refine x_bipush (v := (-2)) (pc := 104) dX11_hidden_104 (by decide) ?_
          exact x_iret (pc := 106) dX11_hidden_106 rfl hex hnn hzz ⟨_, rfl, hwp⟩
      · have hwp := hwp.2 c16
        refine x_iconst (v := (-1)) (pc := 60) dX11_hidden_60 (by decide) ?_
        exact x_iret (pc := 61) dX11_hidden_61 rfl hex hnn hzz ⟨_, rfl, hwp⟩
def wp_X11_hidden (l0 : Nat) (l1 : Int32) (l2 : Int32) (h : PH) (Q : Int32 → PH → Prop) : Prop := (∃ b1, qR h l0 0 = some b1 ∧ ∀ v3 : Int32, v3 = qI h b1 1 → (∃ b4, qR h l0 0 = some b4 ∧ (∀ h6, h6 = qsI h b4 1 0 → ((v3 < 2 → (wp_X11_hidden_38 l0 l1 l2 v3 0 h6 Q)) ∧ (¬ (v3 < 2) → ((120 < v3 → (wp_X11_hidden_38 l0 l1 l2 v3 0 h6 Q)) ∧ (¬ (120 < v3) → ((¬ (v3 - v3 / 2 * 2) = 0 → (wp_X11_hidden_38 l0 l1 l2 v3 0 h6 Q)) ∧ ((v3 - v3 / 2 * 2) = 0 → (wp_X11_hidden_38 l0 l1 l2 v3 1 h6 Q))))))))))
set_option maxHeartbeats 4000000 in
set_option maxRecDepth 100000 in
theorem sn_X11_hidden (G : GT) (d : Nat) (l0 : Nat) (l1 : Int32) (l2 : Int32) (h : PH) (Q : Int32 → PH → Prop) (okl0 : qOK h 10 l0) (hwp : wp_X11_hidden l0 l1 l2 h Q) : Mt G (3 + d) 0 0 mX11_hidden [.ref l0, .int l1, .int l2] h (qqi Q) := by
  unfold wp_X11_hidden at hwp
  refine Mt.of (by decide) rfl (Nat.le_of_ble_eq_true rfl) ?_
  have hex := qEx.rf h
  have hnn : qn h = qn h + 0 := rfl
  have hzz : qz h = qz h + 0 := rfl
  refine x_lvE (lv2 := [(0, .ref l0), (1, .int l1), (2, .int l2)]) rfl ?_
  refine x_aload_n (pc := 0) dX11_hidden_0 rfl ?_
  obtain ⟨b1, e2, hwp⟩ := hwp
  refine x_getR (pc := 1) dX11_hidden_1 qRX11_10 okl0 e2 (fun okb1 => ?_)
  refine x_getI (pc := 4) dX11_hidden_4 qRX11_102 okb1 (by decide) ?_
  refine x_nmI (fun v3 ev3 => ?_)
  have hwp := hwp v3 ev3
  refine x_istore_n (lv2 := [(3, .int v3), (0, .ref l0), (1, .int l1), (2, .int l2)]) (pc := 7) dX11_hidden_7 (by decide) rfl ?_
  refine x_aload_n (pc := 8) dX11_hidden_8 rfl ?_
  obtain ⟨b4, e5, hwp⟩ := hwp
  refine x_getR (pc := 9) dX11_hidden_9 qRX11_10 okl0 e5 (fun okb4 => ?_)
  refine x_iconst (v := 0) (pc := 12) dX11_hidden_12 (by decide) ?_
  refine y_putI (pc := 13) dX11_hidden_13 qRX11_102 okb4 (fun h6 eh6 nxh6 => ?_)
  have hwp := hwp h6 eh6
  have hex := hex.tr nxh6.1
  have hnn := nxh6.2.1.trans hnn
  have hzz := nxh6.2.2.trans hzz
  have okl0 := okl0.ex nxh6.1
  have okb1 := okb1.ex nxh6.1
  have okb4 := okb4.ex nxh6.1
  refine x_iload_n (pc := 16) dX11_hidden_16 rfl ?_
  refine x_iconst (v := 2) (pc := 17) dX11_hidden_17 (by decide) ?_
  refine x_icmp_lt (tgt := 37) (pc := 18) dX11_hidden_18 (by decide) (fun c7 => ?_) (fun c7 => ?_)
  · have hwp := hwp.1 c7
    refine x_iconst (v := 0) (pc := 37) dX11_hidden_37 (by decide) ?_
    refine x_sub [1, 2, 3, 0] rfl ?_
    exact sg_X11_hidden_38 G d h l0 l1 l2 v3 0 h6 Q hex hnn hzz okl0 hwp
  · have hwp := hwp.2 c7
    refine x_iload_n (pc := 21) dX11_hidden_21 rfl ?_
    refine x_bipush (v := 120) (pc := 22) dX11_hidden_22 (by decide) ?_
    refine x_icmp_gt (tgt := 37) (pc := 24) dX11_hidden_24 (by decide) (fun c8 => ?_) (fun c8 => ?_)
    · have hwp := hwp.1 c8
      refine x_iconst (v := 0) (pc := 37) dX11_hidden_37 (by decide) ?_
      refine x_sub [1, 2, 3, 0] rfl ?_
      exact sg_X11_hidden_38 G d h l0 l1 l2 v3 0 h6 Q hex hnn hzz okl0 hwp
    · have hwp := hwp.2 c8
      refine x_iload_n (pc := 27) dX11_hidden_27 rfl ?_
      refine x_iconst (v := 2) (pc := 28) dX11_hidden_28 (by decide) ?_
      refine x_irem (pc := 29) dX11_hidden_29 (by decide) ?_
      refine x_if_ne (tgt := 37) (pc := 30) dX11_hidden_30 (by decide) (fun c9 => ?_) (fun c9 => ?_)
      · have hwp := hwp.1 c9
        refine x_iconst (v := 0) (pc := 37) dX11_hidden_37 (by decide) ?_
        refine x_sub [1, 2, 3, 0] rfl ?_
        exact sg_X11_hidden_38 G d h l0 l1 l2 v3 0 h6 Q hex hnn hzz okl0 hwp
      · have hwp := hwp.2 c9
        refine x_iconst (v := 1) (pc := 33) dX11_hidden_33 (by decide) ?_
        refine x_goto (tgt := 38) (pc := 34) dX11_hidden_34 (by decide) ?_
        refine x_sub [1, 2, 3, 0] rfl ?_
        exact sg_X11_hidden_38 G d h l0 l1 l2 v3 1 h6 Q hex hnn hzz okl0 hwp

theorem dX11_hiddenAt_0 : decode cX11_hiddenAt 0 = .ok (.iload_n 1, 1) := by decide +kernel
theorem dX11_hiddenAt_1 : decode cX11_hiddenAt 1 = .ok (.ifCond .lt 20, 3) := by decide +kernel
theorem dX11_hiddenAt_4 : decode cX11_hiddenAt 4 = .ok (.iload_n 1, 1) := by decide +kernel
theorem dX11_hiddenAt_5 : decode cX11_hiddenAt 5 = .ok (.aload_n 0, 1) := by decide +kernel
theorem dX11_hiddenAt_6 : decode cX11_hiddenAt 6 = .ok (.getfield 50, 3) := by decide +kernel
theorem dX11_hiddenAt_9 : decode cX11_hiddenAt 9 = .ok (.getfield 267, 3) := by decide +kernel
theorem dX11_hiddenAt_12 : decode cX11_hiddenAt 12 = .ok (.sipush 200, 3) := by decide +kernel
theorem dX11_hiddenAt_15 : decode cX11_hiddenAt 15 = .ok (.invokestatic 270, 3) := by decide +kernel
theorem dX11_hiddenAt_18 : decode cX11_hiddenAt 18 = .ok (.if_icmp .lt 5, 3) := by decide +kernel
theorem dX11_hiddenAt_21 : decode cX11_hiddenAt 21 = .ok (.iconst (-1), 1) := by decide +kernel
theorem dX11_hiddenAt_22 : decode cX11_hiddenAt 22 = .ok (.ireturn, 1) := by decide +kernel
theorem dX11_hiddenAt_23 : decode cX11_hiddenAt 23 = .ok (.iload_n 2, 1) := by decide +kernel
theorem dX11_hiddenAt_24 : decode cX11_hiddenAt 24 = .ok (.lookupswitch 48 #[(0, 28), (1, 38)], 28) := by decide +kernel
theorem dX11_hiddenAt_52 : decode cX11_hiddenAt 52 = .ok (.aload_n 0, 1) := by decide +kernel
theorem dX11_hiddenAt_53 : decode cX11_hiddenAt 53 = .ok (.getfield 50, 3) := by decide +kernel
theorem dX11_hiddenAt_56 : decode cX11_hiddenAt 56 = .ok (.getfield 275, 3) := by decide +kernel
theorem dX11_hiddenAt_59 : decode cX11_hiddenAt 59 = .ok (.iload_n 1, 1) := by decide +kernel
theorem dX11_hiddenAt_60 : decode cX11_hiddenAt 60 = .ok (.iaload, 1) := by decide +kernel
theorem dX11_hiddenAt_61 : decode cX11_hiddenAt 61 = .ok (.ireturn, 1) := by decide +kernel
theorem dX11_hiddenAt_62 : decode cX11_hiddenAt 62 = .ok (.aload_n 0, 1) := by decide +kernel
theorem dX11_hiddenAt_63 : decode cX11_hiddenAt 63 = .ok (.getfield 50, 3) := by decide +kernel
theorem dX11_hiddenAt_66 : decode cX11_hiddenAt 66 = .ok (.getfield 277, 3) := by decide +kernel
theorem dX11_hiddenAt_69 : decode cX11_hiddenAt 69 = .ok (.iload_n 1, 1) := by decide +kernel
theorem dX11_hiddenAt_70 : decode cX11_hiddenAt 70 = .ok (.iaload, 1) := by decide +kernel
theorem dX11_hiddenAt_71 : decode cX11_hiddenAt 71 = .ok (.ireturn, 1) := by decide +kernel
theorem dX11_hiddenAt_72 : decode cX11_hiddenAt 72 = .ok (.iconst (-1), 1) := by decide +kernel
theorem dX11_hiddenAt_73 : decode cX11_hiddenAt 73 = .ok (.ireturn, 1) := by decide +kernel
def wp_X11_hiddenAt (l0 : Nat) (l1 : Int32) (l2 : Int32) (h : PH) (Q : Int32 → PH → Prop) : Prop := ((l1 < 0 → Q (-1) h) ∧ (¬ (l1 < 0) → (∃ b2, qR h l0 6 = some b2 ∧ (wp_J9_min_7cf53 (qI h b2 5) 200 h (fun r5 h4 => ((l1 < r5 → ((l2 = 0 → (∃ b8, qR h4 l0 6 = some b8 ∧ (∃ b10, qR h4 b8 1 = some b10 ∧ (vp_in l1 (qL h4 b10) ∧ Q (qI h4 b10 l1.toNatClampNeg) h4)))) ∧ (l2 = 1 → (∃ b14, qR h4 l0 6 = some b14 ∧ (∃ b16, qR h4 b14 2 = some b16 ∧ (vp_in l1 (qL h4 b16) ∧ Q (qI h4 b16 l1.toNatClampNeg) h4)))) ∧ (¬ l2 = 0 → ¬ l2 = 1 → Q (-1) h4))) ∧ (¬ (l1 < r5) → Q (-1) h4)))))))
set_option maxHeartbeats 4000000 in
set_option maxRecDepth 100000 in
theorem sn_X11_hiddenAt (G : GT) (d : Nat) (l0 : Nat) (l1 : Int32) (l2 : Int32) (h : PH) (Q : Int32 → PH → Prop) (okl0 : qOK h 10 l0) (hwp : wp_X11_hiddenAt l0 l1 l2 h Q) : Mt G (1 + d) 0 0 mX11_hiddenAt [.ref l0, .int l1, .int l2] h (qqi Q) := by
  unfold wp_X11_hiddenAt at hwp
  refine Mt.of (by decide) rfl (Nat.le_of_ble_eq_true rfl) ?_
  have hex := qEx.rf h
  have hnn : qn h = qn h + 0 := rfl
  have hzz : qz h = qz h + 0 := rfl
  refine x_lvE (lv2 := [(0, .ref l0), (1, .int l1), (2, .int l2)]) rfl ?_
  refine x_iload_n (pc := 0) dX11_hiddenAt_0 rfl ?_
  refine x_if_lt (tgt := 21) (pc := 1) dX11_hiddenAt_1 (by decide) (fun c1 => ?_) (fun c1 => ?_)
  · have hwp := hwp.1 c1
    refine x_iconst (v := (-1)) (pc := 21) dX11_hiddenAt_21 (by decide) ?_
    exact x_iret (pc := 22) dX11_hiddenAt_22 rfl hex hnn hzz ⟨_, rfl, hwp⟩
  · have hwp := hwp.2 c1
    refine x_iload_n (pc := 4) dX11_hiddenAt_4 rfl ?_
    refine x_aload_n (pc := 5) dX11_hiddenAt_5 rfl ?_
    obtain ⟨b2, e3, hwp⟩ := hwp
    refine x_getR (pc := 6) dX11_hiddenAt_6 qRX11_50 okl0 e3 (fun okb2 => ?_)
    refine x_getI (pc := 9) dX11_hiddenAt_9 qRX11_267 okb2 (by decide) ?_
    refine x_sipush (v := 200) (pc := 12) dX11_hiddenAt_12 (by decide) ?_
    refine x_invS (As := [.int (qI h b2 5), .int 200]) (st := [.int l1]) (pc := 15) dX11_hiddenAt_15 lRX11_270 fJ9_min_7cf53 sJ9_min_7cf53 rfl (Nat.le_of_ble_eq_true rfl) (q_R (by omega) (by decide)) (q_C hnn hzz (by decide) (by decide)) (sn_J9_min_7cf53 G (d + 0) (qI h b2 5) 200 h _  hwp) (k_i (fun r5 h4 hwp cxh4 => ?_))
    have hex := hex.tr cxh4.1
    have hnn : qn h4 = qn h + 0 := by have := cxh4.2.1; omega
    have hzz : qz h4 = qz h + 0 := by have := cxh4.2.2; omega
    have okl0 := okl0.ex cxh4.1
    have okb2 := okb2.ex cxh4.1
    refine x_icmp_lt (tgt := 23) (pc := 18) dX11_hiddenAt_18 (by decide) (fun c6 => ?_) (fun c6 => ?_)
    · have hwp := hwp.1 c6
      refine x_iload_n (pc := 23) dX11_hiddenAt_23 rfl ?_
      by_cases c7 : l2 = 0
      · have hwp := hwp.1 c7
        refine x_lookup (tgt := 52) (pc := 24) dX11_hiddenAt_24 (by decide) (by rw [q_teq c7 (n := 0) (by decide)]; try rfl) (by decide) ?_
        refine x_aload_n (pc := 52) dX11_hiddenAt_52 rfl ?_
        obtain ⟨b8, e9, hwp⟩ := hwp
        refine x_getR (pc := 53) dX11_hiddenAt_53 qRX11_50 okl0 e9 (fun okb8 => ?_)
        obtain ⟨b10, e11, hwp⟩ := hwp
        refine x_getR (pc := 56) dX11_hiddenAt_56 qRX11_275 okb8 e11 (fun okb10 => ?_)
        refine x_iload_n (pc := 59) dX11_hiddenAt_59 rfl ?_
        obtain ⟨i12, hwp⟩ := hwp
        refine x_iaload (pc := 60) dX11_hiddenAt_60 okb10 i12 ?_
        exact x_iret (pc := 61) dX11_hiddenAt_61 rfl hex hnn hzz ⟨_, rfl, hwp⟩
      by_cases c13 : l2 = 1
      · have hwp := hwp.2.1 c13
        refine x_lookup (tgt := 62) (pc := 24) dX11_hiddenAt_24 (by decide) (by rw [q_teq c13 (n := 1) (by decide)]; try rfl) (by decide) ?_
        refine x_aload_n (pc := 62) dX11_hiddenAt_62 rfl ?_
        obtain ⟨b14, e15, hwp⟩ := hwp
        refine x_getR (pc := 63) dX11_hiddenAt_63 qRX11_50 okl0 e15 (fun okb14 => ?_)
        obtain ⟨b16, e17, hwp⟩ := hwp
        refine x_getR (pc := 66) dX11_hiddenAt_66 qRX11_277 okb14 e17 (fun okb16 => ?_)
        refine x_iload_n (pc := 69) dX11_hiddenAt_69 rfl ?_
        obtain ⟨i18, hwp⟩ := hwp
        refine x_iaload (pc := 70) dX11_hiddenAt_70 okb16 i18 ?_
        exact x_iret (pc := 71) dX11_hiddenAt_71 rfl hex hnn hzz ⟨_, rfl, hwp⟩
      have hwp := hwp.2.2 c7 c13
      refine x_lookup (tgt := 72) (pc := 24) dX11_hiddenAt_24 (by decide) (by simp only [Op.lookupswitch.offset]; rw [if_neg (fun w => q_tne c7 (n := 0) (by decide) w.symm), if_neg (fun w => q_tne c13 (n := 1) (by decide) w.symm)]) (by decide) ?_
      refine x_iconst (v := (-1)) (pc := 72) dX11_hiddenAt_72 (by decide) ?_
      exact x_iret (pc := 73) dX11_hiddenAt_73 rfl hex hnn hzz ⟨_, rfl, hwp⟩
    · have hwp := hwp.2 c6
      refine x_iconst (v := (-1)) (pc := 21) dX11_hiddenAt_21 (by decide) ?_
      exact x_iret (pc := 22) dX11_hiddenAt_22 rfl hex hnn hzz ⟨_, rfl, hwp⟩

theorem dX11_looks_0 : decode cX11_looks 0 = .ok (.aload_n 0, 1) := by decide +kernel
theorem dX11_looks_1 : decode cX11_looks 1 = .ok (.getfield 10, 3) := by decide +kernel
theorem dX11_looks_4 : decode cX11_looks 4 = .ok (.getfield 102, 3) := by decide +kernel
theorem dX11_looks_7 : decode cX11_looks 7 = .ok (.istore_n 1, 1) := by decide +kernel
theorem dX11_looks_8 : decode cX11_looks 8 = .ok (.aload_n 0, 1) := by decide +kernel
theorem dX11_looks_9 : decode cX11_looks 9 = .ok (.getfield 10, 3) := by decide +kernel
theorem dX11_looks_12 : decode cX11_looks 12 = .ok (.iconst 0, 1) := by decide +kernel
theorem dX11_looks_13 : decode cX11_looks 13 = .ok (.putfield 102, 3) := by decide +kernel
theorem dX11_looks_16 : decode cX11_looks 16 = .ok (.iload_n 1, 1) := by decide +kernel
theorem dX11_looks_17 : decode cX11_looks 17 = .ok (.bipush 6, 2) := by decide +kernel
theorem dX11_looks_19 : decode cX11_looks 19 = .ok (.idiv, 1) := by decide +kernel
theorem dX11_looks_20 : decode cX11_looks 20 = .ok (.istore_n 2, 1) := by decide +kernel
theorem dX11_looks_21 : decode cX11_looks 21 = .ok (.aload_n 0, 1) := by decide +kernel
theorem dX11_looks_22 : decode cX11_looks 22 = .ok (.getfield 50, 3) := by decide +kernel
theorem dX11_looks_25 : decode cX11_looks 25 = .ok (.getfield 280, 3) := by decide +kernel
theorem dX11_looks_28 : decode cX11_looks 28 = .ok (.ifCond .eq 21, 3) := by decide +kernel
theorem dX11_looks_31 : decode cX11_looks 31 = .ok (.iload_n 1, 1) := by decide +kernel
theorem dX11_looks_32 : decode cX11_looks 32 = .ok (.bipush 6, 2) := by decide +kernel
theorem dX11_looks_34 : decode cX11_looks 34 = .ok (.irem, 1) := by decide +kernel
theorem dX11_looks_35 : decode cX11_looks 35 = .ok (.ifCond .ne 14, 3) := by decide +kernel
theorem dX11_looks_38 : decode cX11_looks 38 = .ok (.iload_n 2, 1) := by decide +kernel
theorem dX11_looks_39 : decode cX11_looks 39 = .ok (.iconst 1, 1) := by decide +kernel
theorem dX11_looks_40 : decode cX11_looks 40 = .ok (.if_icmp .lt 9, 3) := by decide +kernel
theorem dX11_looks_43 : decode cX11_looks 43 = .ok (.iload_n 2, 1) := by decide +kernel
theorem dX11_looks_44 : decode cX11_looks 44 = .ok (.bipush 10, 2) := by decide +kernel
theorem dX11_looks_46 : decode cX11_looks 46 = .ok (.if_icmp .le 6, 3) := by decide +kernel
theorem dX11_looks_49 : decode cX11_looks 49 = .ok (.bipush (-2), 2) := by decide +kernel
theorem dX11_looks_51 : decode cX11_looks 51 = .ok (.ireturn, 1) := by decide +kernel
theorem dX11_looks_52 : decode cX11_looks 52 = .ok (.aload_n 0, 1) := by decide +kernel
theorem dX11_looks_53 : decode cX11_looks 53 = .ok (.getfield 50, 3) := by decide +kernel
theorem dX11_looks_56 : decode cX11_looks 56 = .ok (.aload_n 0, 1) := by decide +kernel
theorem dX11_looks_57 : decode cX11_looks 57 = .ok (.getfield 10, 3) := by decide +kernel
theorem dX11_looks_60 : decode cX11_looks 60 = .ok (.iload_n 2, 1) := by decide +kernel
theorem dX11_looks_61 : decode cX11_looks 61 = .ok (.invokevirtual 283, 3) := by decide +kernel
theorem dX11_looks_64 : decode cX11_looks 64 = .ok (.aload_n 0, 1) := by decide +kernel
theorem dX11_looks_65 : decode cX11_looks 65 = .ok (.getfield 50, 3) := by decide +kernel
theorem dX11_looks_68 : decode cX11_looks 68 = .ok (.invokevirtual 286, 3) := by decide +kernel
theorem dX11_looks_71 : decode cX11_looks 71 = .ok (.ireturn, 1) := by decide +kernel
def wp_X11_looks (l0 : Nat) (h : PH) (Q : Int32 → PH → Prop) : Prop := (∃ b1, qR h l0 0 = some b1 ∧ ∀ v3 : Int32, v3 = qI h b1 1 → (∃ b4, qR h l0 0 = some b4 ∧ (∀ h6, h6 = qsI h b4 1 0 → ∀ v7 : Int32, v7 = v3 / 6 → (∃ b8, qR h6 l0 6 = some b8 ∧ (((qI h6 b8 4) = 0 → Q (-2) h6) ∧ (¬ ((qI h6 b8 4) = 0) → ((¬ (v3 - v3 / 6 * 6) = 0 → Q (-2) h6) ∧ ((v3 - v3 / 6 * 6) = 0 → ((v7 < 1 → Q (-2) h6) ∧ (¬ (v7 < 1) → ((v7 ≤ 10 → (∃ b14, qR h6 l0 6 = some b14 ∧ (∃ b16, qR h6 l0 0 = some b16 ∧ (wp_X2_readLooks b14 b16 v7 h6 (fun h18 => (∃ b20, qR h18 l0 6 = some b20 ∧ (wp_X2_fewestLooks b20 h18 (fun r23 h22 => Q r23 h22)))))))) ∧ (¬ (v7 ≤ 10) → Q (-2) h6))))))))))))
set_option maxHeartbeats 4000000 in
set_option maxRecDepth 100000 in
theorem sn_X11_looks (G : GT) (d : Nat) (l0 : Nat) (h : PH) (Q : Int32 → PH → Prop) (okl0 : qOK h 10 l0) (hwp : wp_X11_looks l0 h Q) : Mt G (2 + d) 0 0 mX11_looks [.ref l0] h (qqi Q) := by
  unfold wp_X11_looks at hwp
  refine Mt.of (by decide) rfl (Nat.le_of_ble_eq_true rfl) ?_
  have hex := qEx.rf h
  have hnn : qn h = qn h + 0 := rfl
  have hzz : qz h = qz h + 0 := rfl
  refine x_lvE (lv2 := [(0, .ref l0)]) rfl ?_
  refine x_aload_n (pc := 0) dX11_looks_0 rfl ?_
  obtain ⟨b1, e2, hwp⟩ := hwp
  refine x_getR (pc := 1) dX11_looks_1 qRX11_10 okl0 e2 (fun okb1 => ?_)
  refine x_getI (pc := 4) dX11_looks_4 qRX11_102 okb1 (by decide) ?_
  refine x_nmI (fun v3 ev3 => ?_)
  have hwp := hwp v3 ev3
  refine x_istore_n (lv2 := [(1, .int v3), (0, .ref l0)]) (pc := 7) dX11_looks_7 (by decide) rfl ?_
  refine x_aload_n (pc := 8) dX11_looks_8 rfl ?_
  obtain ⟨b4, e5, hwp⟩ := hwp
  refine x_getR (pc := 9) dX11_looks_9 qRX11_10 okl0 e5 (fun okb4 => ?_)
  refine x_iconst (v := 0) (pc := 12) dX11_looks_12 (by decide) ?_
  refine y_putI (pc := 13) dX11_looks_13 qRX11_102 okb4 (fun h6 eh6 nxh6 => ?_)
  have hwp := hwp h6 eh6
  have hex := hex.tr nxh6.1
  have hnn := nxh6.2.1.trans hnn
  have hzz := nxh6.2.2.trans hzz
  have okl0 := okl0.ex nxh6.1
  have okb1 := okb1.ex nxh6.1
  have okb4 := okb4.ex nxh6.1
  refine x_iload_n (pc := 16) dX11_looks_16 rfl ?_
  refine x_bipush (v := 6) (pc := 17) dX11_looks_17 (by decide) ?_
  refine x_idiv (pc := 19) dX11_looks_19 (by decide) ?_
  refine x_nmI (fun v7 ev7 => ?_)
  have hwp := hwp v7 ev7
  refine x_istore_n (lv2 := [(2, .int v7), (1, .int v3), (0, .ref l0)]) (pc := 20) dX11_looks_20 (by decide) rfl ?_
  refine x_aload_n (pc := 21) dX11_looks_21 rfl ?_
  obtain ⟨b8, e9, hwp⟩ := hwp
  refine x_getR (pc := 22) dX11_looks_22 qRX11_50 okl0 e9 (fun okb8 => ?_)
  refine x_getI (pc := 25) dX11_looks_25 qRX11_280 okb8 (by decide) ?_
  refine x_if_eq (tgt := 49) (pc := 28) dX11_looks_28 (by decide) (fun c10 => ?_) (fun c10 => ?_)
  · have hwp := hwp.1 c10
    refine x_bipush (v := (-2)) (pc := 49) dX11_looks_49 (by decide) ?_
    exact x_iret (pc := 51) dX11_looks_51 rfl hex hnn hzz ⟨_, rfl, hwp⟩
  · have hwp := hwp.2 c10
    refine x_iload_n (pc := 31) dX11_looks_31 rfl ?_
    refine x_bipush (v := 6) (pc := 32) dX11_looks_32 (by decide) ?_
    refine x_irem (pc := 34) dX11_looks_34 (by decide) ?_
    refine x_if_ne (tgt := 49) (pc := 35) dX11_looks_35 (by decide) (fun c11 => ?_) (fun c11 => ?_)
    · have hwp := hwp.1 c11
      refine x_bipush (v := (-2)) (pc := 49) dX11_looks_49 (by decide) ?_
      exact x_iret (pc := 51) dX11_looks_51 rfl hex hnn hzz ⟨_, rfl, hwp⟩
    · have hwp := hwp.2 c11
      refine x_iload_n (pc := 38) dX11_looks_38 rfl ?_
      refine x_iconst (v := 1) (pc := 39) dX11_looks_39 (by decide) ?_
      refine x_icmp_lt (tgt := 49) (pc := 40) dX11_looks_40 (by decide) (fun c12 => ?_) (fun c12 => ?_)
      · have hwp := hwp.1 c12
        refine x_bipush (v := (-2)) (pc := 49) dX11_looks_49 (by decide) ?_
        exact x_iret (pc := 51) dX11_looks_51 rfl hex hnn hzz ⟨_, rfl, hwp⟩
      · have hwp := hwp.2 c12
        refine x_iload_n (pc := 43) dX11_looks_43 rfl ?_
        refine x_bipush (v := 10) (pc := 44) dX11_looks_44 (by decide) ?_
        refine x_icmp_le (tgt := 52) (pc := 46) dX11_looks_46 (by decide) (fun c13 => ?_) (fun c13 => ?_)
        · have hwp := hwp.1 c13
          refine x_aload_n (pc := 52) dX11_looks_52 rfl ?_
          obtain ⟨b14, e15, hwp⟩ := hwp
          refine x_getR (pc := 53) dX11_looks_53 qRX11_50 okl0 e15 (fun okb14 => ?_)
          refine x_aload_n (pc := 56) dX11_looks_56 rfl ?_
          obtain ⟨b16, e17, hwp⟩ := hwp
          refine x_getR (pc := 57) dX11_looks_57 qRX11_10 okl0 e17 (fun okb16 => ?_)
          refine x_iload_n (pc := 60) dX11_looks_60 rfl ?_
          refine x_invV (As := [.ref b16, .int v7]) (st := []) (pc := 61) dX11_looks_61 lRX11_283 fX2_readLooks vX2_readLooks okb14 rfl (Nat.le_of_ble_eq_true rfl) (q_R (by omega) (by decide)) (q_C hnn hzz (by decide) (by decide)) (sn_X2_readLooks G (d + 0) b14 b16 v7 h6 _ okb14 okb16 hwp) (k_v (fun h18 hwp cxh18 => ?_))
          have hex := hex.tr cxh18.1
          have hnn : qn h18 = qn h + 0 := by have := cxh18.2.1; omega
          have hzz : qz h18 = qz h + 0 := by have := cxh18.2.2; omega
          have okl0 := okl0.ex cxh18.1
          have okb1 := okb1.ex cxh18.1
          have okb4 := okb4.ex cxh18.1
          have okb8 := okb8.ex cxh18.1
          have okb14 := okb14.ex cxh18.1
          have okb16 := okb16.ex cxh18.1
          refine x_aload_n (pc := 64) dX11_looks_64 rfl ?_
          obtain ⟨b20, e21, hwp⟩ := hwp
          refine x_getR (pc := 65) dX11_looks_65 qRX11_50 okl0 e21 (fun okb20 => ?_)
          refine x_invV (As := []) (st := []) (pc := 68) dX11_looks_68 lRX11_286 fX2_fewestLooks vX2_fewestLooks okb20 rfl (Nat.le_of_ble_eq_true rfl) (q_R (by omega) (by decide)) (q_C hnn hzz (by decide) (by decide)) (sn_X2_fewestLooks G (d + 0) b20 h18 _ okb20 hwp) (k_i (fun r23 h22 hwp cxh22 => ?_))
          have hex := hex.tr cxh22.1
          have hnn : qn h22 = qn h + 0 := by have := cxh22.2.1; omega
          have hzz : qz h22 = qz h + 0 := by have := cxh22.2.2; omega
          have okl0 := okl0.ex cxh22.1
          have okb1 := okb1.ex cxh22.1
          have okb4 := okb4.ex cxh22.1
          have okb8 := okb8.ex cxh22.1
          have okb14 := okb14.ex cxh22.1
          have okb16 := okb16.ex cxh22.1
          have okb20 := okb20.ex cxh22.1
          exact x_iret (pc := 71) dX11_looks_71 rfl hex hnn hzz ⟨_, rfl, hwp⟩
        · have hwp := hwp.2 c13
          refine x_bipush (v := (-2)) (pc := 49) dX11_looks_49 (by decide) ?_
          exact x_iret (pc := 51) dX11_looks_51 rfl hex hnn hzz ⟨_, rfl, hwp⟩

theorem dX11_lookSet_0 : decode cX11_lookSet 0 = .ok (.aload_n 0, 1) := by decide +kernel
theorem dX11_lookSet_1 : decode cX11_lookSet 1 = .ok (.getfield 50, 3) := by decide +kernel
theorem dX11_lookSet_4 : decode cX11_lookSet 4 = .ok (.getfield 289, 3) := by decide +kernel
theorem dX11_lookSet_7 : decode cX11_lookSet 7 = .ok (.ireturn, 1) := by decide +kernel
def wp_X11_lookSet (l0 : Nat) (h : PH) (Q : Int32 → PH → Prop) : Prop := (∃ b1, qR h l0 6 = some b1 ∧ Q (qI h b1 9) h)
set_option maxHeartbeats 4000000 in
set_option maxRecDepth 100000 in
theorem sn_X11_lookSet (G : GT) (d : Nat) (l0 : Nat) (h : PH) (Q : Int32 → PH → Prop) (okl0 : qOK h 10 l0) (hwp : wp_X11_lookSet l0 h Q) : Mt G (0 + d) 0 0 mX11_lookSet [.ref l0] h (qqi Q) := by
  unfold wp_X11_lookSet at hwp
  refine Mt.of (by decide) rfl (Nat.le_of_ble_eq_true rfl) ?_
  have hex := qEx.rf h
  have hnn : qn h = qn h + 0 := rfl
  have hzz : qz h = qz h + 0 := rfl
  refine x_lvE (lv2 := [(0, .ref l0)]) rfl ?_
  refine x_aload_n (pc := 0) dX11_lookSet_0 rfl ?_
  obtain ⟨b1, e2, hwp⟩ := hwp
  refine x_getR (pc := 1) dX11_lookSet_1 qRX11_50 okl0 e2 (fun okb1 => ?_)
  refine x_getI (pc := 4) dX11_lookSet_4 qRX11_289 okb1 (by decide) ?_
  exact x_iret (pc := 7) dX11_lookSet_7 rfl hex hnn hzz ⟨_, rfl, hwp⟩

theorem dX11_keep_0 : decode cX11_keep 0 = .ok (.iload_n 1, 1) := by decide +kernel
theorem dX11_keep_1 : decode cX11_keep 1 = .ok (.ifCond .lt 9, 3) := by decide +kernel
theorem dX11_keep_4 : decode cX11_keep 4 = .ok (.iload_n 1, 1) := by decide +kernel
theorem dX11_keep_5 : decode cX11_keep 5 = .ok (.bipush 6, 2) := by decide +kernel
theorem dX11_keep_7 : decode cX11_keep 7 = .ok (.if_icmp .lt 5, 3) := by decide +kernel
theorem dX11_keep_10 : decode cX11_keep 10 = .ok (.iconst 0, 1) := by decide +kernel
theorem dX11_keep_11 : decode cX11_keep 11 = .ok (.ireturn, 1) := by decide +kernel
theorem dX11_keep_12 : decode cX11_keep 12 = .ok (.aload_n 0, 1) := by decide +kernel
theorem dX11_keep_13 : decode cX11_keep 13 = .ok (.getfield 56, 3) := by decide +kernel
theorem dX11_keep_16 : decode cX11_keep 16 = .ok (.iload_n 1, 1) := by decide +kernel
theorem dX11_keep_17 : decode cX11_keep 17 = .ok (.aaload, 1) := by decide +kernel
theorem dX11_keep_18 : decode cX11_keep 18 = .ok (.ifnonnull 16, 3) := by decide +kernel
theorem dX11_keep_21 : decode cX11_keep 21 = .ok (.aload_n 0, 1) := by decide +kernel
theorem dX11_keep_22 : decode cX11_keep 22 = .ok (.getfield 56, 3) := by decide +kernel
theorem dX11_keep_25 : decode cX11_keep 25 = .ok (.iload_n 1, 1) := by decide +kernel
theorem dX11_keep_26 : decode cX11_keep 26 = .ok (.new 54, 3) := by decide +kernel
theorem dX11_keep_29 : decode cX11_keep 29 = .ok (.dup, 1) := by decide +kernel
theorem dX11_keep_30 : decode cX11_keep 30 = .ok (.invokespecial 69, 3) := by decide +kernel
theorem dX11_keep_33 : decode cX11_keep 33 = .ok (.aastore, 1) := by decide +kernel
theorem dX11_keep_34 : decode cX11_keep 34 = .ok (.aload_n 0, 1) := by decide +kernel
theorem dX11_keep_35 : decode cX11_keep 35 = .ok (.getfield 56, 3) := by decide +kernel
theorem dX11_keep_38 : decode cX11_keep 38 = .ok (.iload_n 1, 1) := by decide +kernel
theorem dX11_keep_39 : decode cX11_keep 39 = .ok (.aaload, 1) := by decide +kernel
theorem dX11_keep_40 : decode cX11_keep 40 = .ok (.aload_n 0, 1) := by decide +kernel
theorem dX11_keep_41 : decode cX11_keep 41 = .ok (.getfield 70, 3) := by decide +kernel
theorem dX11_keep_44 : decode cX11_keep 44 = .ok (.invokevirtual 292, 3) := by decide +kernel
theorem dX11_keep_47 : decode cX11_keep 47 = .ok (.iconst 1, 1) := by decide +kernel
theorem dX11_keep_48 : decode cX11_keep 48 = .ok (.ireturn, 1) := by decide +kernel
def wp_X11_keep (l0 : Nat) (l1 : Int32) (h : PH) (Q : Int32 → PH → Prop) : Prop := ((l1 < 0 → Q 0 h) ∧ (¬ (l1 < 0) → ((l1 < 6 → (∃ b3, qR h l0 7 = some b3 ∧ (vp_in l1 (qL h b3) ∧ ∀ o6, o6 = qR h b3 l1.toNatClampNeg → ((o6 = none → (∃ b10, qR h l0 7 = some b10 ∧ False)) ∧ (∀ b9 : Nat, o6 = some b9 → (∃ b12, qR h l0 7 = some b12 ∧ (vp_in l1 (qL h b12) ∧ ∃ b15, qR h b12 l1.toNatClampNeg = some b15 ∧ (∃ b17, qR h l0 10 = some b17 ∧ (wp_X1_copyFrom b15 b17 h (fun h19 => Q 1 h19)))))))))) ∧ (¬ (l1 < 6) → Q 0 h))))
set_option maxHeartbeats 4000000 in
set_option maxRecDepth 100000 in
theorem sn_X11_keep (G : GT) (d : Nat) (l0 : Nat) (l1 : Int32) (h : PH) (Q : Int32 → PH → Prop) (okl0 : qOK h 10 l0) (hwp : wp_X11_keep l0 l1 h Q) : Mt G (3 + d) 0 0 mX11_keep [.ref l0, .int l1] h (qqb Q) := by
  unfold wp_X11_keep at hwp
  refine Mt.of (by decide) rfl (Nat.le_of_ble_eq_true rfl) ?_
  have hex := qEx.rf h
  have hnn : qn h = qn h + 0 := rfl
  have hzz : qz h = qz h + 0 := rfl
  refine x_lvE (lv2 := [(0, .ref l0), (1, .int l1)]) rfl ?_
  refine x_iload_n (pc := 0) dX11_keep_0 rfl ?_
  refine x_if_lt (tgt := 10) (pc := 1) dX11_keep_1 (by decide) (fun c1 => ?_) (fun c1 => ?_)
  · have hwp := hwp.1 c1
    refine x_iconst (v := 0) (pc := 10) dX11_keep_10 (by decide) ?_
    exact x_zret (pc := 11) dX11_keep_11 rfl hex hnn hzz (by decide) ⟨_, rfl, by decide, hwp⟩
  · have hwp := hwp.2 c1
    refine x_iload_n (pc := 4) dX11_keep_4 rfl ?_
    refine x_bipush (v := 6) (pc := 5) dX11_keep_5 (by decide) ?_
    refine x_icmp_lt (tgt := 12) (pc := 7) dX11_keep_7 (by decide) (fun c2 => ?_) (fun c2 => ?_)
    · have hwp := hwp.1 c2
      refine x_aload_n (pc := 12) dX11_keep_12 rfl ?_
      obtain ⟨b3, e4, hwp⟩ := hwp
      refine x_getR (pc := 13) dX11_keep_13 qRX11_56 okl0 e4 (fun okb3 => ?_)
      refine x_iload_n (pc := 16) dX11_keep_16 rfl ?_
      obtain ⟨i5, hwp⟩ := hwp
      refine x_aaloadq (t := 17) (pc := 17) dX11_keep_17 okb3 (Or.inl rfl) i5 (fun okqo6 => ?_)
      refine x_nmQ (fun o6 e7 => ?_)
      have hwp := hwp o6 e7
      rw [← e7] at okqo6
      refine x_ifnonnull (tgt := 34) (pc := 18) dX11_keep_18 (by decide) (fun b9 c8 => ?_) (fun c8 => ?_)
      · have hwp := hwp.2 b9 c8
        refine x_aload_n (pc := 34) dX11_keep_34 rfl ?_
        obtain ⟨b12, e13, hwp⟩ := hwp
        refine x_getR (pc := 35) dX11_keep_35 qRX11_56 okl0 e13 (fun okb12 => ?_)
        refine x_iload_n (pc := 38) dX11_keep_38 rfl ?_
        obtain ⟨i14, b15, e16, hwp⟩ := hwp
        refine x_aaload (t := 17) (pc := 39) dX11_keep_39 okb12 (by decide) i14 e16 (fun okb15 => ?_)
        refine x_aload_n (pc := 40) dX11_keep_40 rfl ?_
        obtain ⟨b17, e18, hwp⟩ := hwp
        refine x_getR (pc := 41) dX11_keep_41 qRX11_70 okl0 e18 (fun okb17 => ?_)
        refine x_invV (As := [.ref b17]) (st := []) (pc := 44) dX11_keep_44 lRX11_292 fX1_copyFrom vX1_copyFrom okb15 rfl (Nat.le_of_ble_eq_true rfl) (q_R (by omega) (by decide)) (q_C hnn hzz (by decide) (by decide)) (sn_X1_copyFrom G (d + 1) b15 b17 h _ okb15 okb17 hwp) (k_v (fun h19 hwp cxh19 => ?_))
        have hex := hex.tr cxh19.1
        have hnn : qn h19 = qn h + 0 := by have := cxh19.2.1; omega
        have hzz : qz h19 = qz h + 0 := by have := cxh19.2.2; omega
        have okl0 := okl0.ex cxh19.1
        have okb3 := okb3.ex cxh19.1
        have okb12 := okb12.ex cxh19.1
        have okb15 := okb15.ex cxh19.1
        have okb17 := okb17.ex cxh19.1
        refine x_iconst (v := 1) (pc := 47) dX11_keep_47 (by decide) ?_
        exact x_zret (pc := 48) dX11_keep_48 rfl hex hnn hzz (by decide) ⟨_, rfl, by decide, hwp⟩
      · have hwp := hwp.1 c8
        refine x_aload_n (pc := 21) dX11_keep_21 rfl ?_
        obtain ⟨b10, e11, hwp⟩ := hwp
        refine x_getR (pc := 22) dX11_keep_22 qRX11_56 okl0 e11 (fun okb10 => ?_)
        refine x_iload_n (pc := 25) dX11_keep_25 rfl ?_
        exact absurd hwp (fun w => w)
    · have hwp := hwp.2 c2
      refine x_iconst (v := 0) (pc := 10) dX11_keep_10 (by decide) ?_
      exact x_zret (pc := 11) dX11_keep_11 rfl hex hnn hzz (by decide) ⟨_, rfl, by decide, hwp⟩
def wp_X11_keepA (l0 : Nat) (l1 : Int32) (h : PH) (Q : Int32 → PH → Prop) : Prop := ((l1 < 0 → False) ∧ (¬ (l1 < 0) → ((l1 < 6 → (∃ b3, qR h l0 7 = some b3 ∧ (vp_in l1 (qL h b3) ∧ ∀ o6, o6 = qR h b3 l1.toNatClampNeg → ((o6 = none → (∃ b10, qR h l0 7 = some b10 ∧ (qn h + 1 ≤ 1000000 ∧ ∀ h12, h12 = qnew h 1 0 4 → (wp_X1_init (qn h) h12 (fun h14 => (vp_in l1 (qL h14 b10) ∧ ∀ h16, h16 = qsR h14 b10 l1.toNatClampNeg (some (qn h)) → (∃ b18, qR h16 l0 7 = some b18 ∧ (vp_in l1 (qL h16 b18) ∧ ∃ b21, qR h16 b18 l1.toNatClampNeg = some b21 ∧ (∃ b23, qR h16 l0 10 = some b23 ∧ (wp_X1_copyFrom b21 b23 h16 (fun h25 => Q 1 h25))))))))))) ∧ (∀ b9 : Nat, o6 = some b9 → (∃ b27, qR h l0 7 = some b27 ∧ (vp_in l1 (qL h b27) ∧ ∃ b30, qR h b27 l1.toNatClampNeg = some b30 ∧ (∃ b32, qR h l0 10 = some b32 ∧ (wp_X1_copyFrom b30 b32 h (fun h34 => False)))))))))) ∧ (¬ (l1 < 6) → False))))
set_option maxHeartbeats 4000000 in
set_option maxRecDepth 100000 in
theorem sn_X11_keepA (G : GT) (d : Nat) (l0 : Nat) (l1 : Int32) (h : PH) (Q : Int32 → PH → Prop) (okl0 : qOK h 10 l0) (hwp : wp_X11_keepA l0 l1 h Q) : Mt G (3 + d) 14 136 mX11_keep [.ref l0, .int l1] h (qqb Q) := by
  unfold wp_X11_keepA at hwp
  refine Mt.of (by decide) rfl (Nat.le_of_ble_eq_true rfl) ?_
  have hex := qEx.rf h
  have hnn : qn h = qn h + 0 := rfl
  have hzz : qz h = qz h + 0 := rfl
  refine x_lvE (lv2 := [(0, .ref l0), (1, .int l1)]) rfl ?_
  refine x_iload_n (pc := 0) dX11_keep_0 rfl ?_
  refine x_if_lt (tgt := 10) (pc := 1) dX11_keep_1 (by decide) (fun c1 => ?_) (fun c1 => ?_)
  · have hwp := hwp.1 c1
    refine x_iconst (v := 0) (pc := 10) dX11_keep_10 (by decide) ?_
    exact absurd hwp (fun w => w)
  · have hwp := hwp.2 c1
    refine x_iload_n (pc := 4) dX11_keep_4 rfl ?_
    refine x_bipush (v := 6) (pc := 5) dX11_keep_5 (by decide) ?_
    refine x_icmp_lt (tgt := 12) (pc := 7) dX11_keep_7 (by decide) (fun c2 => ?_) (fun c2 => ?_)
    · have hwp := hwp.1 c2
      refine x_aload_n (pc := 12) dX11_keep_12 rfl ?_
      obtain ⟨b3, e4, hwp⟩ := hwp
      refine x_getR (pc := 13) dX11_keep_13 qRX11_56 okl0 e4 (fun okb3 => ?_)
      refine x_iload_n (pc := 16) dX11_keep_16 rfl ?_
      obtain ⟨i5, hwp⟩ := hwp
      refine x_aaloadq (t := 17) (pc := 17) dX11_keep_17 okb3 (Or.inl rfl) i5 (fun okqo6 => ?_)
      refine x_nmQ (fun o6 e7 => ?_)
      have hwp := hwp o6 e7
      rw [← e7] at okqo6
      refine x_ifnonnull (tgt := 34) (pc := 18) dX11_keep_18 (by decide) (fun b9 c8 => ?_) (fun c8 => ?_)
      · have hwp := hwp.2 b9 c8
        refine x_aload_n (pc := 34) dX11_keep_34 rfl ?_
        obtain ⟨b27, e28, hwp⟩ := hwp
        refine x_getR (pc := 35) dX11_keep_35 qRX11_56 okl0 e28 (fun okb27 => ?_)
        refine x_iload_n (pc := 38) dX11_keep_38 rfl ?_
        obtain ⟨i29, b30, e31, hwp⟩ := hwp
        refine x_aaload (t := 17) (pc := 39) dX11_keep_39 okb27 (by decide) i29 e31 (fun okb30 => ?_)
        refine x_aload_n (pc := 40) dX11_keep_40 rfl ?_
        obtain ⟨b32, e33, hwp⟩ := hwp
        refine x_getR (pc := 41) dX11_keep_41 qRX11_70 okl0 e33 (fun okb32 => ?_)
        refine x_invV (As := [.ref b32]) (st := []) (pc := 44) dX11_keep_44 lRX11_292 fX1_copyFrom vX1_copyFrom okb30 rfl (Nat.le_of_ble_eq_true rfl) (q_R (by omega) (by decide)) (q_C hnn hzz (by decide) (by decide)) (sn_X1_copyFrom G (d + 1) b30 b32 h _ okb30 okb32 hwp) (k_v (fun h34 hwp cxh34 => ?_))
        have hex := hex.tr cxh34.1
        have hnn : qn h34 = qn h + 0 := by have := cxh34.2.1; omega
        have hzz : qz h34 = qz h + 0 := by have := cxh34.2.2; omega
        have okl0 := okl0.ex cxh34.1
        have okb3 := okb3.ex cxh34.1
        have okb27 := okb27.ex cxh34.1
        have okb30 := okb30.ex cxh34.1
        have okb32 := okb32.ex cxh34.1
        refine x_iconst (v := 1) (pc := 47) dX11_keep_47 (by decide) ?_
        exact absurd hwp (fun w => w)
      · have hwp := hwp.1 c8
        refine x_aload_n (pc := 21) dX11_keep_21 rfl ?_
        obtain ⟨b10, e11, hwp⟩ := hwp
        refine x_getR (pc := 22) dX11_keep_22 qRX11_56 okl0 e11 (fun okb10 => ?_)
        refine x_iload_n (pc := 25) dX11_keep_25 rfl ?_
        obtain ⟨m13, hwp⟩ := hwp
        refine y_new (ty := tyX1) (pc := 26) dX11_keep_26 qc_1 tyX1_ok (by decide +kernel) cRX11_54 wk_in_ForeverOffice_Drawing wk_it_ForeverOffice_Drawing (q_C hnn hzz (by decide) (by decide)) m13 (fun h12 eh12 nwh12 okbh12 => ?_)
        have hwp := hwp h12 eh12
        have hex := hex.tr nwh12.1
        have hnn : qn h12 = qn h + 1 := by have := nwh12.2.1; omega
        have hzz : qz h12 = qz h + 4 := by have := nwh12.2.2; omega
        have okl0 := okl0.ex nwh12.1
        have okb3 := okb3.ex nwh12.1
        have okb10 := okb10.ex nwh12.1
        refine x_dup (pc := 29) dX11_keep_29 rfl ?_
        refine x_invI (As := []) (st := [.ref (qn h), .int l1, .ref b10]) (pc := 30) dX11_keep_30 (Or.inl lRX11_69) fX1_init rfl rfl iX1_init rfl (Nat.le_of_ble_eq_true rfl) (q_R (by omega) (by decide)) (q_C hnn hzz (by decide) (by decide)) (sn_X1_init G (d + 0) (qn h) h12 _ okbh12 hwp) (k_v (fun h14 hwp cxh14 => ?_))
        have hex := hex.tr cxh14.1
        have hnn : qn h14 = qn h + 14 := by have := cxh14.2.1; omega
        have hzz : qz h14 = qz h + 136 := by have := cxh14.2.2; omega
        have okl0 := okl0.ex cxh14.1
        have okb3 := okb3.ex cxh14.1
        have okb10 := okb10.ex cxh14.1
        have okbh12 := okbh12.ex cxh14.1
        obtain ⟨i17, hwp⟩ := hwp
        refine y_aastore (t := 17) (pc := 33) dX11_keep_33 okb10 (by decide) okbh12 i17 (fun h16 eh16 nxh16 => ?_)
        have hwp := hwp h16 eh16
        have hex := hex.tr nxh16.1
        have hnn := nxh16.2.1.trans hnn
        have hzz := nxh16.2.2.trans hzz
        have okl0 := okl0.ex nxh16.1
        have okb3 := okb3.ex nxh16.1
        have okb10 := okb10.ex nxh16.1
        have okbh12 := okbh12.ex nxh16.1
        refine x_aload_n (pc := 34) dX11_keep_34 rfl ?_
        obtain ⟨b18, e19, hwp⟩ := hwp
        refine x_getR (pc := 35) dX11_keep_35 qRX11_56 okl0 e19 (fun okb18 => ?_)
        refine x_iload_n (pc := 38) dX11_keep_38 rfl ?_
        obtain ⟨i20, b21, e22, hwp⟩ := hwp
        refine x_aaload (t := 17) (pc := 39) dX11_keep_39 okb18 (by decide) i20 e22 (fun okb21 => ?_)
        refine x_aload_n (pc := 40) dX11_keep_40 rfl ?_
        obtain ⟨b23, e24, hwp⟩ := hwp
        refine x_getR (pc := 41) dX11_keep_41 qRX11_70 okl0 e24 (fun okb23 => ?_)
        refine x_invV (As := [.ref b23]) (st := []) (pc := 44) dX11_keep_44 lRX11_292 fX1_copyFrom vX1_copyFrom okb21 rfl (Nat.le_of_ble_eq_true rfl) (q_R (by omega) (by decide)) (q_C hnn hzz (by decide) (by decide)) (sn_X1_copyFrom G (d + 1) b21 b23 h16 _ okb21 okb23 hwp) (k_v (fun h25 hwp cxh25 => ?_))
        have hex := hex.tr cxh25.1
        have hnn : qn h25 = qn h + 14 := by have := cxh25.2.1; omega
        have hzz : qz h25 = qz h + 136 := by have := cxh25.2.2; omega
        have okl0 := okl0.ex cxh25.1
        have okb3 := okb3.ex cxh25.1
        have okb10 := okb10.ex cxh25.1
        have okbh12 := okbh12.ex cxh25.1
        have okb18 := okb18.ex cxh25.1
        have okb21 := okb21.ex cxh25.1
        have okb23 := okb23.ex cxh25.1
        refine x_iconst (v := 1) (pc := 47) dX11_keep_47 (by decide) ?_
        exact x_zret (pc := 48) dX11_keep_48 rfl hex hnn hzz (by decide) ⟨_, rfl, by decide, hwp⟩
    · have hwp := hwp.2 c2
      refine x_iconst (v := 0) (pc := 10) dX11_keep_10 (by decide) ?_
      exact absurd hwp (fun w => w)

theorem dX11_same_0 : decode cX11_same 0 = .ok (.iload_n 1, 1) := by decide +kernel
theorem dX11_same_1 : decode cX11_same 1 = .ok (.ifCond .lt 18, 3) := by decide +kernel
theorem dX11_same_4 : decode cX11_same 4 = .ok (.iload_n 1, 1) := by decide +kernel
theorem dX11_same_5 : decode cX11_same 5 = .ok (.bipush 6, 2) := by decide +kernel
theorem dX11_same_7 : decode cX11_same 7 = .ok (.if_icmp .ge 12, 3) := by decide +kernel
theorem dX11_same_10 : decode cX11_same 10 = .ok (.aload_n 0, 1) := by decide +kernel
theorem dX11_same_11 : decode cX11_same 11 = .ok (.getfield 56, 3) := by decide +kernel
theorem dX11_same_14 : decode cX11_same 14 = .ok (.iload_n 1, 1) := by decide +kernel
theorem dX11_same_15 : decode cX11_same 15 = .ok (.aaload, 1) := by decide +kernel
theorem dX11_same_16 : decode cX11_same 16 = .ok (.ifnonnull 6, 3) := by decide +kernel
theorem dX11_same_19 : decode cX11_same 19 = .ok (.bipush (-2), 2) := by decide +kernel
theorem dX11_same_21 : decode cX11_same 21 = .ok (.ireturn, 1) := by decide +kernel
theorem dX11_same_22 : decode cX11_same 22 = .ok (.aload_n 0, 1) := by decide +kernel
theorem dX11_same_23 : decode cX11_same 23 = .ok (.getfield 70, 3) := by decide +kernel
theorem dX11_same_26 : decode cX11_same 26 = .ok (.aload_n 0, 1) := by decide +kernel
theorem dX11_same_27 : decode cX11_same 27 = .ok (.getfield 56, 3) := by decide +kernel
theorem dX11_same_30 : decode cX11_same 30 = .ok (.iload_n 1, 1) := by decide +kernel
theorem dX11_same_31 : decode cX11_same 31 = .ok (.aaload, 1) := by decide +kernel
theorem dX11_same_32 : decode cX11_same 32 = .ok (.invokevirtual 295, 3) := by decide +kernel
theorem dX11_same_35 : decode cX11_same 35 = .ok (.ireturn, 1) := by decide +kernel
def wp_X11_same (l0 : Nat) (l1 : Int32) (h : PH) (Q : Int32 → PH → Prop) : Prop := ((l1 < 0 → Q (-2) h) ∧ (¬ (l1 < 0) → ((6 ≤ l1 → Q (-2) h) ∧ (¬ (6 ≤ l1) → (∃ b3, qR h l0 7 = some b3 ∧ (vp_in l1 (qL h b3) ∧ ∀ o6, o6 = qR h b3 l1.toNatClampNeg → ((o6 = none → Q (-2) h) ∧ (∀ b9 : Nat, o6 = some b9 → (∃ b10, qR h l0 10 = some b10 ∧ (∃ b12, qR h l0 7 = some b12 ∧ (vp_in l1 (qL h b12) ∧ ∃ b15, qR h b12 l1.toNatClampNeg = some b15 ∧ (wp_X1_turnTo b10 b15 h (fun r18 h17 => Q r18 h17)))))))))))))
set_option maxHeartbeats 4000000 in
set_option maxRecDepth 100000 in
theorem sn_X11_same (G : GT) (d : Nat) (l0 : Nat) (l1 : Int32) (h : PH) (Q : Int32 → PH → Prop) (okl0 : qOK h 10 l0) (hwp : wp_X11_same l0 l1 h Q) : Mt G (5 + d) 0 0 mX11_same [.ref l0, .int l1] h (qqi Q) := by
  unfold wp_X11_same at hwp
  refine Mt.of (by decide) rfl (Nat.le_of_ble_eq_true rfl) ?_
  have hex := qEx.rf h
  have hnn : qn h = qn h + 0 := rfl
  have hzz : qz h = qz h + 0 := rfl
  refine x_lvE (lv2 := [(0, .ref l0), (1, .int l1)]) rfl ?_
  refine x_iload_n (pc := 0) dX11_same_0 rfl ?_
  refine x_if_lt (tgt := 19) (pc := 1) dX11_same_1 (by decide) (fun c1 => ?_) (fun c1 => ?_)
  · have hwp := hwp.1 c1
    refine x_bipush (v := (-2)) (pc := 19) dX11_same_19 (by decide) ?_
    exact x_iret (pc := 21) dX11_same_21 rfl hex hnn hzz ⟨_, rfl, hwp⟩
  · have hwp := hwp.2 c1
    refine x_iload_n (pc := 4) dX11_same_4 rfl ?_
    refine x_bipush (v := 6) (pc := 5) dX11_same_5 (by decide) ?_
    refine x_icmp_ge (tgt := 19) (pc := 7) dX11_same_7 (by decide) (fun c2 => ?_) (fun c2 => ?_)
    · have hwp := hwp.1 c2
      refine x_bipush (v := (-2)) (pc := 19) dX11_same_19 (by decide) ?_
      exact x_iret (pc := 21) dX11_same_21 rfl hex hnn hzz ⟨_, rfl, hwp⟩
    · have hwp := hwp.2 c2
      refine x_aload_n (pc := 10) dX11_same_10 rfl ?_
      obtain ⟨b3, e4, hwp⟩ := hwp
      refine x_getR (pc := 11) dX11_same_11 qRX11_56 okl0 e4 (fun okb3 => ?_)
      refine x_iload_n (pc := 14) dX11_same_14 rfl ?_
      obtain ⟨i5, hwp⟩ := hwp
      refine x_aaloadq (t := 17) (pc := 15) dX11_same_15 okb3 (Or.inl rfl) i5 (fun okqo6 => ?_)
      refine x_nmQ (fun o6 e7 => ?_)
      have hwp := hwp o6 e7
      rw [← e7] at okqo6
      refine x_ifnonnull (tgt := 22) (pc := 16) dX11_same_16 (by decide) (fun b9 c8 => ?_) (fun c8 => ?_)
      · have hwp := hwp.2 b9 c8
        refine x_aload_n (pc := 22) dX11_same_22 rfl ?_
        obtain ⟨b10, e11, hwp⟩ := hwp
        refine x_getR (pc := 23) dX11_same_23 qRX11_70 okl0 e11 (fun okb10 => ?_)
        refine x_aload_n (pc := 26) dX11_same_26 rfl ?_
        obtain ⟨b12, e13, hwp⟩ := hwp
        refine x_getR (pc := 27) dX11_same_27 qRX11_56 okl0 e13 (fun okb12 => ?_)
        refine x_iload_n (pc := 30) dX11_same_30 rfl ?_
        obtain ⟨i14, b15, e16, hwp⟩ := hwp
        refine x_aaload (t := 17) (pc := 31) dX11_same_31 okb12 (by decide) i14 e16 (fun okb15 => ?_)
        refine x_invV (As := [.ref b15]) (st := []) (pc := 32) dX11_same_32 lRX11_295 fX1_turnTo vX1_turnTo okb10 rfl (Nat.le_of_ble_eq_true rfl) (q_R (by omega) (by decide)) (q_C hnn hzz (by decide) (by decide)) (sn_X1_turnTo G (d + 0) b10 b15 h _ okb10 okb15 hwp) (k_i (fun r18 h17 hwp cxh17 => ?_))
        have hex := hex.tr cxh17.1
        have hnn : qn h17 = qn h + 0 := by have := cxh17.2.1; omega
        have hzz : qz h17 = qz h + 0 := by have := cxh17.2.2; omega
        have okl0 := okl0.ex cxh17.1
        have okb3 := okb3.ex cxh17.1
        have okb10 := okb10.ex cxh17.1
        have okb12 := okb12.ex cxh17.1
        have okb15 := okb15.ex cxh17.1
        exact x_iret (pc := 35) dX11_same_35 rfl hex hnn hzz ⟨_, rfl, hwp⟩
      · have hwp := hwp.1 c8
        refine x_bipush (v := (-2)) (pc := 19) dX11_same_19 (by decide) ?_
        exact x_iret (pc := 21) dX11_same_21 rfl hex hnn hzz ⟨_, rfl, hwp⟩

theorem dX11_feeding_0 : decode cX11_feeding 0 = .ok (.aload_n 0, 1) := by decide +kernel
theorem dX11_feeding_1 : decode cX11_feeding 1 = .ok (.iload_n 1, 1) := by decide +kernel
theorem dX11_feeding_2 : decode cX11_feeding 2 = .ok (.invokevirtual 134, 3) := by decide +kernel
theorem dX11_feeding_5 : decode cX11_feeding 5 = .ok (.ifCond .eq 31, 3) := by decide +kernel
theorem dX11_feeding_8 : decode cX11_feeding 8 = .ok (.aload_n 0, 1) := by decide +kernel
theorem dX11_feeding_9 : decode cX11_feeding 9 = .ok (.iload_n 2, 1) := by decide +kernel
theorem dX11_feeding_10 : decode cX11_feeding 10 = .ok (.invokevirtual 134, 3) := by decide +kernel
theorem dX11_feeding_13 : decode cX11_feeding 13 = .ok (.ifCond .eq 23, 3) := by decide +kernel
theorem dX11_feeding_16 : decode cX11_feeding 16 = .ok (.iload_n 3, 1) := by decide +kernel
theorem dX11_feeding_17 : decode cX11_feeding 17 = .ok (.invokestatic 180, 3) := by decide +kernel
theorem dX11_feeding_20 : decode cX11_feeding 20 = .ok (.ifCond .eq 16, 3) := by decide +kernel
theorem dX11_feeding_23 : decode cX11_feeding 23 = .ok (.iload 4, 2) := by decide +kernel
theorem dX11_feeding_25 : decode cX11_feeding 25 = .ok (.ifCond .lt 11, 3) := by decide +kernel
theorem dX11_feeding_28 : decode cX11_feeding 28 = .ok (.iload 4, 2) := by decide +kernel
theorem dX11_feeding_30 : decode cX11_feeding 30 = .ok (.sipush 9999, 3) := by decide +kernel
theorem dX11_feeding_33 : decode cX11_feeding 33 = .ok (.if_icmp .le 6, 3) := by decide +kernel
theorem dX11_feeding_36 : decode cX11_feeding 36 = .ok (.bipush (-2), 2) := by decide +kernel
theorem dX11_feeding_38 : decode cX11_feeding 38 = .ok (.ireturn, 1) := by decide +kernel
theorem dX11_feeding_39 : decode cX11_feeding 39 = .ok (.aload_n 0, 1) := by decide +kernel
theorem dX11_feeding_40 : decode cX11_feeding 40 = .ok (.getfield 33, 3) := by decide +kernel
theorem dX11_feeding_43 : decode cX11_feeding 43 = .ok (.aload_n 0, 1) := by decide +kernel
theorem dX11_feeding_44 : decode cX11_feeding 44 = .ok (.getfield 26, 3) := by decide +kernel
theorem dX11_feeding_47 : decode cX11_feeding 47 = .ok (.iconst 0, 1) := by decide +kernel
theorem dX11_feeding_48 : decode cX11_feeding 48 = .ok (.invokevirtual 183, 3) := by decide +kernel
theorem dX11_feeding_51 : decode cX11_feeding 51 = .ok (.aload_n 0, 1) := by decide +kernel
theorem dX11_feeding_52 : decode cX11_feeding 52 = .ok (.getfield 33, 3) := by decide +kernel
theorem dX11_feeding_55 : decode cX11_feeding 55 = .ok (.iload_n 1, 1) := by decide +kernel
theorem dX11_feeding_56 : decode cX11_feeding 56 = .ok (.iload_n 2, 1) := by decide +kernel
theorem dX11_feeding_57 : decode cX11_feeding 57 = .ok (.iload_n 3, 1) := by decide +kernel
theorem dX11_feeding_58 : decode cX11_feeding 58 = .ok (.iload 4, 2) := by decide +kernel
theorem dX11_feeding_60 : decode cX11_feeding 60 = .ok (.invokevirtual 299, 3) := by decide +kernel
theorem dX11_feeding_63 : decode cX11_feeding 63 = .ok (.istore 5, 2) := by decide +kernel
theorem dX11_feeding_65 : decode cX11_feeding 65 = .ok (.iload 5, 2) := by decide +kernel
theorem dX11_feeding_67 : decode cX11_feeding 67 = .ok (.sipush 999, 3) := by decide +kernel
theorem dX11_feeding_70 : decode cX11_feeding 70 = .ok (.if_icmp .le 7, 3) := by decide +kernel
theorem dX11_feeding_73 : decode cX11_feeding 73 = .ok (.iconst (-1), 1) := by decide +kernel
theorem dX11_feeding_74 : decode cX11_feeding 74 = .ok (.goto 5, 3) := by decide +kernel
theorem dX11_feeding_77 : decode cX11_feeding 77 = .ok (.iload 5, 2) := by decide +kernel
theorem dX11_feeding_79 : decode cX11_feeding 79 = .ok (.ireturn, 1) := by decide +kernel
def wp_X11_feeding (l0 : Nat) (l1 : Int32) (l2 : Int32) (l3 : Int32) (l4 : Int32) (h : PH) (Q : Int32 → PH → Prop) : Prop := (wp_X11_isPlace l0 l1 h (fun r2 h1 => ((r2 = 0 → Q (-2) h1) ∧ (¬ (r2 = 0) → (wp_X11_isPlace l0 l2 h1 (fun r5 h4 => ((r5 = 0 → Q (-2) h4) ∧ (¬ (r5 = 0) → (wp_X11_isPush l3 h4 (fun r8 h7 => ((r8 = 0 → Q (-2) h7) ∧ (¬ (r8 = 0) → ((l4 < 0 → Q (-2) h7) ∧ (¬ (l4 < 0) → ((l4 ≤ 9999 → (∃ b12, qR h7 l0 3 = some b12 ∧ (∃ b14, qR h7 l0 2 = some b14 ∧ (wp_X10_prepare b12 b14 0 h7 (fun h16 => (∃ b18, qR h16 l0 3 = some b18 ∧ (wp_X10_leastFeeding b18 l1 l2 l3 l4 h16 (fun r21 h20 => ((r21 ≤ 999 → Q r21 h20) ∧ (¬ (r21 ≤ 999) → Q (-1) h20)))))))))) ∧ (¬ (l4 ≤ 9999) → Q (-2) h7))))))))))))))))
set_option maxHeartbeats 4000000 in
set_option maxRecDepth 100000 in
theorem sn_X11_feeding (G : GT) (d : Nat) (l0 : Nat) (l1 : Int32) (l2 : Int32) (l3 : Int32) (l4 : Int32) (h : PH) (Q : Int32 → PH → Prop) (okl0 : qOK h 10 l0) (hwp : wp_X11_feeding l0 l1 l2 l3 l4 h Q) : Mt G (3 + d) 0 0 mX11_feeding [.ref l0, .int l1, .int l2, .int l3, .int l4] h (qqi Q) := by
  unfold wp_X11_feeding at hwp
  refine Mt.of (by decide) rfl (Nat.le_of_ble_eq_true rfl) ?_
  have hex := qEx.rf h
  have hnn : qn h = qn h + 0 := rfl
  have hzz : qz h = qz h + 0 := rfl
  refine x_lvE (lv2 := [(0, .ref l0), (1, .int l1), (2, .int l2), (3, .int l3), (4, .int l4)]) rfl ?_
  refine x_aload_n (pc := 0) dX11_feeding_0 rfl ?_
  refine x_iload_n (pc := 1) dX11_feeding_1 rfl ?_
  refine x_invV (As := [.int l1]) (st := []) (pc := 2) dX11_feeding_2 lRX11_134 fX11_isPlace vX11_isPlace okl0 rfl (Nat.le_of_ble_eq_true rfl) (q_R (by omega) (by decide)) (q_C hnn hzz (by decide) (by decide)) (sn_X11_isPlace G (d + 2) l0 l1 h _ okl0 hwp) (k_b (fun r2 h1 hwp zbr2 cxh1 => ?_))
  have hex := hex.tr cxh1.1
  have hnn : qn h1 = qn h + 0 := by have := cxh1.2.1; omega
  have hzz : qz h1 = qz h + 0 := by have := cxh1.2.2; omega
  have okl0 := okl0.ex cxh1.1
  refine x_if_eq (tgt := 36) (pc := 5) dX11_feeding_5 (by decide) (fun c3 => ?_) (fun c3 => ?_)
  · have hwp := hwp.1 c3
    refine x_bipush (v := (-2)) (pc := 36) dX11_feeding_36 (by decide) ?_
    exact x_iret (pc := 38) dX11_feeding_38 rfl hex hnn hzz ⟨_, rfl, hwp⟩
  · have hwp := hwp.2 c3
    refine x_aload_n (pc := 8) dX11_feeding_8 rfl ?_
    refine x_iload_n (pc := 9) dX11_feeding_9 rfl ?_
    refine x_invV (As := [.int l2]) (st := []) (pc := 10) dX11_feeding_10 lRX11_134 fX11_isPlace vX11_isPlace okl0 rfl (Nat.le_of_ble_eq_true rfl) (q_R (by omega) (by decide)) (q_C hnn hzz (by decide) (by decide)) (sn_X11_isPlace G (d + 2) l0 l2 h1 _ okl0 hwp) (k_b (fun r5 h4 hwp zbr5 cxh4 => ?_))
    have hex := hex.tr cxh4.1
    have hnn : qn h4 = qn h + 0 := by have := cxh4.2.1; omega
    have hzz : qz h4 = qz h + 0 := by have := cxh4.2.2; omega
    have okl0 := okl0.ex cxh4.1
    refine x_if_eq (tgt := 36) (pc := 13) dX11_feeding_13 (by decide) (fun c6 => ?_) (fun c6 => ?_)
    · have hwp := hwp.1 c6
      refine x_bipush (v := (-2)) (pc := 36) dX11_feeding_36 (by decide) ?_
      exact x_iret (pc := 38) dX11_feeding_38 rfl hex hnn hzz ⟨_, rfl, hwp⟩
    · have hwp := hwp.2 c6
      refine x_iload_n (pc := 16) dX11_feeding_16 rfl ?_
      refine x_invS (As := [.int l3]) (st := []) (pc := 17) dX11_feeding_17 lRX11_180 fX11_isPush sX11_isPush rfl (Nat.le_of_ble_eq_true rfl) (q_R (by omega) (by decide)) (q_C hnn hzz (by decide) (by decide)) (sn_X11_isPush G (d + 2) l3 h4 _  hwp) (k_b (fun r8 h7 hwp zbr8 cxh7 => ?_))
      have hex := hex.tr cxh7.1
      have hnn : qn h7 = qn h + 0 := by have := cxh7.2.1; omega
      have hzz : qz h7 = qz h + 0 := by have := cxh7.2.2; omega
      have okl0 := okl0.ex cxh7.1
      refine x_if_eq (tgt := 36) (pc := 20) dX11_feeding_20 (by decide) (fun c9 => ?_) (fun c9 => ?_)
      · have hwp := hwp.1 c9
        refine x_bipush (v := (-2)) (pc := 36) dX11_feeding_36 (by decide) ?_
        exact x_iret (pc := 38) dX11_feeding_38 rfl hex hnn hzz ⟨_, rfl, hwp⟩
      · have hwp := hwp.2 c9
        refine x_iload (pc := 23) dX11_feeding_23 rfl ?_
        refine x_if_lt (tgt := 36) (pc := 25) dX11_feeding_25 (by decide) (fun c10 => ?_) (fun c10 => ?_)
        · have hwp := hwp.1 c10
          refine x_bipush (v := (-2)) (pc := 36) dX11_feeding_36 (by decide) ?_
          exact x_iret (pc := 38) dX11_feeding_38 rfl hex hnn hzz ⟨_, rfl, hwp⟩
        · have hwp := hwp.2 c10
          refine x_iload (pc := 28) dX11_feeding_28 rfl ?_
          refine x_sipush (v := 9999) (pc := 30) dX11_feeding_30 (by decide) ?_
          refine x_icmp_le (tgt := 39) (pc := 33) dX11_feeding_33 (by decide) (fun c11 => ?_) (fun c11 => ?_)
          · have hwp := hwp.1 c11
            refine x_aload_n (pc := 39) dX11_feeding_39 rfl ?_
            obtain ⟨b12, e13, hwp⟩ := hwp
            refine x_getR (pc := 40) dX11_feeding_40 qRX11_33 okl0 e13 (fun okb12 => ?_)
            refine x_aload_n (pc := 43) dX11_feeding_43 rfl ?_
            obtain ⟨b14, e15, hwp⟩ := hwp
            refine x_getR (pc := 44) dX11_feeding_44 qRX11_26 okl0 e15 (fun okb14 => ?_)
            refine x_iconst (v := 0) (pc := 47) dX11_feeding_47 (by decide) ?_
            refine x_invV (As := [.ref b14, .int 0]) (st := []) (pc := 48) dX11_feeding_48 lRX11_183 fX10_prepare vX10_prepare okb12 rfl (Nat.le_of_ble_eq_true rfl) (q_R (by omega) (by decide)) (q_C hnn hzz (by decide) (by decide)) (sn_X10_prepare G (d + 1) b12 b14 0 h7 _ okb12 okb14 hwp) (k_v (fun h16 hwp cxh16 => ?_))
            have hex := hex.tr cxh16.1
            have hnn : qn h16 = qn h + 0 := by have := cxh16.2.1; omega
            have hzz : qz h16 = qz h + 0 := by have := cxh16.2.2; omega
            have okl0 := okl0.ex cxh16.1
            have okb12 := okb12.ex cxh16.1
            have okb14 := okb14.ex cxh16.1
            refine x_aload_n (pc := 51) dX11_feeding_51 rfl ?_
            obtain ⟨b18, e19, hwp⟩ := hwp
            refine x_getR (pc := 52) dX11_feeding_52 qRX11_33 okl0 e19 (fun okb18 => ?_)
            refine x_iload_n (pc := 55) dX11_feeding_55 rfl ?_
            refine x_iload_n (pc := 56) dX11_feeding_56 rfl ?_
            refine x_iload_n (pc := 57) dX11_feeding_57 rfl ?_
            refine x_iload (pc := 58) dX11_feeding_58 rfl ?_
            refine x_invV (As := [.int l1, .int l2, .int l3, .int l4]) (st := []) (pc := 60) dX11_feeding_60 lRX11_299 fX10_leastFeeding vX10_leastFeeding okb18 rfl (Nat.le_of_ble_eq_true rfl) (q_R (by omega) (by decide)) (q_C hnn hzz (by decide) (by decide)) (sn_X10_leastFeeding G (d + 0) b18 l1 l2 l3 l4 h16 _ okb18 hwp) (k_i (fun r21 h20 hwp cxh20 => ?_))
            have hex := hex.tr cxh20.1
            have hnn : qn h20 = qn h + 0 := by have := cxh20.2.1; omega
            have hzz : qz h20 = qz h + 0 := by have := cxh20.2.2; omega
            have okl0 := okl0.ex cxh20.1
            have okb12 := okb12.ex cxh20.1
            have okb14 := okb14.ex cxh20.1
            have okb18 := okb18.ex cxh20.1
            refine x_istore (lv2 := [(5, .int r21), (0, .ref l0), (1, .int l1), (2, .int l2), (3, .int l3), (4, .int l4)]) (pc := 63) dX11_feeding_63 (by decide) rfl ?_
            refine x_iload (pc := 65) dX11_feeding_65 rfl ?_
            refine x_sipush (v := 999) (pc := 67) dX11_feeding_67 (by decide) ?_
            refine x_icmp_le (tgt := 77) (pc := 70) dX11_feeding_70 (by decide) (fun c22 => ?_) (fun c22 => ?_)
            · have hwp := hwp.1 c22
              refine x_iload (pc := 77) dX11_feeding_77 rfl ?_
              exact x_iret (pc := 79) dX11_feeding_79 rfl hex hnn hzz ⟨_, rfl, hwp⟩
            · have hwp := hwp.2 c22
              refine x_iconst (v := (-1)) (pc := 73) dX11_feeding_73 (by decide) ?_
              refine x_goto (tgt := 79) (pc := 74) dX11_feeding_74 (by decide) ?_
              exact x_iret (pc := 79) dX11_feeding_79 rfl hex hnn hzz ⟨_, rfl, hwp⟩
          · have hwp := hwp.2 c11
            refine x_bipush (v := (-2)) (pc := 36) dX11_feeding_36 (by decide) ?_
            exact x_iret (pc := 38) dX11_feeding_38 rfl hex hnn hzz ⟨_, rfl, hwp⟩

theorem dX11_inventor_0 : decode cX11_inventor 0 = .ok (.aload_n 0, 1) := by decide +kernel
theorem dX11_inventor_1 : decode cX11_inventor 1 = .ok (.sipush 600, 3) := by decide +kernel
theorem dX11_inventor_4 : decode cX11_inventor 4 = .ok (.invokevirtual 109, 3) := by decide +kernel
theorem dX11_inventor_7 : decode cX11_inventor 7 = .ok (.aload_n 0, 1) := by decide +kernel
theorem dX11_inventor_8 : decode cX11_inventor 8 = .ok (.getfield 92, 3) := by decide +kernel
theorem dX11_inventor_11 : decode cX11_inventor 11 = .ok (.aload_n 0, 1) := by decide +kernel
theorem dX11_inventor_12 : decode cX11_inventor 12 = .ok (.getfield 19, 3) := by decide +kernel
theorem dX11_inventor_15 : decode cX11_inventor 15 = .ok (.invokevirtual 303, 3) := by decide +kernel
theorem dX11_inventor_18 : decode cX11_inventor 18 = .ok (.ifCond .ne 11, 3) := by decide +kernel
theorem dX11_inventor_21 : decode cX11_inventor 21 = .ok (.aload_n 0, 1) := by decide +kernel
theorem dX11_inventor_22 : decode cX11_inventor 22 = .ok (.getfield 19, 3) := by decide +kernel
theorem dX11_inventor_25 : decode cX11_inventor 25 = .ok (.invokevirtual 116, 3) := by decide +kernel
theorem dX11_inventor_28 : decode cX11_inventor 28 = .ok (.ireturn, 1) := by decide +kernel
theorem dX11_inventor_29 : decode cX11_inventor 29 = .ok (.aload_n 0, 1) := by decide +kernel
theorem dX11_inventor_30 : decode cX11_inventor 30 = .ok (.getfield 92, 3) := by decide +kernel
theorem dX11_inventor_33 : decode cX11_inventor 33 = .ok (.astore_n 1, 1) := by decide +kernel
theorem dX11_inventor_34 : decode cX11_inventor 34 = .ok (.aload_n 0, 1) := by decide +kernel
theorem dX11_inventor_35 : decode cX11_inventor 35 = .ok (.aload_n 0, 1) := by decide +kernel
theorem dX11_inventor_36 : decode cX11_inventor 36 = .ok (.getfield 88, 3) := by decide +kernel
theorem dX11_inventor_39 : decode cX11_inventor 39 = .ok (.putfield 92, 3) := by decide +kernel
theorem dX11_inventor_42 : decode cX11_inventor 42 = .ok (.aload_n 0, 1) := by decide +kernel
theorem dX11_inventor_43 : decode cX11_inventor 43 = .ok (.aload_n 1, 1) := by decide +kernel
theorem dX11_inventor_44 : decode cX11_inventor 44 = .ok (.putfield 88, 3) := by decide +kernel
theorem dX11_inventor_47 : decode cX11_inventor 47 = .ok (.aload_n 0, 1) := by decide +kernel
theorem dX11_inventor_48 : decode cX11_inventor 48 = .ok (.getfield 88, 3) := by decide +kernel
theorem dX11_inventor_51 : decode cX11_inventor 51 = .ok (.getfield 304, 3) := by decide +kernel
theorem dX11_inventor_54 : decode cX11_inventor 54 = .ok (.ireturn, 1) := by decide +kernel
def wp_X11_inventor (l0 : Nat) (h : PH) (Q : Int32 → PH → Prop) : Prop := (wp_X11_cutTape l0 600 h (fun h1 => (∃ b3, qR h1 l0 15 = some b3 ∧ (∃ b5, qR h1 l0 1 = some b5 ∧ (wp_X3_readFrom b3 b5 h1 (fun r8 h7 => ((¬ r8 = 0 → (∃ b10, qR h7 l0 15 = some b10 ∧ (∃ b12, qR h7 l0 14 = some b12 ∧ (∀ h14, h14 = qsR h7 l0 15 (some b12) → (∀ h15, h15 = qsR h14 l0 14 (some b10) → (∃ b16, qR h15 l0 14 = some b16 ∧ Q (qI h15 b16 2) h15)))))) ∧ (r8 = 0 → (∃ b18, qR h7 l0 1 = some b18 ∧ (wp_X7_faultAnswer b18 h7 (fun r21 h20 => Q r21 h20)))))))))))
set_option maxHeartbeats 4000000 in
set_option maxRecDepth 100000 in
theorem sn_X11_inventor (G : GT) (d : Nat) (l0 : Nat) (h : PH) (Q : Int32 → PH → Prop) (okl0 : qOK h 10 l0) (hwp : wp_X11_inventor l0 h Q) : Mt G (4 + d) 0 0 mX11_inventor [.ref l0] h (qqi Q) := by
  unfold wp_X11_inventor at hwp
  refine Mt.of (by decide) rfl (Nat.le_of_ble_eq_true rfl) ?_
  have hex := qEx.rf h
  have hnn : qn h = qn h + 0 := rfl
  have hzz : qz h = qz h + 0 := rfl
  refine x_lvE (lv2 := [(0, .ref l0)]) rfl ?_
  refine x_aload_n (pc := 0) dX11_inventor_0 rfl ?_
  refine x_sipush (v := 600) (pc := 1) dX11_inventor_1 (by decide) ?_
  refine x_invV (As := [.int 600]) (st := []) (pc := 4) dX11_inventor_4 lRX11_109 fX11_cutTape vX11_cutTape okl0 rfl (Nat.le_of_ble_eq_true rfl) (q_R (by omega) (by decide)) (q_C hnn hzz (by decide) (by decide)) (sn_X11_cutTape G (d + 0) l0 600 h _ okl0 hwp) (k_v (fun h1 hwp cxh1 => ?_))
  have hex := hex.tr cxh1.1
  have hnn : qn h1 = qn h + 0 := by have := cxh1.2.1; omega
  have hzz : qz h1 = qz h + 0 := by have := cxh1.2.2; omega
  have okl0 := okl0.ex cxh1.1
  refine x_aload_n (pc := 7) dX11_inventor_7 rfl ?_
  obtain ⟨b3, e4, hwp⟩ := hwp
  refine x_getR (pc := 8) dX11_inventor_8 qRX11_92 okl0 e4 (fun okb3 => ?_)
  refine x_aload_n (pc := 11) dX11_inventor_11 rfl ?_
  obtain ⟨b5, e6, hwp⟩ := hwp
  refine x_getR (pc := 12) dX11_inventor_12 qRX11_19 okl0 e6 (fun okb5 => ?_)
  refine x_invV (As := [.ref b5]) (st := []) (pc := 15) dX11_inventor_15 lRX11_303 fX3_readFrom vX3_readFrom okb3 rfl (Nat.le_of_ble_eq_true rfl) (q_R (by omega) (by decide)) (q_C hnn hzz (by decide) (by decide)) (sn_X3_readFrom G (d + 0) b3 b5 h1 _ okb3 okb5 hwp) (k_b (fun r8 h7 hwp zbr8 cxh7 => ?_))
  have hex := hex.tr cxh7.1
  have hnn : qn h7 = qn h + 0 := by have := cxh7.2.1; omega
  have hzz : qz h7 = qz h + 0 := by have := cxh7.2.2; omega
  have okl0 := okl0.ex cxh7.1
  have okb3 := okb3.ex cxh7.1
  have okb5 := okb5.ex cxh7.1
  refine x_if_ne (tgt := 29) (pc := 18) dX11_inventor_18 (by decide) (fun c9 => ?_) (fun c9 => ?_)
  · have hwp := hwp.1 c9
    refine x_aload_n (pc := 29) dX11_inventor_29 rfl ?_
    obtain ⟨b10, e11, hwp⟩ := hwp
    refine x_getR (pc := 30) dX11_inventor_30 qRX11_92 okl0 e11 (fun okb10 => ?_)
    refine x_astore_n (lv2 := [(1, .ref b10), (0, .ref l0)]) (pc := 33) dX11_inventor_33 (by decide) rfl ?_
    refine x_aload_n (pc := 34) dX11_inventor_34 rfl ?_
    refine x_aload_n (pc := 35) dX11_inventor_35 rfl ?_
    obtain ⟨b12, e13, hwp⟩ := hwp
    refine x_getR (pc := 36) dX11_inventor_36 qRX11_88 okl0 e13 (fun okb12 => ?_)
    refine y_putR (pc := 39) dX11_inventor_39 qRX11_92 okl0 okb12 (fun h14 eh14 nxh14 => ?_)
    have hwp := hwp h14 eh14
    have hex := hex.tr nxh14.1
    have hnn := nxh14.2.1.trans hnn
    have hzz := nxh14.2.2.trans hzz
    have okl0 := okl0.ex nxh14.1
    have okb3 := okb3.ex nxh14.1
    have okb5 := okb5.ex nxh14.1
    have okb10 := okb10.ex nxh14.1
    have okb12 := okb12.ex nxh14.1
    refine x_aload_n (pc := 42) dX11_inventor_42 rfl ?_
    refine x_aload_n (pc := 43) dX11_inventor_43 rfl ?_
    refine y_putR (pc := 44) dX11_inventor_44 qRX11_88 okl0 okb10 (fun h15 eh15 nxh15 => ?_)
    have hwp := hwp h15 eh15
    have hex := hex.tr nxh15.1
    have hnn := nxh15.2.1.trans hnn
    have hzz := nxh15.2.2.trans hzz
    have okl0 := okl0.ex nxh15.1
    have okb3 := okb3.ex nxh15.1
    have okb5 := okb5.ex nxh15.1
    have okb10 := okb10.ex nxh15.1
    have okb12 := okb12.ex nxh15.1
    refine x_aload_n (pc := 47) dX11_inventor_47 rfl ?_
    obtain ⟨b16, e17, hwp⟩ := hwp
    refine x_getR (pc := 48) dX11_inventor_48 qRX11_88 okl0 e17 (fun okb16 => ?_)
    refine x_getI (pc := 51) dX11_inventor_51 qRX11_304 okb16 (by decide) ?_
    exact x_iret (pc := 54) dX11_inventor_54 rfl hex hnn hzz ⟨_, rfl, hwp⟩
  · have hwp := hwp.2 c9
    refine x_aload_n (pc := 21) dX11_inventor_21 rfl ?_
    obtain ⟨b18, e19, hwp⟩ := hwp
    refine x_getR (pc := 22) dX11_inventor_22 qRX11_19 okl0 e19 (fun okb18 => ?_)
    refine x_invV (As := []) (st := []) (pc := 25) dX11_inventor_25 lRX11_116 fX7_faultAnswer vX7_faultAnswer okb18 rfl (Nat.le_of_ble_eq_true rfl) (q_R (by omega) (by decide)) (q_C hnn hzz (by decide) (by decide)) (sn_X7_faultAnswer G (d + 3) b18 h7 _ okb18 hwp) (k_i (fun r21 h20 hwp cxh20 => ?_))
    have hex := hex.tr cxh20.1
    have hnn : qn h20 = qn h + 0 := by have := cxh20.2.1; omega
    have hzz : qz h20 = qz h + 0 := by have := cxh20.2.2; omega
    have okl0 := okl0.ex cxh20.1
    have okb3 := okb3.ex cxh20.1
    have okb5 := okb5.ex cxh20.1
    have okb18 := okb18.ex cxh20.1
    exact x_iret (pc := 28) dX11_inventor_28 rfl hex hnn hzz ⟨_, rfl, hwp⟩

theorem dX11_isLeftFullerSomewhere_0 : decode cX11_isLeftFullerSomewhere 0 = .ok (.iconst 0, 1) := by decide +kernel
theorem dX11_isLeftFullerSomewhere_1 : decode cX11_isLeftFullerSomewhere 1 = .ok (.istore_n 1, 1) := by decide +kernel
theorem dX11_isLeftFullerSomewhere_2 : decode cX11_isLeftFullerSomewhere 2 = .ok (.iload_n 1, 1) := by decide +kernel
theorem dX11_isLeftFullerSomewhere_3 : decode cX11_isLeftFullerSomewhere 3 = .ok (.aload_n 0, 1) := by decide +kernel
theorem dX11_isLeftFullerSomewhere_4 : decode cX11_isLeftFullerSomewhere 4 = .ok (.getfield 70, 3) := by decide +kernel
theorem dX11_isLeftFullerSomewhere_7 : decode cX11_isLeftFullerSomewhere 7 = .ok (.getfield 148, 3) := by decide +kernel
theorem dX11_isLeftFullerSomewhere_10 : decode cX11_isLeftFullerSomewhere 10 = .ok (.if_icmp .ge 32, 3) := by decide +kernel
theorem dX11_isLeftFullerSomewhere_13 : decode cX11_isLeftFullerSomewhere 13 = .ok (.aload_n 0, 1) := by decide +kernel
theorem dX11_isLeftFullerSomewhere_14 : decode cX11_isLeftFullerSomewhere 14 = .ok (.getfield 26, 3) := by decide +kernel
theorem dX11_isLeftFullerSomewhere_17 : decode cX11_isLeftFullerSomewhere 17 = .ok (.iconst 3, 1) := by decide +kernel
theorem dX11_isLeftFullerSomewhere_18 : decode cX11_isLeftFullerSomewhere 18 = .ok (.iload_n 1, 1) := by decide +kernel
theorem dX11_isLeftFullerSomewhere_19 : decode cX11_isLeftFullerSomewhere 19 = .ok (.invokevirtual 240, 3) := by decide +kernel
theorem dX11_isLeftFullerSomewhere_22 : decode cX11_isLeftFullerSomewhere 22 = .ok (.aload_n 0, 1) := by decide +kernel
theorem dX11_isLeftFullerSomewhere_23 : decode cX11_isLeftFullerSomewhere 23 = .ok (.getfield 26, 3) := by decide +kernel
theorem dX11_isLeftFullerSomewhere_26 : decode cX11_isLeftFullerSomewhere 26 = .ok (.iconst 2, 1) := by decide +kernel
theorem dX11_isLeftFullerSomewhere_27 : decode cX11_isLeftFullerSomewhere 27 = .ok (.iload_n 1, 1) := by decide +kernel
theorem dX11_isLeftFullerSomewhere_28 : decode cX11_isLeftFullerSomewhere 28 = .ok (.invokevirtual 240, 3) := by decide +kernel
theorem dX11_isLeftFullerSomewhere_31 : decode cX11_isLeftFullerSomewhere 31 = .ok (.if_icmp .le 5, 3) := by decide +kernel
theorem dX11_isLeftFullerSomewhere_34 : decode cX11_isLeftFullerSomewhere 34 = .ok (.iconst 1, 1) := by decide +kernel
theorem dX11_isLeftFullerSomewhere_35 : decode cX11_isLeftFullerSomewhere 35 = .ok (.ireturn, 1) := by decide +kernel
theorem dX11_isLeftFullerSomewhere_36 : decode cX11_isLeftFullerSomewhere 36 = .ok (.iinc 1 1, 3) := by decide +kernel
theorem dX11_isLeftFullerSomewhere_39 : decode cX11_isLeftFullerSomewhere 39 = .ok (.goto (-37), 3) := by decide +kernel
theorem dX11_isLeftFullerSomewhere_42 : decode cX11_isLeftFullerSomewhere 42 = .ok (.iconst 0, 1) := by decide +kernel
theorem dX11_isLeftFullerSomewhere_43 : decode cX11_isLeftFullerSomewhere 43 = .ok (.ireturn, 1) := by decide +kernel
def E_X11_isLeftFullerSomewhere_2 (G : GT) (d : Nat) (h0 hb : PH) (l0 : Nat) (Q : Int32 → PH → Prop) (s : Int32 × PH) : Prop := qEx hb s.2 ∧ qn s.2 = qn hb ∧ qz s.2 = qz hb → Ex G (qrm (1 + d) 0 0) mX11_isLeftFullerSomewhere (qn h0) (qz h0) (ZN G h0 0 0 (qqb Q)) 2 [(0, .ref l0), (1, .int s.1)] [] s.2
def wb_X11_isLeftFullerSomewhere_2 (l0 : Nat)  (Q : Int32 → PH → Prop) (bk2 : Int32 × PH → Prop) (l1 : Int32) (h : PH) : Prop := (∃ b1, qR h l0 10 = some b1 ∧ (((qI h b1 2) ≤ l1 → Q 0 h) ∧ (¬ ((qI h b1 2) ≤ l1) → (∃ b4, qR h l0 2 = some b4 ∧ (wp_X8_valueAt b4 3 l1 h (fun r7 h6 => (∃ b8, qR h6 l0 2 = some b8 ∧ (wp_X8_valueAt b8 2 l1 h6 (fun r11 h10 => ((r7 ≤ r11 → ∀ v13 : Int32, v13 = l1 + 1 → bk2 (v13, h10)) ∧ (¬ (r7 ≤ r11) → Q 1 h10)))))))))))
def wp_X11_isLeftFullerSomewhere_2 (l0 : Nat)  (Q : Int32 → PH → Prop) (bk2 : Int32 × PH → Prop) (s : Int32 × PH) : Prop := wb_X11_isLeftFullerSomewhere_2 l0 Q bk2 s.1 s.2
set_option maxHeartbeats 4000000 in
set_option maxRecDepth 100000 in
theorem bd_X11_isLeftFullerSomewhere_2 (G : GT) (d : Nat) (h0 hb : PH) (l0 : Nat) (Q : Int32 → PH → Prop)  (hex : qEx h0 hb) (hnn : qn hb = qn h0 + 0) (hzz : qz hb = qz h0 + 0) (okl0 : qOK hb 10 l0) (bk2 : Int32 × PH → Prop) (hbk2 : ∀ s2, bk2 s2 → E_X11_isLeftFullerSomewhere_2 G d h0 hb l0 Q s2) (l1 : Int32) (h : PH) (hwp : wb_X11_isLeftFullerSomewhere_2 l0 Q bk2 l1 h) (hx2 : qEx hb h) (hn2 : qn h = qn hb) (hz2 : qz h = qz hb) : Ex G (qrm (1 + d) 0 0) mX11_isLeftFullerSomewhere (qn h0) (qz h0) (ZN G h0 0 0 (qqb Q)) 2 [(0, .ref l0), (1, .int l1)] [] h := by
  unfold wb_X11_isLeftFullerSomewhere_2 at hwp
  have hex := hex.tr hx2
  have hnn := hn2.trans hnn
  have hzz := hz2.trans hzz
  have okl0 := okl0.ex hx2
  refine x_iload_n (pc := 2) dX11_isLeftFullerSomewhere_2 rfl ?_
  refine x_aload_n (pc := 3) dX11_isLeftFullerSomewhere_3 rfl ?_
  obtain ⟨b1, e2, hwp⟩ := hwp
  refine x_getR (pc := 4) dX11_isLeftFullerSomewhere_4 qRX11_70 okl0 e2 (fun okb1 => ?_)
  refine x_getI (pc := 7) dX11_isLeftFullerSomewhere_7 qRX11_148 okb1 (by decide) ?_
  refine x_icmp_ge (tgt := 42) (pc := 10) dX11_isLeftFullerSomewhere_10 (by decide) (fun c3 => ?_) (fun c3 => ?_)
  · have hwp := hwp.1 c3
    refine x_iconst (v := 0) (pc := 42) dX11_isLeftFullerSomewhere_42 (by decide) ?_
    exact x_zret (pc := 43) dX11_isLeftFullerSomewhere_43 rfl hex hnn hzz (by decide) ⟨_, rfl, by decide, hwp⟩
  · have hwp := hwp.2 c3
    refine x_aload_n (pc := 13) dX11_isLeftFullerSomewhere_13 rfl ?_
    obtain ⟨b4, e5, hwp⟩ := hwp
    refine x_getR (pc := 14) dX11_isLeftFullerSomewhere_14 qRX11_26 okl0 e5 (fun okb4 => ?_)
    refine x_iconst (v := 3) (pc := 17) dX11_isLeftFullerSomewhere_17 (by decide) ?_
    refine x_iload_n (pc := 18) dX11_isLeftFullerSomewhere_18 rfl ?_
    refine x_invV (As := [.int 3, .int l1]) (st := []) (pc := 19) dX11_isLeftFullerSomewhere_19 lRX11_240 fX8_valueAt vX8_valueAt okb4 rfl (Nat.le_of_ble_eq_true rfl) (q_R (by omega) (by decide)) (q_C hnn hzz (by decide) (by decide)) (sn_X8_valueAt G (d + 0) b4 3 l1 h _ okb4 hwp) (k_i (fun r7 h6 hwp cxh6 => ?_))
    have hex := hex.tr cxh6.1
    have hnn : qn h6 = qn h0 + 0 := by have := cxh6.2.1; omega
    have hzz : qz h6 = qz h0 + 0 := by have := cxh6.2.2; omega
    have hx2 := hx2.tr cxh6.1
    have hn2 : qn h6 = qn hb := by have := cxh6.2.1; omega
    have hz2 : qz h6 = qz hb := by have := cxh6.2.2; omega
    have okl0 := okl0.ex cxh6.1
    have okb1 := okb1.ex cxh6.1
    have okb4 := okb4.ex cxh6.1
    refine x_aload_n (pc := 22) dX11_isLeftFullerSomewhere_22 rfl ?_
    obtain ⟨b8, e9, hwp⟩ := hwp
    refine x_getR (pc := 23) dX11_isLeftFullerSomewhere_23 qRX11_26 okl0 e9 (fun okb8 => ?_)
    refine x_iconst (v := 2) (pc := 26) dX11_isLeftFullerSomewhere_26 (by decide) ?_
    refine x_iload_n (pc := 27) dX11_isLeftFullerSomewhere_27 rfl ?_
    refine x_invV (As := [.int 2, .int l1]) (st := [.int r7]) (pc := 28) dX11_isLeftFullerSomewhere_28 lRX11_240 fX8_valueAt vX8_valueAt okb8 rfl (Nat.le_of_ble_eq_true rfl) (q_R (by omega) (by decide)) (q_C hnn hzz (by decide) (by decide)) (sn_X8_valueAt G (d + 0) b8 2 l1 h6 _ okb8 hwp) (k_i (fun r11 h10 hwp cxh10 => ?_))
    have hex := hex.tr cxh10.1
    have hnn : qn h10 = qn h0 + 0 := by have := cxh10.2.1; omega
    have hzz : qz h10 = qz h0 + 0 := by have := cxh10.2.2; omega
    have hx2 := hx2.tr cxh10.1
    have hn2 : qn h10 = qn hb := by have := cxh10.2.1; omega
    have hz2 : qz h10 = qz hb := by have := cxh10.2.2; omega
    have okl0 := okl0.ex cxh10.1
    have okb1 := okb1.ex cxh10.1
    have okb4 := okb4.ex cxh10.1
    have okb8 := okb8.ex cxh10.1
    refine x_icmp_le (tgt := 36) (pc := 31) dX11_isLeftFullerSomewhere_31 (by decide) (fun c12 => ?_) (fun c12 => ?_)
    · have hwp := hwp.1 c12
      refine y_iinc (c := 1) (pc := 36) dX11_isLeftFullerSomewhere_36 rfl (by decide) (by decide) (fun v13 ev13 => ?_)
      have hwp := hwp v13 ev13
      refine x_lvE (lv2 := [(1, .int v13), (0, .ref l0)]) rfl ?_
      refine x_goto (tgt := 2) (pc := 39) dX11_isLeftFullerSomewhere_39 (by decide) ?_
      refine x_sub [1, 0] rfl ?_
      exact hbk2 _ hwp ⟨hx2, hn2, hz2⟩
    · have hwp := hwp.2 c12
      refine x_iconst (v := 1) (pc := 34) dX11_isLeftFullerSomewhere_34 (by decide) ?_
      exact x_zret (pc := 35) dX11_isLeftFullerSomewhere_35 rfl hex hnn hzz (by decide) ⟨_, rfl, by decide, hwp⟩
theorem lp_X11_isLeftFullerSomewhere_2 (G : GT) (d : Nat) (h0 hb : PH) (l0 : Nat) (Q : Int32 → PH → Prop)  (hex : qEx h0 hb) (hnn : qn hb = qn h0 + 0) (hzz : qz hb = qz h0 + 0) (okl0 : qOK hb 10 l0) {s : Int32 × PH} (hwp : qLoop (wp_X11_isLeftFullerSomewhere_2 l0 Q) s) : E_X11_isLeftFullerSomewhere_2 G d h0 hb l0 Q s :=
  qLoop.use (E := E_X11_isLeftFullerSomewhere_2 G d h0 hb l0 Q) (fun back s hbk hw hx => bd_X11_isLeftFullerSomewhere_2 G d h0 hb l0 Q hex hnn hzz okl0 back hbk s.1 s.2 hw hx.1 hx.2.1 hx.2.2) hwp
def wp_X11_isLeftFullerSomewhere (l0 : Nat) (h : PH) (Q : Int32 → PH → Prop) : Prop := (qLoop (wp_X11_isLeftFullerSomewhere_2 l0 Q) (0, h))
set_option maxHeartbeats 4000000 in
set_option maxRecDepth 100000 in
theorem sn_X11_isLeftFullerSomewhere (G : GT) (d : Nat) (l0 : Nat) (h : PH) (Q : Int32 → PH → Prop) (okl0 : qOK h 10 l0) (hwp : wp_X11_isLeftFullerSomewhere l0 h Q) : Mt G (1 + d) 0 0 mX11_isLeftFullerSomewhere [.ref l0] h (qqb Q) := by
  unfold wp_X11_isLeftFullerSomewhere at hwp
  refine Mt.of (by decide) rfl (Nat.le_of_ble_eq_true rfl) ?_
  have hex := qEx.rf h
  have hnn : qn h = qn h + 0 := rfl
  have hzz : qz h = qz h + 0 := rfl
  refine x_lvE (lv2 := [(0, .ref l0)]) rfl ?_
  refine x_iconst (v := 0) (pc := 0) dX11_isLeftFullerSomewhere_0 (by decide) ?_
  refine x_istore_n (lv2 := [(1, .int 0), (0, .ref l0)]) (pc := 1) dX11_isLeftFullerSomewhere_1 (by decide) rfl ?_
  refine x_sub [1, 0] rfl ?_
  exact lp_X11_isLeftFullerSomewhere_2 G d h h l0 Q hex hnn hzz okl0 hwp ⟨qEx.rf _, rfl, rfl⟩

theorem dX11_areUnfedSumsZero_0 : decode cX11_areUnfedSumsZero 0 = .ok (.iconst 0, 1) := by decide +kernel
theorem dX11_areUnfedSumsZero_1 : decode cX11_areUnfedSumsZero 1 = .ok (.istore_n 1, 1) := by decide +kernel
theorem dX11_areUnfedSumsZero_2 : decode cX11_areUnfedSumsZero 2 = .ok (.iload_n 1, 1) := by decide +kernel
theorem dX11_areUnfedSumsZero_3 : decode cX11_areUnfedSumsZero 3 = .ok (.aload_n 0, 1) := by decide +kernel
theorem dX11_areUnfedSumsZero_4 : decode cX11_areUnfedSumsZero 4 = .ok (.getfield 70, 3) := by decide +kernel
theorem dX11_areUnfedSumsZero_7 : decode cX11_areUnfedSumsZero 7 = .ok (.getfield 124, 3) := by decide +kernel
theorem dX11_areUnfedSumsZero_10 : decode cX11_areUnfedSumsZero 10 = .ok (.if_icmp .ge 44, 3) := by decide +kernel
theorem dX11_areUnfedSumsZero_13 : decode cX11_areUnfedSumsZero 13 = .ok (.aload_n 0, 1) := by decide +kernel
theorem dX11_areUnfedSumsZero_14 : decode cX11_areUnfedSumsZero 14 = .ok (.getfield 70, 3) := by decide +kernel
theorem dX11_areUnfedSumsZero_17 : decode cX11_areUnfedSumsZero 17 = .ok (.getfield 144, 3) := by decide +kernel
theorem dX11_areUnfedSumsZero_20 : decode cX11_areUnfedSumsZero 20 = .ok (.iload_n 1, 1) := by decide +kernel
theorem dX11_areUnfedSumsZero_21 : decode cX11_areUnfedSumsZero 21 = .ok (.aaload, 1) := by decide +kernel
theorem dX11_areUnfedSumsZero_22 : decode cX11_areUnfedSumsZero 22 = .ok (.astore_n 2, 1) := by decide +kernel
theorem dX11_areUnfedSumsZero_23 : decode cX11_areUnfedSumsZero 23 = .ok (.aload_n 2, 1) := by decide +kernel
theorem dX11_areUnfedSumsZero_24 : decode cX11_areUnfedSumsZero 24 = .ok (.getfield 346, 3) := by decide +kernel
theorem dX11_areUnfedSumsZero_27 : decode cX11_areUnfedSumsZero 27 = .ok (.iconst 4, 1) := by decide +kernel
theorem dX11_areUnfedSumsZero_28 : decode cX11_areUnfedSumsZero 28 = .ok (.if_icmp .eq 20, 3) := by decide +kernel
theorem dX11_areUnfedSumsZero_31 : decode cX11_areUnfedSumsZero 31 = .ok (.aload_n 2, 1) := by decide +kernel
theorem dX11_areUnfedSumsZero_32 : decode cX11_areUnfedSumsZero 32 = .ok (.iconst 0, 1) := by decide +kernel
theorem dX11_areUnfedSumsZero_33 : decode cX11_areUnfedSumsZero 33 = .ok (.aload_n 0, 1) := by decide +kernel
theorem dX11_areUnfedSumsZero_34 : decode cX11_areUnfedSumsZero 34 = .ok (.getfield 70, 3) := by decide +kernel
theorem dX11_areUnfedSumsZero_37 : decode cX11_areUnfedSumsZero 37 = .ok (.getfield 148, 3) := by decide +kernel
theorem dX11_areUnfedSumsZero_40 : decode cX11_areUnfedSumsZero 40 = .ok (.invokevirtual 177, 3) := by decide +kernel
theorem dX11_areUnfedSumsZero_43 : decode cX11_areUnfedSumsZero 43 = .ok (.ifCond .eq 5, 3) := by decide +kernel
theorem dX11_areUnfedSumsZero_46 : decode cX11_areUnfedSumsZero 46 = .ok (.iconst 0, 1) := by decide +kernel
theorem dX11_areUnfedSumsZero_47 : decode cX11_areUnfedSumsZero 47 = .ok (.ireturn, 1) := by decide +kernel
theorem dX11_areUnfedSumsZero_48 : decode cX11_areUnfedSumsZero 48 = .ok (.iinc 1 1, 3) := by decide +kernel
theorem dX11_areUnfedSumsZero_51 : decode cX11_areUnfedSumsZero 51 = .ok (.goto (-49), 3) := by decide +kernel
theorem dX11_areUnfedSumsZero_54 : decode cX11_areUnfedSumsZero 54 = .ok (.iconst 1, 1) := by decide +kernel
theorem dX11_areUnfedSumsZero_55 : decode cX11_areUnfedSumsZero 55 = .ok (.ireturn, 1) := by decide +kernel
def E_X11_areUnfedSumsZero_2 (G : GT) (d : Nat) (h0 hb : PH) (l0 : Nat) (Q : Int32 → PH → Prop) (s : Int32 × PH) : Prop := qEx hb s.2 ∧ qn s.2 = qn hb ∧ qz s.2 = qz hb → Ex G (qrm (5 + d) 0 0) mX11_areUnfedSumsZero (qn h0) (qz h0) (ZN G h0 0 0 (qqb Q)) 2 [(0, .ref l0), (1, .int s.1)] [] s.2
def wb_X11_areUnfedSumsZero_2 (l0 : Nat)  (Q : Int32 → PH → Prop) (bk2 : Int32 × PH → Prop) (l1 : Int32) (h : PH) : Prop := (∃ b1, qR h l0 10 = some b1 ∧ (((qI h b1 1) ≤ l1 → Q 1 h) ∧ (¬ ((qI h b1 1) ≤ l1) → (∃ b4, qR h l0 10 = some b4 ∧ (∃ b6, qR h b4 0 = some b6 ∧ (vp_in l1 (qL h b6) ∧ ∃ b9, qR h b6 l1.toNatClampNeg = some b9 ∧ (((qI h b9 0) = 4 → ∀ v12 : Int32, v12 = l1 + 1 → bk2 (v12, h)) ∧ (¬ ((qI h b9 0) = 4) → (∃ b13, qR h l0 10 = some b13 ∧ (wp_X4_sumWith b9 0 (qI h b13 2) h (fun r16 h15 => ((r16 = 0 → ∀ v18 : Int32, v18 = l1 + 1 → bk2 (v18, h15)) ∧ (¬ (r16 = 0) → Q 0 h15)))))))))))))
def wp_X11_areUnfedSumsZero_2 (l0 : Nat)  (Q : Int32 → PH → Prop) (bk2 : Int32 × PH → Prop) (s : Int32 × PH) : Prop := wb_X11_areUnfedSumsZero_2 l0 Q bk2 s.1 s.2
set_option maxHeartbeats 4000000 in
set_option maxRecDepth 100000 in
theorem bd_X11_areUnfedSumsZero_2 (G : GT) (d : Nat) (h0 hb : PH) (l0 : Nat) (Q : Int32 → PH → Prop)  (hex : qEx h0 hb) (hnn : qn hb = qn h0 + 0) (hzz : qz hb = qz h0 + 0) (okl0 : qOK hb 10 l0) (bk2 : Int32 × PH → Prop) (hbk2 : ∀ s2, bk2 s2 → E_X11_areUnfedSumsZero_2 G d h0 hb l0 Q s2) (l1 : Int32) (h : PH) (hwp : wb_X11_areUnfedSumsZero_2 l0 Q bk2 l1 h) (hx2 : qEx hb h) (hn2 : qn h = qn hb) (hz2 : qz h = qz hb) : Ex G (qrm (5 + d) 0 0) mX11_areUnfedSumsZero (qn h0) (qz h0) (ZN G h0 0 0 (qqb Q)) 2 [(0, .ref l0), (1, .int l1)] [] h := by
  unfold wb_X11_areUnfedSumsZero_2 at hwp
  have hex := hex.tr hx2
  have hnn := hn2.trans hnn
  have hzz := hz2.trans hzz
  have okl0 := okl0.ex hx2
  refine x_iload_n (pc := 2) dX11_areUnfedSumsZero_2 rfl ?_
  refine x_aload_n (pc := 3) dX11_areUnfedSumsZero_3 rfl ?_
  obtain ⟨b1, e2, hwp⟩ := hwp
  refine x_getR (pc := 4) dX11_areUnfedSumsZero_4 qRX11_70 okl0 e2 (fun okb1 => ?_)
  refine x_getI (pc := 7) dX11_areUnfedSumsZero_7 qRX11_124 okb1 (by decide) ?_
  refine x_icmp_ge (tgt := 54) (pc := 10) dX11_areUnfedSumsZero_10 (by decide) (fun c3 => ?_) (fun c3 => ?_)
  · have hwp := hwp.1 c3
    refine x_iconst (v := 1) (pc := 54) dX11_areUnfedSumsZero_54 (by decide) ?_
    exact x_zret (pc := 55) dX11_areUnfedSumsZero_55 rfl hex hnn hzz (by decide) ⟨_, rfl, by decide, hwp⟩
  · have hwp := hwp.2 c3
    refine x_aload_n (pc := 13) dX11_areUnfedSumsZero_13 rfl ?_
    obtain ⟨b4, e5, hwp⟩ := hwp
    refine x_getR (pc := 14) dX11_areUnfedSumsZero_14 qRX11_70 okl0 e5 (fun okb4 => ?_)
    obtain ⟨b6, e7, hwp⟩ := hwp
    refine x_getR (pc := 17) dX11_areUnfedSumsZero_17 qRX11_144 okb4 e7 (fun okb6 => ?_)
    refine x_iload_n (pc := 20) dX11_areUnfedSumsZero_20 rfl ?_
    obtain ⟨i8, b9, e10, hwp⟩ := hwp
    refine x_aaload (t := 18) (pc := 21) dX11_areUnfedSumsZero_21 okb6 (by decide) i8 e10 (fun okb9 => ?_)
    refine x_astore_n (lv2 := [(2, .ref b9), (0, .ref l0), (1, .int l1)]) (pc := 22) dX11_areUnfedSumsZero_22 (by decide) rfl ?_
    refine x_aload_n (pc := 23) dX11_areUnfedSumsZero_23 rfl ?_
    refine x_getI (pc := 24) dX11_areUnfedSumsZero_24 qRX11_346 okb9 (by decide) ?_
    refine x_iconst (v := 4) (pc := 27) dX11_areUnfedSumsZero_27 (by decide) ?_
    refine x_icmp_eq (tgt := 48) (pc := 28) dX11_areUnfedSumsZero_28 (by decide) (fun c11 => ?_) (fun c11 => ?_)
    · have hwp := hwp.1 c11
      refine y_iinc (c := 1) (pc := 48) dX11_areUnfedSumsZero_48 rfl (by decide) (by decide) (fun v12 ev12 => ?_)
      have hwp := hwp v12 ev12
      refine x_lvE (lv2 := [(1, .int v12), (2, .ref b9), (0, .ref l0)]) rfl ?_
      refine x_goto (tgt := 2) (pc := 51) dX11_areUnfedSumsZero_51 (by decide) ?_
      refine x_sub [2, 0] rfl ?_
      exact hbk2 _ hwp ⟨hx2, hn2, hz2⟩
    · have hwp := hwp.2 c11
      refine x_aload_n (pc := 31) dX11_areUnfedSumsZero_31 rfl ?_
      refine x_iconst (v := 0) (pc := 32) dX11_areUnfedSumsZero_32 (by decide) ?_
      refine x_aload_n (pc := 33) dX11_areUnfedSumsZero_33 rfl ?_
      obtain ⟨b13, e14, hwp⟩ := hwp
      refine x_getR (pc := 34) dX11_areUnfedSumsZero_34 qRX11_70 okl0 e14 (fun okb13 => ?_)
      refine x_getI (pc := 37) dX11_areUnfedSumsZero_37 qRX11_148 okb13 (by decide) ?_
      refine x_invV (As := [.int 0, .int (qI h b13 2)]) (st := []) (pc := 40) dX11_areUnfedSumsZero_40 lRX11_177 fX4_sumWith vX4_sumWith okb9 rfl (Nat.le_of_ble_eq_true rfl) (q_R (by omega) (by decide)) (q_C hnn hzz (by decide) (by decide)) (sn_X4_sumWith G (d + 0) b9 0 (qI h b13 2) h _ okb9 hwp) (k_i (fun r16 h15 hwp cxh15 => ?_))
      have hex := hex.tr cxh15.1
      have hnn : qn h15 = qn h0 + 0 := by have := cxh15.2.1; omega
      have hzz : qz h15 = qz h0 + 0 := by have := cxh15.2.2; omega
      have hx2 := hx2.tr cxh15.1
      have hn2 : qn h15 = qn hb := by have := cxh15.2.1; omega
      have hz2 : qz h15 = qz hb := by have := cxh15.2.2; omega
      have okl0 := okl0.ex cxh15.1
      have okb1 := okb1.ex cxh15.1
      have okb4 := okb4.ex cxh15.1
      have okb6 := okb6.ex cxh15.1
      have okb9 := okb9.ex cxh15.1
      have okb13 := okb13.ex cxh15.1
      refine x_if_eq (tgt := 48) (pc := 43) dX11_areUnfedSumsZero_43 (by decide) (fun c17 => ?_) (fun c17 => ?_)
      · have hwp := hwp.1 c17
        refine y_iinc (c := 1) (pc := 48) dX11_areUnfedSumsZero_48 rfl (by decide) (by decide) (fun v18 ev18 => ?_)
        have hwp := hwp v18 ev18
        refine x_lvE (lv2 := [(1, .int v18), (2, .ref b9), (0, .ref l0)]) rfl ?_
        refine x_goto (tgt := 2) (pc := 51) dX11_areUnfedSumsZero_51 (by decide) ?_
        refine x_sub [2, 0] rfl ?_
        exact hbk2 _ hwp ⟨hx2, hn2, hz2⟩
      · have hwp := hwp.2 c17
        refine x_iconst (v := 0) (pc := 46) dX11_areUnfedSumsZero_46 (by decide) ?_
        exact x_zret (pc := 47) dX11_areUnfedSumsZero_47 rfl hex hnn hzz (by decide) ⟨_, rfl, by decide, hwp⟩
theorem lp_X11_areUnfedSumsZero_2 (G : GT) (d : Nat) (h0 hb : PH) (l0 : Nat) (Q : Int32 → PH → Prop)  (hex : qEx h0 hb) (hnn : qn hb = qn h0 + 0) (hzz : qz hb = qz h0 + 0) (okl0 : qOK hb 10 l0) {s : Int32 × PH} (hwp : qLoop (wp_X11_areUnfedSumsZero_2 l0 Q) s) : E_X11_areUnfedSumsZero_2 G d h0 hb l0 Q s :=
  qLoop.use (E := E_X11_areUnfedSumsZero_2 G d h0 hb l0 Q) (fun back s hbk hw hx => bd_X11_areUnfedSumsZero_2 G d h0 hb l0 Q hex hnn hzz okl0 back hbk s.1 s.2 hw hx.1 hx.2.1 hx.2.2) hwp
def wp_X11_areUnfedSumsZero (l0 : Nat) (h : PH) (Q : Int32 → PH → Prop) : Prop := (qLoop (wp_X11_areUnfedSumsZero_2 l0 Q) (0, h))
set_option maxHeartbeats 4000000 in
set_option maxRecDepth 100000 in
theorem sn_X11_areUnfedSumsZero (G : GT) (d : Nat) (l0 : Nat) (h : PH) (Q : Int32 → PH → Prop) (okl0 : qOK h 10 l0) (hwp : wp_X11_areUnfedSumsZero l0 h Q) : Mt G (5 + d) 0 0 mX11_areUnfedSumsZero [.ref l0] h (qqb Q) := by
  unfold wp_X11_areUnfedSumsZero at hwp
  refine Mt.of (by decide) rfl (Nat.le_of_ble_eq_true rfl) ?_
  have hex := qEx.rf h
  have hnn : qn h = qn h + 0 := rfl
  have hzz : qz h = qz h + 0 := rfl
  refine x_lvE (lv2 := [(0, .ref l0)]) rfl ?_
  refine x_iconst (v := 0) (pc := 0) dX11_areUnfedSumsZero_0 (by decide) ?_
  refine x_istore_n (lv2 := [(1, .int 0), (0, .ref l0)]) (pc := 1) dX11_areUnfedSumsZero_1 (by decide) rfl ?_
  refine x_sub [1, 0] rfl ?_
  exact lp_X11_areUnfedSumsZero_2 G d h h l0 Q hex hnn hzz okl0 hwp ⟨qEx.rf _, rfl, rfl⟩

theorem dX11_takesAtSomeDoor_0 : decode cX11_takesAtSomeDoor 0 = .ok (.iconst 0, 1) := by decide +kernel
theorem dX11_takesAtSomeDoor_1 : decode cX11_takesAtSomeDoor 1 = .ok (.istore_n 1, 1) := by decide +kernel
theorem dX11_takesAtSomeDoor_2 : decode cX11_takesAtSomeDoor 2 = .ok (.iload_n 1, 1) := by decide +kernel
theorem dX11_takesAtSomeDoor_3 : decode cX11_takesAtSomeDoor 3 = .ok (.aload_n 0, 1) := by decide +kernel
theorem dX11_takesAtSomeDoor_4 : decode cX11_takesAtSomeDoor 4 = .ok (.getfield 70, 3) := by decide +kernel
theorem dX11_takesAtSomeDoor_7 : decode cX11_takesAtSomeDoor 7 = .ok (.getfield 124, 3) := by decide +kernel
theorem dX11_takesAtSomeDoor_10 : decode cX11_takesAtSomeDoor 10 = .ok (.if_icmp .ge 51, 3) := by decide +kernel
theorem dX11_takesAtSomeDoor_13 : decode cX11_takesAtSomeDoor 13 = .ok (.aload_n 0, 1) := by decide +kernel
theorem dX11_takesAtSomeDoor_14 : decode cX11_takesAtSomeDoor 14 = .ok (.getfield 70, 3) := by decide +kernel
theorem dX11_takesAtSomeDoor_17 : decode cX11_takesAtSomeDoor 17 = .ok (.getfield 144, 3) := by decide +kernel
theorem dX11_takesAtSomeDoor_20 : decode cX11_takesAtSomeDoor 20 = .ok (.iload_n 1, 1) := by decide +kernel
theorem dX11_takesAtSomeDoor_21 : decode cX11_takesAtSomeDoor 21 = .ok (.aaload, 1) := by decide +kernel
theorem dX11_takesAtSomeDoor_22 : decode cX11_takesAtSomeDoor 22 = .ok (.astore_n 2, 1) := by decide +kernel
theorem dX11_takesAtSomeDoor_23 : decode cX11_takesAtSomeDoor 23 = .ok (.aload_n 2, 1) := by decide +kernel
theorem dX11_takesAtSomeDoor_24 : decode cX11_takesAtSomeDoor 24 = .ok (.getfield 346, 3) := by decide +kernel
theorem dX11_takesAtSomeDoor_27 : decode cX11_takesAtSomeDoor 27 = .ok (.iconst 1, 1) := by decide +kernel
theorem dX11_takesAtSomeDoor_28 : decode cX11_takesAtSomeDoor 28 = .ok (.if_icmp .eq 11, 3) := by decide +kernel
theorem dX11_takesAtSomeDoor_31 : decode cX11_takesAtSomeDoor 31 = .ok (.aload_n 2, 1) := by decide +kernel
theorem dX11_takesAtSomeDoor_32 : decode cX11_takesAtSomeDoor 32 = .ok (.getfield 346, 3) := by decide +kernel
theorem dX11_takesAtSomeDoor_35 : decode cX11_takesAtSomeDoor 35 = .ok (.iconst 2, 1) := by decide +kernel
theorem dX11_takesAtSomeDoor_36 : decode cX11_takesAtSomeDoor 36 = .ok (.if_icmp .ne 19, 3) := by decide +kernel
theorem dX11_takesAtSomeDoor_39 : decode cX11_takesAtSomeDoor 39 = .ok (.aload_n 2, 1) := by decide +kernel
theorem dX11_takesAtSomeDoor_40 : decode cX11_takesAtSomeDoor 40 = .ok (.aload_n 0, 1) := by decide +kernel
theorem dX11_takesAtSomeDoor_41 : decode cX11_takesAtSomeDoor 41 = .ok (.getfield 70, 3) := by decide +kernel
theorem dX11_takesAtSomeDoor_44 : decode cX11_takesAtSomeDoor 44 = .ok (.getfield 148, 3) := by decide +kernel
theorem dX11_takesAtSomeDoor_47 : decode cX11_takesAtSomeDoor 47 = .ok (.invokevirtual 347, 3) := by decide +kernel
theorem dX11_takesAtSomeDoor_50 : decode cX11_takesAtSomeDoor 50 = .ok (.ifCond .eq 5, 3) := by decide +kernel
theorem dX11_takesAtSomeDoor_53 : decode cX11_takesAtSomeDoor 53 = .ok (.iconst 1, 1) := by decide +kernel
theorem dX11_takesAtSomeDoor_54 : decode cX11_takesAtSomeDoor 54 = .ok (.ireturn, 1) := by decide +kernel
theorem dX11_takesAtSomeDoor_55 : decode cX11_takesAtSomeDoor 55 = .ok (.iinc 1 1, 3) := by decide +kernel
theorem dX11_takesAtSomeDoor_58 : decode cX11_takesAtSomeDoor 58 = .ok (.goto (-56), 3) := by decide +kernel
theorem dX11_takesAtSomeDoor_61 : decode cX11_takesAtSomeDoor 61 = .ok (.iconst 0, 1) := by decide +kernel
theorem dX11_takesAtSomeDoor_62 : decode cX11_takesAtSomeDoor 62 = .ok (.ireturn, 1) := by decide +kernel
def E_X11_takesAtSomeDoor_2 (G : GT) (d : Nat) (h0 hb : PH) (l0 : Nat) (Q : Int32 → PH → Prop) (s : Int32 × PH) : Prop := qEx hb s.2 ∧ qn s.2 = qn hb ∧ qz s.2 = qz hb → Ex G (qrm (5 + d) 0 0) mX11_takesAtSomeDoor (qn h0) (qz h0) (ZN G h0 0 0 (qqb Q)) 2 [(0, .ref l0), (1, .int s.1)] [] s.2
def wb_X11_takesAtSomeDoor_2 (l0 : Nat)  (Q : Int32 → PH → Prop) (bk2 : Int32 × PH → Prop) (l1 : Int32) (h : PH) : Prop := (∃ b1, qR h l0 10 = some b1 ∧ (((qI h b1 1) ≤ l1 → Q 0 h) ∧ (¬ ((qI h b1 1) ≤ l1) → (∃ b4, qR h l0 10 = some b4 ∧ (∃ b6, qR h b4 0 = some b6 ∧ (vp_in l1 (qL h b6) ∧ ∃ b9, qR h b6 l1.toNatClampNeg = some b9 ∧ (((qI h b9 0) = 1 → (∃ b12, qR h l0 10 = some b12 ∧ (wp_X4_takesWhereLawCounts b9 (qI h b12 2) h (fun r15 h14 => ((r15 = 0 → ∀ v17 : Int32, v17 = l1 + 1 → bk2 (v17, h14)) ∧ (¬ (r15 = 0) → Q 1 h14)))))) ∧ (¬ ((qI h b9 0) = 1) → ((¬ (qI h b9 0) = 2 → ∀ v19 : Int32, v19 = l1 + 1 → bk2 (v19, h)) ∧ ((qI h b9 0) = 2 → (∃ b20, qR h l0 10 = some b20 ∧ (wp_X4_takesWhereLawCounts b9 (qI h b20 2) h (fun r23 h22 => ((r23 = 0 → ∀ v25 : Int32, v25 = l1 + 1 → bk2 (v25, h22)) ∧ (¬ (r23 = 0) → Q 1 h22)))))))))))))))
def wp_X11_takesAtSomeDoor_2 (l0 : Nat)  (Q : Int32 → PH → Prop) (bk2 : Int32 × PH → Prop) (s : Int32 × PH) : Prop := wb_X11_takesAtSomeDoor_2 l0 Q bk2 s.1 s.2
set_option maxHeartbeats 4000000 in
set_option maxRecDepth 100000 in
theorem bd_X11_takesAtSomeDoor_2 (G : GT) (d : Nat) (h0 hb : PH) (l0 : Nat) (Q : Int32 → PH → Prop)  (hex : qEx h0 hb) (hnn : qn hb = qn h0 + 0) (hzz : qz hb = qz h0 + 0) (okl0 : qOK hb 10 l0) (bk2 : Int32 × PH → Prop) (hbk2 : ∀ s2, bk2 s2 → E_X11_takesAtSomeDoor_2 G d h0 hb l0 Q s2) (l1 : Int32) (h : PH) (hwp : wb_X11_takesAtSomeDoor_2 l0 Q bk2 l1 h) (hx2 : qEx hb h) (hn2 : qn h = qn hb) (hz2 : qz h = qz hb) : Ex G (qrm (5 + d) 0 0) mX11_takesAtSomeDoor (qn h0) (qz h0) (ZN G h0 0 0 (qqb Q)) 2 [(0, .ref l0), (1, .int l1)] [] h := by
  unfold wb_X11_takesAtSomeDoor_2 at hwp
  have hex := hex.tr hx2
  have hnn := hn2.trans hnn
  have hzz := hz2.trans hzz
  have okl0 := okl0.ex hx2
  refine x_iload_n (pc := 2) dX11_takesAtSomeDoor_2 rfl ?_
  refine x_aload_n (pc := 3) dX11_takesAtSomeDoor_3 rfl ?_
  obtain ⟨b1, e2, hwp⟩ := hwp
  refine x_getR (pc := 4) dX11_takesAtSomeDoor_4 qRX11_70 okl0 e2 (fun okb1 => ?_)
  refine x_getI (pc := 7) dX11_takesAtSomeDoor_7 qRX11_124 okb1 (by decide) ?_
  refine x_icmp_ge (tgt := 61) (pc := 10) dX11_takesAtSomeDoor_10 (by decide) (fun c3 => ?_) (fun c3 => ?_)
  · have hwp := hwp.1 c3
    refine x_iconst (v := 0) (pc := 61) dX11_takesAtSomeDoor_61 (by decide) ?_
    exact x_zret (pc := 62) dX11_takesAtSomeDoor_62 rfl hex hnn hzz (by decide) ⟨_, rfl, by decide, hwp⟩
  · have hwp := hwp.2 c3
    refine x_aload_n (pc := 13) dX11_takesAtSomeDoor_13 rfl ?_
    obtain ⟨b4, e5, hwp⟩ := hwp
    refine x_getR (pc := 14) dX11_takesAtSomeDoor_14 qRX11_70 okl0 e5 (fun okb4 => ?_)
    obtain ⟨b6, e7, hwp⟩ := hwp
    refine x_getR (pc := 17) dX11_takesAtSomeDoor_17 qRX11_144 okb4 e7 (fun okb6 => ?_)
    refine x_iload_n (pc := 20) dX11_takesAtSomeDoor_20 rfl ?_
    obtain ⟨i8, b9, e10, hwp⟩ := hwp
    refine x_aaload (t := 18) (pc := 21) dX11_takesAtSomeDoor_21 okb6 (by decide) i8 e10 (fun okb9 => ?_)
    refine x_astore_n (lv2 := [(2, .ref b9), (0, .ref l0), (1, .int l1)]) (pc := 22) dX11_takesAtSomeDoor_22 (by decide) rfl ?_
    refine x_aload_n (pc := 23) dX11_takesAtSomeDoor_23 rfl ?_
    refine x_getI (pc := 24) dX11_takesAtSomeDoor_24 qRX11_346 okb9 (by decide) ?_
    refine x_iconst (v := 1) (pc := 27) dX11_takesAtSomeDoor_27 (by decide) ?_
    refine x_icmp_eq (tgt := 39) (pc := 28) dX11_takesAtSomeDoor_28 (by decide) (fun c11 => ?_) (fun c11 => ?_)
    · have hwp := hwp.1 c11
      refine x_aload_n (pc := 39) dX11_takesAtSomeDoor_39 rfl ?_
      refine x_aload_n (pc := 40) dX11_takesAtSomeDoor_40 rfl ?_
      obtain ⟨b12, e13, hwp⟩ := hwp
      refine x_getR (pc := 41) dX11_takesAtSomeDoor_41 qRX11_70 okl0 e13 (fun okb12 => ?_)
      refine x_getI (pc := 44) dX11_takesAtSomeDoor_44 qRX11_148 okb12 (by decide) ?_
      refine x_invV (As := [.int (qI h b12 2)]) (st := []) (pc := 47) dX11_takesAtSomeDoor_47 lRX11_347 fX4_takesWhereLawCounts vX4_takesWhereLawCounts okb9 rfl (Nat.le_of_ble_eq_true rfl) (q_R (by omega) (by decide)) (q_C hnn hzz (by decide) (by decide)) (sn_X4_takesWhereLawCounts G (d + 0) b9 (qI h b12 2) h _ okb9 hwp) (k_b (fun r15 h14 hwp zbr15 cxh14 => ?_))
      have hex := hex.tr cxh14.1
      have hnn : qn h14 = qn h0 + 0 := by have := cxh14.2.1; omega
      have hzz : qz h14 = qz h0 + 0 := by have := cxh14.2.2; omega
      have hx2 := hx2.tr cxh14.1
      have hn2 : qn h14 = qn hb := by have := cxh14.2.1; omega
      have hz2 : qz h14 = qz hb := by have := cxh14.2.2; omega
      have okl0 := okl0.ex cxh14.1
      have okb1 := okb1.ex cxh14.1
      have okb4 := okb4.ex cxh14.1
      have okb6 := okb6.ex cxh14.1
      have okb9 := okb9.ex cxh14.1
      have okb12 := okb12.ex cxh14.1
      refine x_if_eq (tgt := 55) (pc := 50) dX11_takesAtSomeDoor_50 (by decide) (fun c16 => ?_) (fun c16 => ?_)
      · have hwp := hwp.1 c16
        refine y_iinc (c := 1) (pc := 55) dX11_takesAtSomeDoor_55 rfl (by decide) (by decide) (fun v17 ev17 => ?_)
        have hwp := hwp v17 ev17
        refine x_lvE (lv2 := [(1, .int v17), (2, .ref b9), (0, .ref l0)]) rfl ?_
        refine x_goto (tgt := 2) (pc := 58) dX11_takesAtSomeDoor_58 (by decide) ?_
        refine x_sub [2, 0] rfl ?_
        exact hbk2 _ hwp ⟨hx2, hn2, hz2⟩
      · have hwp := hwp.2 c16
        refine x_iconst (v := 1) (pc := 53) dX11_takesAtSomeDoor_53 (by decide) ?_
        exact x_zret (pc := 54) dX11_takesAtSomeDoor_54 rfl hex hnn hzz (by decide) ⟨_, rfl, by decide, hwp⟩
    · have hwp := hwp.2 c11
      refine x_aload_n (pc := 31) dX11_takesAtSomeDoor_31 rfl ?_
      refine x_getI (pc := 32) dX11_takesAtSomeDoor_32 qRX11_346 okb9 (by decide) ?_
      refine x_iconst (v := 2) (pc := 35) dX11_takesAtSomeDoor_35 (by decide) ?_
      refine x_icmp_ne (tgt := 55) (pc := 36) dX11_takesAtSomeDoor_36 (by decide) (fun c18 => ?_) (fun c18 => ?_)
      · have hwp := hwp.1 c18
        refine y_iinc (c := 1) (pc := 55) dX11_takesAtSomeDoor_55 rfl (by decide) (by decide) (fun v19 ev19 => ?_)
        have hwp := hwp v19 ev19
        refine x_lvE (lv2 := [(1, .int v19), (2, .ref b9), (0, .ref l0)]) rfl ?_
        refine x_goto (tgt := 2) (pc := 58) dX11_takesAtSomeDoor_58 (by decide) ?_
        refine x_sub [2, 0] rfl ?_
        exact hbk2 _ hwp ⟨hx2, hn2, hz2⟩
      · have hwp := hwp.2 c18
        refine x_aload_n (pc := 39) dX11_takesAtSomeDoor_39 rfl ?_
        refine x_aload_n (pc := 40) dX11_takesAtSomeDoor_40 rfl ?_
        obtain ⟨b20, e21, hwp⟩ := hwp
        refine x_getR (pc := 41) dX11_takesAtSomeDoor_41 qRX11_70 okl0 e21 (fun okb20 => ?_)
        refine x_getI (pc := 44) dX11_takesAtSomeDoor_44 qRX11_148 okb20 (by decide) ?_
        refine x_invV (As := [.int (qI h b20 2)]) (st := []) (pc := 47) dX11_takesAtSomeDoor_47 lRX11_347 fX4_takesWhereLawCounts vX4_takesWhereLawCounts okb9 rfl (Nat.le_of_ble_eq_true rfl) (q_R (by omega) (by decide)) (q_C hnn hzz (by decide) (by decide)) (sn_X4_takesWhereLawCounts G (d + 0) b9 (qI h b20 2) h _ okb9 hwp) (k_b (fun r23 h22 hwp zbr23 cxh22 => ?_))
        have hex := hex.tr cxh22.1
        have hnn : qn h22 = qn h0 + 0 := by have := cxh22.2.1; omega
        have hzz : qz h22 = qz h0 + 0 := by have := cxh22.2.2; omega
        have hx2 := hx2.tr cxh22.1
        have hn2 : qn h22 = qn hb := by have := cxh22.2.1; omega
        have hz2 : qz h22 = qz hb := by have := cxh22.2.2; omega
        have okl0 := okl0.ex cxh22.1
        have okb1 := okb1.ex cxh22.1
        have okb4 := okb4.ex cxh22.1
        have okb6 := okb6.ex cxh22.1
        have okb9 := okb9.ex cxh22.1
        have okb20 := okb20.ex cxh22.1
        refine x_if_eq (tgt := 55) (pc := 50) dX11_takesAtSomeDoor_50 (by decide) (fun c24 => ?_) (fun c24 => ?_)
        · have hwp := hwp.1 c24
          refine y_iinc (c := 1) (pc := 55) dX11_takesAtSomeDoor_55 rfl (by decide) (by decide) (fun v25 ev25 => ?_)
          have hwp := hwp v25 ev25
          refine x_lvE (lv2 := [(1, .int v25), (2, .ref b9), (0, .ref l0)]) rfl ?_
          refine x_goto (tgt := 2) (pc := 58) dX11_takesAtSomeDoor_58 (by decide) ?_
          refine x_sub [2, 0] rfl ?_
          exact hbk2 _ hwp ⟨hx2, hn2, hz2⟩
        · have hwp := hwp.2 c24
          refine x_iconst (v := 1) (pc := 53) dX11_takesAtSomeDoor_53 (by decide) ?_
          exact x_zret (pc := 54) dX11_takesAtSomeDoor_54 rfl hex hnn hzz (by decide) ⟨_, rfl, by decide, hwp⟩
theorem lp_X11_takesAtSomeDoor_2 (G : GT) (d : Nat) (h0 hb : PH) (l0 : Nat) (Q : Int32 → PH → Prop)  (hex : qEx h0 hb) (hnn : qn hb = qn h0 + 0) (hzz : qz hb = qz h0 + 0) (okl0 : qOK hb 10 l0) {s : Int32 × PH} (hwp : qLoop (wp_X11_takesAtSomeDoor_2 l0 Q) s) : E_X11_takesAtSomeDoor_2 G d h0 hb l0 Q s :=
  qLoop.use (E := E_X11_takesAtSomeDoor_2 G d h0 hb l0 Q) (fun back s hbk hw hx => bd_X11_takesAtSomeDoor_2 G d h0 hb l0 Q hex hnn hzz okl0 back hbk s.1 s.2 hw hx.1 hx.2.1 hx.2.2) hwp
def wp_X11_takesAtSomeDoor (l0 : Nat) (h : PH) (Q : Int32 → PH → Prop) : Prop := (qLoop (wp_X11_takesAtSomeDoor_2 l0 Q) (0, h))
set_option maxHeartbeats 4000000 in
set_option maxRecDepth 100000 in
theorem sn_X11_takesAtSomeDoor (G : GT) (d : Nat) (l0 : Nat) (h : PH) (Q : Int32 → PH → Prop) (okl0 : qOK h 10 l0) (hwp : wp_X11_takesAtSomeDoor l0 h Q) : Mt G (5 + d) 0 0 mX11_takesAtSomeDoor [.ref l0] h (qqb Q) := by
  unfold wp_X11_takesAtSomeDoor at hwp
  refine Mt.of (by decide) rfl (Nat.le_of_ble_eq_true rfl) ?_
  have hex := qEx.rf h
  have hnn : qn h = qn h + 0 := rfl
  have hzz : qz h = qz h + 0 := rfl
  refine x_lvE (lv2 := [(0, .ref l0)]) rfl ?_
  refine x_iconst (v := 0) (pc := 0) dX11_takesAtSomeDoor_0 (by decide) ?_
  refine x_istore_n (lv2 := [(1, .int 0), (0, .ref l0)]) (pc := 1) dX11_takesAtSomeDoor_1 (by decide) rfl ?_
  refine x_sub [1, 0] rfl ?_
  exact lp_X11_takesAtSomeDoor_2 G d h h l0 Q hex hnn hzz okl0 hwp ⟨qEx.rf _, rfl, rfl⟩

theorem dX11_modelRests_0 : decode cX11_modelRests 0 = .ok (.aload_n 0, 1) := by decide +kernel
theorem dX11_modelRests_1 : decode cX11_modelRests 1 = .ok (.getfield 33, 3) := by decide +kernel
theorem dX11_modelRests_4 : decode cX11_modelRests 4 = .ok (.aload_n 0, 1) := by decide +kernel
theorem dX11_modelRests_5 : decode cX11_modelRests 5 = .ok (.getfield 26, 3) := by decide +kernel
theorem dX11_modelRests_8 : decode cX11_modelRests 8 = .ok (.iconst 0, 1) := by decide +kernel
theorem dX11_modelRests_9 : decode cX11_modelRests 9 = .ok (.invokevirtual 183, 3) := by decide +kernel
theorem dX11_modelRests_12 : decode cX11_modelRests 12 = .ok (.aload_n 0, 1) := by decide +kernel
theorem dX11_modelRests_13 : decode cX11_modelRests 13 = .ok (.getfield 44, 3) := by decide +kernel
theorem dX11_modelRests_16 : decode cX11_modelRests 16 = .ok (.iconst 0, 1) := by decide +kernel
theorem dX11_modelRests_17 : decode cX11_modelRests 17 = .ok (.sipush 1000, 3) := by decide +kernel
theorem dX11_modelRests_20 : decode cX11_modelRests 20 = .ok (.invokevirtual 187, 3) := by decide +kernel
theorem dX11_modelRests_23 : decode cX11_modelRests 23 = .ok (.aload_n 0, 1) := by decide +kernel
theorem dX11_modelRests_24 : decode cX11_modelRests 24 = .ok (.getfield 44, 3) := by decide +kernel
theorem dX11_modelRests_27 : decode cX11_modelRests 27 = .ok (.aload_n 0, 1) := by decide +kernel
theorem dX11_modelRests_28 : decode cX11_modelRests 28 = .ok (.getfield 33, 3) := by decide +kernel
theorem dX11_modelRests_31 : decode cX11_modelRests 31 = .ok (.invokevirtual 191, 3) := by decide +kernel
theorem dX11_modelRests_34 : decode cX11_modelRests 34 = .ok (.aload_n 0, 1) := by decide +kernel
theorem dX11_modelRests_35 : decode cX11_modelRests 35 = .ok (.getfield 44, 3) := by decide +kernel
theorem dX11_modelRests_38 : decode cX11_modelRests 38 = .ok (.getfield 214, 3) := by decide +kernel
theorem dX11_modelRests_41 : decode cX11_modelRests 41 = .ok (.ireturn, 1) := by decide +kernel
def wp_X11_modelRests (l0 : Nat) (h : PH) (Q : Int32 → PH → Prop) : Prop := (∃ b1, qR h l0 3 = some b1 ∧ (∃ b3, qR h l0 2 = some b3 ∧ (wp_X10_prepare b1 b3 0 h (fun h5 => (∃ b7, qR h5 l0 5 = some b7 ∧ (wp_X5_start b7 0 1000 h5 (fun h9 => (∃ b11, qR h9 l0 5 = some b11 ∧ (∃ b13, qR h9 l0 3 = some b13 ∧ (wp_X5_turn b11 b13 h9 (fun h15 => (∃ b17, qR h15 l0 5 = some b17 ∧ ((qI h15 b17 6 = 0 ∨ qI h15 b17 6 = 1) ∧ Q (qI h15 b17 6) h15)))))))))))))
set_option maxHeartbeats 4000000 in
set_option maxRecDepth 100000 in
theorem sn_X11_modelRests (G : GT) (d : Nat) (l0 : Nat) (h : PH) (Q : Int32 → PH → Prop) (okl0 : qOK h 10 l0) (hwp : wp_X11_modelRests l0 h Q) : Mt G (2 + d) 0 0 mX11_modelRests [.ref l0] h (qqb Q) := by
  unfold wp_X11_modelRests at hwp
  refine Mt.of (by decide) rfl (Nat.le_of_ble_eq_true rfl) ?_
  have hex := qEx.rf h
  have hnn : qn h = qn h + 0 := rfl
  have hzz : qz h = qz h + 0 := rfl
  refine x_lvE (lv2 := [(0, .ref l0)]) rfl ?_
  refine x_aload_n (pc := 0) dX11_modelRests_0 rfl ?_
  obtain ⟨b1, e2, hwp⟩ := hwp
  refine x_getR (pc := 1) dX11_modelRests_1 qRX11_33 okl0 e2 (fun okb1 => ?_)
  refine x_aload_n (pc := 4) dX11_modelRests_4 rfl ?_
  obtain ⟨b3, e4, hwp⟩ := hwp
  refine x_getR (pc := 5) dX11_modelRests_5 qRX11_26 okl0 e4 (fun okb3 => ?_)
  refine x_iconst (v := 0) (pc := 8) dX11_modelRests_8 (by decide) ?_
  refine x_invV (As := [.ref b3, .int 0]) (st := []) (pc := 9) dX11_modelRests_9 lRX11_183 fX10_prepare vX10_prepare okb1 rfl (Nat.le_of_ble_eq_true rfl) (q_R (by omega) (by decide)) (q_C hnn hzz (by decide) (by decide)) (sn_X10_prepare G (d + 0) b1 b3 0 h _ okb1 okb3 hwp) (k_v (fun h5 hwp cxh5 => ?_))
  have hex := hex.tr cxh5.1
  have hnn : qn h5 = qn h + 0 := by have := cxh5.2.1; omega
  have hzz : qz h5 = qz h + 0 := by have := cxh5.2.2; omega
  have okl0 := okl0.ex cxh5.1
  have okb1 := okb1.ex cxh5.1
  have okb3 := okb3.ex cxh5.1
  refine x_aload_n (pc := 12) dX11_modelRests_12 rfl ?_
  obtain ⟨b7, e8, hwp⟩ := hwp
  refine x_getR (pc := 13) dX11_modelRests_13 qRX11_44 okl0 e8 (fun okb7 => ?_)
  refine x_iconst (v := 0) (pc := 16) dX11_modelRests_16 (by decide) ?_
  refine x_sipush (v := 1000) (pc := 17) dX11_modelRests_17 (by decide) ?_
  refine x_invV (As := [.int 0, .int 1000]) (st := []) (pc := 20) dX11_modelRests_20 lRX11_187 fX5_start vX5_start okb7 rfl (Nat.le_of_ble_eq_true rfl) (q_R (by omega) (by decide)) (q_C hnn hzz (by decide) (by decide)) (sn_X5_start G (d + 1) b7 0 1000 h5 _ okb7 hwp) (k_v (fun h9 hwp cxh9 => ?_))
  have hex := hex.tr cxh9.1
  have hnn : qn h9 = qn h + 0 := by have := cxh9.2.1; omega
  have hzz : qz h9 = qz h + 0 := by have := cxh9.2.2; omega
  have okl0 := okl0.ex cxh9.1
  have okb1 := okb1.ex cxh9.1
  have okb3 := okb3.ex cxh9.1
  have okb7 := okb7.ex cxh9.1
  refine x_aload_n (pc := 23) dX11_modelRests_23 rfl ?_
  obtain ⟨b11, e12, hwp⟩ := hwp
  refine x_getR (pc := 24) dX11_modelRests_24 qRX11_44 okl0 e12 (fun okb11 => ?_)
  refine x_aload_n (pc := 27) dX11_modelRests_27 rfl ?_
  obtain ⟨b13, e14, hwp⟩ := hwp
  refine x_getR (pc := 28) dX11_modelRests_28 qRX11_33 okl0 e14 (fun okb13 => ?_)
  refine x_invV (As := [.ref b13]) (st := []) (pc := 31) dX11_modelRests_31 lRX11_191 fX5_turn vX5_turn okb11 rfl (Nat.le_of_ble_eq_true rfl) (q_R (by omega) (by decide)) (q_C hnn hzz (by decide) (by decide)) (sn_X5_turn G (d + 0) b11 b13 h9 _ okb11 okb13 hwp) (k_v (fun h15 hwp cxh15 => ?_))
  have hex := hex.tr cxh15.1
  have hnn : qn h15 = qn h + 0 := by have := cxh15.2.1; omega
  have hzz : qz h15 = qz h + 0 := by have := cxh15.2.2; omega
  have okl0 := okl0.ex cxh15.1
  have okb1 := okb1.ex cxh15.1
  have okb3 := okb3.ex cxh15.1
  have okb7 := okb7.ex cxh15.1
  have okb11 := okb11.ex cxh15.1
  have okb13 := okb13.ex cxh15.1
  refine x_aload_n (pc := 34) dX11_modelRests_34 rfl ?_
  obtain ⟨b17, e18, hwp⟩ := hwp
  refine x_getR (pc := 35) dX11_modelRests_35 qRX11_44 okl0 e18 (fun okb17 => ?_)
  refine x_getI (pc := 38) dX11_modelRests_38 qRX11_214 okb17 (by decide) ?_
  exact x_zret (pc := 41) dX11_modelRests_41 rfl hex hnn hzz hwp.1 ⟨_, rfl, hwp.1, hwp.2⟩

theorem dX11_hasFedPart_0 : decode cX11_hasFedPart 0 = .ok (.iconst 0, 1) := by decide +kernel
theorem dX11_hasFedPart_1 : decode cX11_hasFedPart 1 = .ok (.istore_n 1, 1) := by decide +kernel
theorem dX11_hasFedPart_2 : decode cX11_hasFedPart 2 = .ok (.iload_n 1, 1) := by decide +kernel
theorem dX11_hasFedPart_3 : decode cX11_hasFedPart 3 = .ok (.aload_n 0, 1) := by decide +kernel
theorem dX11_hasFedPart_4 : decode cX11_hasFedPart 4 = .ok (.getfield 70, 3) := by decide +kernel
theorem dX11_hasFedPart_7 : decode cX11_hasFedPart 7 = .ok (.getfield 124, 3) := by decide +kernel
theorem dX11_hasFedPart_10 : decode cX11_hasFedPart 10 = .ok (.if_icmp .ge 27, 3) := by decide +kernel
theorem dX11_hasFedPart_13 : decode cX11_hasFedPart 13 = .ok (.aload_n 0, 1) := by decide +kernel
theorem dX11_hasFedPart_14 : decode cX11_hasFedPart 14 = .ok (.getfield 70, 3) := by decide +kernel
theorem dX11_hasFedPart_17 : decode cX11_hasFedPart 17 = .ok (.getfield 144, 3) := by decide +kernel
theorem dX11_hasFedPart_20 : decode cX11_hasFedPart 20 = .ok (.iload_n 1, 1) := by decide +kernel
theorem dX11_hasFedPart_21 : decode cX11_hasFedPart 21 = .ok (.aaload, 1) := by decide +kernel
theorem dX11_hasFedPart_22 : decode cX11_hasFedPart 22 = .ok (.getfield 346, 3) := by decide +kernel
theorem dX11_hasFedPart_25 : decode cX11_hasFedPart 25 = .ok (.iconst 4, 1) := by decide +kernel
theorem dX11_hasFedPart_26 : decode cX11_hasFedPart 26 = .ok (.if_icmp .ne 5, 3) := by decide +kernel
theorem dX11_hasFedPart_29 : decode cX11_hasFedPart 29 = .ok (.iconst 1, 1) := by decide +kernel
theorem dX11_hasFedPart_30 : decode cX11_hasFedPart 30 = .ok (.ireturn, 1) := by decide +kernel
theorem dX11_hasFedPart_31 : decode cX11_hasFedPart 31 = .ok (.iinc 1 1, 3) := by decide +kernel
theorem dX11_hasFedPart_34 : decode cX11_hasFedPart 34 = .ok (.goto (-32), 3) := by decide +kernel
theorem dX11_hasFedPart_37 : decode cX11_hasFedPart 37 = .ok (.iconst 0, 1) := by decide +kernel
theorem dX11_hasFedPart_38 : decode cX11_hasFedPart 38 = .ok (.ireturn, 1) := by decide +kernel
def E_X11_hasFedPart_2 (G : GT) (d : Nat) (h0 hb : PH) (l0 : Nat) (Q : Int32 → PH → Prop) (s : Int32 × PH) : Prop := qEx hb s.2 ∧ qn s.2 = qn hb ∧ qz s.2 = qz hb → Ex G (qrm (0 + d) 0 0) mX11_hasFedPart (qn h0) (qz h0) (ZN G h0 0 0 (qqb Q)) 2 [(0, .ref l0), (1, .int s.1)] [] s.2
def wb_X11_hasFedPart_2 (l0 : Nat)  (Q : Int32 → PH → Prop) (bk2 : Int32 × PH → Prop) (l1 : Int32) (h : PH) : Prop := (∃ b1, qR h l0 10 = some b1 ∧ (((qI h b1 1) ≤ l1 → Q 0 h) ∧ (¬ ((qI h b1 1) ≤ l1) → (∃ b4, qR h l0 10 = some b4 ∧ (∃ b6, qR h b4 0 = some b6 ∧ (vp_in l1 (qL h b6) ∧ ∃ b9, qR h b6 l1.toNatClampNeg = some b9 ∧ ((¬ (qI h b9 0) = 4 → ∀ v12 : Int32, v12 = l1 + 1 → bk2 (v12, h)) ∧ ((qI h b9 0) = 4 → Q 1 h))))))))
def wp_X11_hasFedPart_2 (l0 : Nat)  (Q : Int32 → PH → Prop) (bk2 : Int32 × PH → Prop) (s : Int32 × PH) : Prop := wb_X11_hasFedPart_2 l0 Q bk2 s.1 s.2
set_option maxHeartbeats 4000000 in
set_option maxRecDepth 100000 in
theorem bd_X11_hasFedPart_2 (G : GT) (d : Nat) (h0 hb : PH) (l0 : Nat) (Q : Int32 → PH → Prop)  (hex : qEx h0 hb) (hnn : qn hb = qn h0 + 0) (hzz : qz hb = qz h0 + 0) (okl0 : qOK hb 10 l0) (bk2 : Int32 × PH → Prop) (hbk2 : ∀ s2, bk2 s2 → E_X11_hasFedPart_2 G d h0 hb l0 Q s2) (l1 : Int32) (h : PH) (hwp : wb_X11_hasFedPart_2 l0 Q bk2 l1 h) (hx2 : qEx hb h) (hn2 : qn h = qn hb) (hz2 : qz h = qz hb) : Ex G (qrm (0 + d) 0 0) mX11_hasFedPart (qn h0) (qz h0) (ZN G h0 0 0 (qqb Q)) 2 [(0, .ref l0), (1, .int l1)] [] h := by
  unfold wb_X11_hasFedPart_2 at hwp
  have hex := hex.tr hx2
  have hnn := hn2.trans hnn
  have hzz := hz2.trans hzz
  have okl0 := okl0.ex hx2
  refine x_iload_n (pc := 2) dX11_hasFedPart_2 rfl ?_
  refine x_aload_n (pc := 3) dX11_hasFedPart_3 rfl ?_
  obtain ⟨b1, e2, hwp⟩ := hwp
  refine x_getR (pc := 4) dX11_hasFedPart_4 qRX11_70 okl0 e2 (fun okb1 => ?_)
  refine x_getI (pc := 7) dX11_hasFedPart_7 qRX11_124 okb1 (by decide) ?_
  refine x_icmp_ge (tgt := 37) (pc := 10) dX11_hasFedPart_10 (by decide) (fun c3 => ?_) (fun c3 => ?_)
  · have hwp := hwp.1 c3
    refine x_iconst (v := 0) (pc := 37) dX11_hasFedPart_37 (by decide) ?_
    exact x_zret (pc := 38) dX11_hasFedPart_38 rfl hex hnn hzz (by decide) ⟨_, rfl, by decide, hwp⟩
  · have hwp := hwp.2 c3
    refine x_aload_n (pc := 13) dX11_hasFedPart_13 rfl ?_
    obtain ⟨b4, e5, hwp⟩ := hwp
    refine x_getR (pc := 14) dX11_hasFedPart_14 qRX11_70 okl0 e5 (fun okb4 => ?_)
    obtain ⟨b6, e7, hwp⟩ := hwp
    refine x_getR (pc := 17) dX11_hasFedPart_17 qRX11_144 okb4 e7 (fun okb6 => ?_)
    refine x_iload_n (pc := 20) dX11_hasFedPart_20 rfl ?_
    obtain ⟨i8, b9, e10, hwp⟩ := hwp
    refine x_aaload (t := 18) (pc := 21) dX11_hasFedPart_21 okb6 (by decide) i8 e10 (fun okb9 => ?_)
    refine x_getI (pc := 22) dX11_hasFedPart_22 qRX11_346 okb9 (by decide) ?_
    refine x_iconst (v := 4) (pc := 25) dX11_hasFedPart_25 (by decide) ?_
    refine x_icmp_ne (tgt := 31) (pc := 26) dX11_hasFedPart_26 (by decide) (fun c11 => ?_) (fun c11 => ?_)
    · have hwp := hwp.1 c11
      refine y_iinc (c := 1) (pc := 31) dX11_hasFedPart_31 rfl (by decide) (by decide) (fun v12 ev12 => ?_)
      have hwp := hwp v12 ev12
      refine x_lvE (lv2 := [(1, .int v12), (0, .ref l0)]) rfl ?_
      refine x_goto (tgt := 2) (pc := 34) dX11_hasFedPart_34 (by decide) ?_
      refine x_sub [1, 0] rfl ?_
      exact hbk2 _ hwp ⟨hx2, hn2, hz2⟩
    · have hwp := hwp.2 c11
      refine x_iconst (v := 1) (pc := 29) dX11_hasFedPart_29 (by decide) ?_
      exact x_zret (pc := 30) dX11_hasFedPart_30 rfl hex hnn hzz (by decide) ⟨_, rfl, by decide, hwp⟩
theorem lp_X11_hasFedPart_2 (G : GT) (d : Nat) (h0 hb : PH) (l0 : Nat) (Q : Int32 → PH → Prop)  (hex : qEx h0 hb) (hnn : qn hb = qn h0 + 0) (hzz : qz hb = qz h0 + 0) (okl0 : qOK hb 10 l0) {s : Int32 × PH} (hwp : qLoop (wp_X11_hasFedPart_2 l0 Q) s) : E_X11_hasFedPart_2 G d h0 hb l0 Q s :=
  qLoop.use (E := E_X11_hasFedPart_2 G d h0 hb l0 Q) (fun back s hbk hw hx => bd_X11_hasFedPart_2 G d h0 hb l0 Q hex hnn hzz okl0 back hbk s.1 s.2 hw hx.1 hx.2.1 hx.2.2) hwp
def wp_X11_hasFedPart (l0 : Nat) (h : PH) (Q : Int32 → PH → Prop) : Prop := (qLoop (wp_X11_hasFedPart_2 l0 Q) (0, h))
set_option maxHeartbeats 4000000 in
set_option maxRecDepth 100000 in
theorem sn_X11_hasFedPart (G : GT) (d : Nat) (l0 : Nat) (h : PH) (Q : Int32 → PH → Prop) (okl0 : qOK h 10 l0) (hwp : wp_X11_hasFedPart l0 h Q) : Mt G (0 + d) 0 0 mX11_hasFedPart [.ref l0] h (qqb Q) := by
  unfold wp_X11_hasFedPart at hwp
  refine Mt.of (by decide) rfl (Nat.le_of_ble_eq_true rfl) ?_
  have hex := qEx.rf h
  have hnn : qn h = qn h + 0 := rfl
  have hzz : qz h = qz h + 0 := rfl
  refine x_lvE (lv2 := [(0, .ref l0)]) rfl ?_
  refine x_iconst (v := 0) (pc := 0) dX11_hasFedPart_0 (by decide) ?_
  refine x_istore_n (lv2 := [(1, .int 0), (0, .ref l0)]) (pc := 1) dX11_hasFedPart_1 (by decide) rfl ?_
  refine x_sub [1, 0] rfl ?_
  exact lp_X11_hasFedPart_2 G d h h l0 Q hex hnn hzz okl0 hwp ⟨qEx.rf _, rfl, rfl⟩

theorem dX11_isRight_0 : decode cX11_isRight 0 = .ok (.iload_n 1, 1) := by decide +kernel
theorem dX11_isRight_1 : decode cX11_isRight 1 = .ok (.tableswitch 105 0 6 #[43, 48, 53, 58, 63, 79, 84], 43) := by decide +kernel
theorem dX11_isRight_44 : decode cX11_isRight 44 = .ok (.aload_n 0, 1) := by decide +kernel
theorem dX11_isRight_45 : decode cX11_isRight 45 = .ok (.invokevirtual 330, 3) := by decide +kernel
theorem dX11_isRight_48 : decode cX11_isRight 48 = .ok (.ireturn, 1) := by decide +kernel
theorem dX11_isRight_49 : decode cX11_isRight 49 = .ok (.aload_n 0, 1) := by decide +kernel
theorem dX11_isRight_50 : decode cX11_isRight 50 = .ok (.invokevirtual 334, 3) := by decide +kernel
theorem dX11_isRight_53 : decode cX11_isRight 53 = .ok (.ireturn, 1) := by decide +kernel
theorem dX11_isRight_54 : decode cX11_isRight 54 = .ok (.aload_n 0, 1) := by decide +kernel
theorem dX11_isRight_55 : decode cX11_isRight 55 = .ok (.invokevirtual 337, 3) := by decide +kernel
theorem dX11_isRight_58 : decode cX11_isRight 58 = .ok (.ireturn, 1) := by decide +kernel
theorem dX11_isRight_59 : decode cX11_isRight 59 = .ok (.aload_n 0, 1) := by decide +kernel
theorem dX11_isRight_60 : decode cX11_isRight 60 = .ok (.invokevirtual 340, 3) := by decide +kernel
theorem dX11_isRight_63 : decode cX11_isRight 63 = .ok (.ireturn, 1) := by decide +kernel
theorem dX11_isRight_64 : decode cX11_isRight 64 = .ok (.aload_n 0, 1) := by decide +kernel
theorem dX11_isRight_65 : decode cX11_isRight 65 = .ok (.getfield 70, 3) := by decide +kernel
theorem dX11_isRight_68 : decode cX11_isRight 68 = .ok (.getfield 320, 3) := by decide +kernel
theorem dX11_isRight_71 : decode cX11_isRight 71 = .ok (.ifCond .le 7, 3) := by decide +kernel
theorem dX11_isRight_74 : decode cX11_isRight 74 = .ok (.iconst 1, 1) := by decide +kernel
theorem dX11_isRight_75 : decode cX11_isRight 75 = .ok (.goto 4, 3) := by decide +kernel
theorem dX11_isRight_78 : decode cX11_isRight 78 = .ok (.iconst 0, 1) := by decide +kernel
theorem dX11_isRight_79 : decode cX11_isRight 79 = .ok (.ireturn, 1) := by decide +kernel
theorem dX11_isRight_80 : decode cX11_isRight 80 = .ok (.aload_n 0, 1) := by decide +kernel
theorem dX11_isRight_81 : decode cX11_isRight 81 = .ok (.invokevirtual 343, 3) := by decide +kernel
theorem dX11_isRight_84 : decode cX11_isRight 84 = .ok (.ireturn, 1) := by decide +kernel
theorem dX11_isRight_85 : decode cX11_isRight 85 = .ok (.aload_n 0, 1) := by decide +kernel
theorem dX11_isRight_86 : decode cX11_isRight 86 = .ok (.invokevirtual 243, 3) := by decide +kernel
theorem dX11_isRight_89 : decode cX11_isRight 89 = .ok (.istore_n 2, 1) := by decide +kernel
theorem dX11_isRight_90 : decode cX11_isRight 90 = .ok (.iload_n 2, 1) := by decide +kernel
theorem dX11_isRight_91 : decode cX11_isRight 91 = .ok (.ifCond .eq 13, 3) := by decide +kernel
theorem dX11_isRight_94 : decode cX11_isRight 94 = .ok (.iload_n 2, 1) := by decide +kernel
theorem dX11_isRight_95 : decode cX11_isRight 95 = .ok (.iconst 1, 1) := by decide +kernel
theorem dX11_isRight_96 : decode cX11_isRight 96 = .ok (.iand, 1) := by decide +kernel
theorem dX11_isRight_97 : decode cX11_isRight 97 = .ok (.ifCond .ne 7, 3) := by decide +kernel
theorem dX11_isRight_100 : decode cX11_isRight 100 = .ok (.iconst 1, 1) := by decide +kernel
theorem dX11_isRight_101 : decode cX11_isRight 101 = .ok (.goto 4, 3) := by decide +kernel
theorem dX11_isRight_104 : decode cX11_isRight 104 = .ok (.iconst 0, 1) := by decide +kernel
theorem dX11_isRight_105 : decode cX11_isRight 105 = .ok (.ireturn, 1) := by decide +kernel
theorem dX11_isRight_106 : decode cX11_isRight 106 = .ok (.iconst 0, 1) := by decide +kernel
theorem dX11_isRight_107 : decode cX11_isRight 107 = .ok (.ireturn, 1) := by decide +kernel
def wp_X11_isRight (l0 : Nat) (l1 : Int32) (h : PH) (Q : Int32 → PH → Prop) : Prop := ((l1 = 0 → (wp_X11_isLeftFullerSomewhere l0 h (fun r3 h2 => ((r3 = 0 ∨ r3 = 1) ∧ Q r3 h2)))) ∧ (l1 = 1 → (wp_X11_areUnfedSumsZero l0 h (fun r7 h6 => ((r7 = 0 ∨ r7 = 1) ∧ Q r7 h6)))) ∧ (l1 = 2 → (wp_X11_takesAtSomeDoor l0 h (fun r11 h10 => ((r11 = 0 ∨ r11 = 1) ∧ Q r11 h10)))) ∧ (l1 = 3 → (wp_X11_modelRests l0 h (fun r15 h14 => ((r15 = 0 ∨ r15 = 1) ∧ Q r15 h14)))) ∧ (l1 = 4 → (∃ b18, qR h l0 10 = some b18 ∧ (((qI h b18 3) ≤ 0 → Q 0 h) ∧ (¬ ((qI h b18 3) ≤ 0) → Q 1 h)))) ∧ (l1 = 5 → (wp_X11_hasFedPart l0 h (fun r23 h22 => ((r23 = 0 ∨ r23 = 1) ∧ Q r23 h22)))) ∧ (l1 = 6 → (wp_X11_goers l0 h (fun r27 h26 => ((r27 = 0 → Q 0 h26) ∧ (¬ (r27 = 0) → ((¬ (r27 &&& 1) = 0 → Q 0 h26) ∧ ((r27 &&& 1) = 0 → Q 1 h26))))))) ∧ (¬ l1 = 0 → ¬ l1 = 1 → ¬ l1 = 2 → ¬ l1 = 3 → ¬ l1 = 4 → ¬ l1 = 5 → ¬ l1 = 6 → Q 0 h))
set_option maxHeartbeats 4000000 in
set_option maxRecDepth 100000 in
theorem sn_X11_isRight (G : GT) (d : Nat) (l0 : Nat) (l1 : Int32) (h : PH) (Q : Int32 → PH → Prop) (okl0 : qOK h 10 l0) (hwp : wp_X11_isRight l0 l1 h Q) : Mt G (6 + d) 0 0 mX11_isRight [.ref l0, .int l1] h (qqb Q) := by
  unfold wp_X11_isRight at hwp
  refine Mt.of (by decide) rfl (Nat.le_of_ble_eq_true rfl) ?_
  have hex := qEx.rf h
  have hnn : qn h = qn h + 0 := rfl
  have hzz : qz h = qz h + 0 := rfl
  refine x_lvE (lv2 := [(0, .ref l0), (1, .int l1)]) rfl ?_
  refine x_iload_n (pc := 0) dX11_isRight_0 rfl ?_
  by_cases c1 : l1 = 0
  · have hwp := hwp.1 c1
    refine x_tabIn (tgt := 44) (pc := 1) dX11_isRight_1 (by rw [q_teq c1 (n := 0) (by decide)]; decide) (by rw [q_teq c1 (n := 0) (by decide)]; decide) (by rw [q_teq c1 (n := 0) (by decide)]; rfl) (by decide) ?_
    refine x_aload_n (pc := 44) dX11_isRight_44 rfl ?_
    refine x_invV (As := []) (st := []) (pc := 45) dX11_isRight_45 lRX11_330 fX11_isLeftFullerSomewhere vX11_isLeftFullerSomewhere okl0 rfl (Nat.le_of_ble_eq_true rfl) (q_R (by omega) (by decide)) (q_C hnn hzz (by decide) (by decide)) (sn_X11_isLeftFullerSomewhere G (d + 4) l0 h _ okl0 hwp) (k_b (fun r3 h2 hwp zbr3 cxh2 => ?_))
    have hex := hex.tr cxh2.1
    have hnn : qn h2 = qn h + 0 := by have := cxh2.2.1; omega
    have hzz : qz h2 = qz h + 0 := by have := cxh2.2.2; omega
    have okl0 := okl0.ex cxh2.1
    exact x_zret (pc := 48) dX11_isRight_48 rfl hex hnn hzz hwp.1 ⟨_, rfl, hwp.1, hwp.2⟩
  by_cases c5 : l1 = 1
  · have hwp := hwp.2.1 c5
    refine x_tabIn (tgt := 49) (pc := 1) dX11_isRight_1 (by rw [q_teq c5 (n := 1) (by decide)]; decide) (by rw [q_teq c5 (n := 1) (by decide)]; decide) (by rw [q_teq c5 (n := 1) (by decide)]; rfl) (by decide) ?_
    refine x_aload_n (pc := 49) dX11_isRight_49 rfl ?_
    refine x_invV (As := []) (st := []) (pc := 50) dX11_isRight_50 lRX11_334 fX11_areUnfedSumsZero vX11_areUnfedSumsZero okl0 rfl (Nat.le_of_ble_eq_true rfl) (q_R (by omega) (by decide)) (q_C hnn hzz (by decide) (by decide)) (sn_X11_areUnfedSumsZero G (d + 0) l0 h _ okl0 hwp) (k_b (fun r7 h6 hwp zbr7 cxh6 => ?_))
    have hex := hex.tr cxh6.1
    have hnn : qn h6 = qn h + 0 := by have := cxh6.2.1; omega
    have hzz : qz h6 = qz h + 0 := by have := cxh6.2.2; omega
    have okl0 := okl0.ex cxh6.1
    exact x_zret (pc := 53) dX11_isRight_53 rfl hex hnn hzz hwp.1 ⟨_, rfl, hwp.1, hwp.2⟩
  by_cases c9 : l1 = 2
  · have hwp := hwp.2.2.1 c9
    refine x_tabIn (tgt := 54) (pc := 1) dX11_isRight_1 (by rw [q_teq c9 (n := 2) (by decide)]; decide) (by rw [q_teq c9 (n := 2) (by decide)]; decide) (by rw [q_teq c9 (n := 2) (by decide)]; rfl) (by decide) ?_
    refine x_aload_n (pc := 54) dX11_isRight_54 rfl ?_
    refine x_invV (As := []) (st := []) (pc := 55) dX11_isRight_55 lRX11_337 fX11_takesAtSomeDoor vX11_takesAtSomeDoor okl0 rfl (Nat.le_of_ble_eq_true rfl) (q_R (by omega) (by decide)) (q_C hnn hzz (by decide) (by decide)) (sn_X11_takesAtSomeDoor G (d + 0) l0 h _ okl0 hwp) (k_b (fun r11 h10 hwp zbr11 cxh10 => ?_))
    have hex := hex.tr cxh10.1
    have hnn : qn h10 = qn h + 0 := by have := cxh10.2.1; omega
    have hzz : qz h10 = qz h + 0 := by have := cxh10.2.2; omega
    have okl0 := okl0.ex cxh10.1
    exact x_zret (pc := 58) dX11_isRight_58 rfl hex hnn hzz hwp.1 ⟨_, rfl, hwp.1, hwp.2⟩
  by_cases c13 : l1 = 3
  · have hwp := hwp.2.2.2.1 c13
    refine x_tabIn (tgt := 59) (pc := 1) dX11_isRight_1 (by rw [q_teq c13 (n := 3) (by decide)]; decide) (by rw [q_teq c13 (n := 3) (by decide)]; decide) (by rw [q_teq c13 (n := 3) (by decide)]; rfl) (by decide) ?_
    refine x_aload_n (pc := 59) dX11_isRight_59 rfl ?_
    refine x_invV (As := []) (st := []) (pc := 60) dX11_isRight_60 lRX11_340 fX11_modelRests vX11_modelRests okl0 rfl (Nat.le_of_ble_eq_true rfl) (q_R (by omega) (by decide)) (q_C hnn hzz (by decide) (by decide)) (sn_X11_modelRests G (d + 3) l0 h _ okl0 hwp) (k_b (fun r15 h14 hwp zbr15 cxh14 => ?_))
    have hex := hex.tr cxh14.1
    have hnn : qn h14 = qn h + 0 := by have := cxh14.2.1; omega
    have hzz : qz h14 = qz h + 0 := by have := cxh14.2.2; omega
    have okl0 := okl0.ex cxh14.1
    exact x_zret (pc := 63) dX11_isRight_63 rfl hex hnn hzz hwp.1 ⟨_, rfl, hwp.1, hwp.2⟩
  by_cases c17 : l1 = 4
  · have hwp := hwp.2.2.2.2.1 c17
    refine x_tabIn (tgt := 64) (pc := 1) dX11_isRight_1 (by rw [q_teq c17 (n := 4) (by decide)]; decide) (by rw [q_teq c17 (n := 4) (by decide)]; decide) (by rw [q_teq c17 (n := 4) (by decide)]; rfl) (by decide) ?_
    refine x_aload_n (pc := 64) dX11_isRight_64 rfl ?_
    obtain ⟨b18, e19, hwp⟩ := hwp
    refine x_getR (pc := 65) dX11_isRight_65 qRX11_70 okl0 e19 (fun okb18 => ?_)
    refine x_getI (pc := 68) dX11_isRight_68 qRX11_320 okb18 (by decide) ?_
    refine x_if_le (tgt := 78) (pc := 71) dX11_isRight_71 (by decide) (fun c20 => ?_) (fun c20 => ?_)
    · have hwp := hwp.1 c20
      refine x_iconst (v := 0) (pc := 78) dX11_isRight_78 (by decide) ?_
      exact x_zret (pc := 79) dX11_isRight_79 rfl hex hnn hzz (by decide) ⟨_, rfl, by decide, hwp⟩
    · have hwp := hwp.2 c20
      refine x_iconst (v := 1) (pc := 74) dX11_isRight_74 (by decide) ?_
      refine x_goto (tgt := 79) (pc := 75) dX11_isRight_75 (by decide) ?_
      exact x_zret (pc := 79) dX11_isRight_79 rfl hex hnn hzz (by decide) ⟨_, rfl, by decide, hwp⟩
  by_cases c21 : l1 = 5
  · have hwp := hwp.2.2.2.2.2.1 c21
    refine x_tabIn (tgt := 80) (pc := 1) dX11_isRight_1 (by rw [q_teq c21 (n := 5) (by decide)]; decide) (by rw [q_teq c21 (n := 5) (by decide)]; decide) (by rw [q_teq c21 (n := 5) (by decide)]; rfl) (by decide) ?_
    refine x_aload_n (pc := 80) dX11_isRight_80 rfl ?_
    refine x_invV (As := []) (st := []) (pc := 81) dX11_isRight_81 lRX11_343 fX11_hasFedPart vX11_hasFedPart okl0 rfl (Nat.le_of_ble_eq_true rfl) (q_R (by omega) (by decide)) (q_C hnn hzz (by decide) (by decide)) (sn_X11_hasFedPart G (d + 5) l0 h _ okl0 hwp) (k_b (fun r23 h22 hwp zbr23 cxh22 => ?_))
    have hex := hex.tr cxh22.1
    have hnn : qn h22 = qn h + 0 := by have := cxh22.2.1; omega
    have hzz : qz h22 = qz h + 0 := by have := cxh22.2.2; omega
    have okl0 := okl0.ex cxh22.1
    exact x_zret (pc := 84) dX11_isRight_84 rfl hex hnn hzz hwp.1 ⟨_, rfl, hwp.1, hwp.2⟩
  by_cases c25 : l1 = 6
  · have hwp := hwp.2.2.2.2.2.2.1 c25
    refine x_tabIn (tgt := 85) (pc := 1) dX11_isRight_1 (by rw [q_teq c25 (n := 6) (by decide)]; decide) (by rw [q_teq c25 (n := 6) (by decide)]; decide) (by rw [q_teq c25 (n := 6) (by decide)]; rfl) (by decide) ?_
    refine x_aload_n (pc := 85) dX11_isRight_85 rfl ?_
    refine x_invV (As := []) (st := []) (pc := 86) dX11_isRight_86 lRX11_243 fX11_goers vX11_goers okl0 rfl (Nat.le_of_ble_eq_true rfl) (q_R (by omega) (by decide)) (q_C hnn hzz (by decide) (by decide)) (sn_X11_goers G (d + 3) l0 h _ okl0 hwp) (k_i (fun r27 h26 hwp cxh26 => ?_))
    have hex := hex.tr cxh26.1
    have hnn : qn h26 = qn h + 0 := by have := cxh26.2.1; omega
    have hzz : qz h26 = qz h + 0 := by have := cxh26.2.2; omega
    have okl0 := okl0.ex cxh26.1
    refine x_istore_n (lv2 := [(2, .int r27), (0, .ref l0), (1, .int l1)]) (pc := 89) dX11_isRight_89 (by decide) rfl ?_
    refine x_iload_n (pc := 90) dX11_isRight_90 rfl ?_
    refine x_if_eq (tgt := 104) (pc := 91) dX11_isRight_91 (by decide) (fun c28 => ?_) (fun c28 => ?_)
    · have hwp := hwp.1 c28
      refine x_iconst (v := 0) (pc := 104) dX11_isRight_104 (by decide) ?_
      exact x_zret (pc := 105) dX11_isRight_105 rfl hex hnn hzz (by decide) ⟨_, rfl, by decide, hwp⟩
    · have hwp := hwp.2 c28
      refine x_iload_n (pc := 94) dX11_isRight_94 rfl ?_
      refine x_iconst (v := 1) (pc := 95) dX11_isRight_95 (by decide) ?_
      refine x_iand (pc := 96) dX11_isRight_96 ?_
      refine x_if_ne (tgt := 104) (pc := 97) dX11_isRight_97 (by decide) (fun c29 => ?_) (fun c29 => ?_)
      · have hwp := hwp.1 c29
        refine x_iconst (v := 0) (pc := 104) dX11_isRight_104 (by decide) ?_
        exact x_zret (pc := 105) dX11_isRight_105 rfl hex hnn hzz (by decide) ⟨_, rfl, by decide, hwp⟩
      · have hwp := hwp.2 c29
        refine x_iconst (v := 1) (pc := 100) dX11_isRight_100 (by decide) ?_
        refine x_goto (tgt := 105) (pc := 101) dX11_isRight_101 (by decide) ?_
        exact x_zret (pc := 105) dX11_isRight_105 rfl hex hnn hzz (by decide) ⟨_, rfl, by decide, hwp⟩
  have hwp := hwp.2.2.2.2.2.2.2 c1 c5 c9 c13 c17 c21 c25
  refine x_tabOut (tgt := 106) (pc := 1) dX11_isRight_1 (by have := q_tne c1 (n := 0) (by decide); have := q_tne c5 (n := 1) (by decide); have := q_tne c9 (n := 2) (by decide); have := q_tne c13 (n := 3) (by decide); have := q_tne c17 (n := 4) (by decide); have := q_tne c21 (n := 5) (by decide); have := q_tne c25 (n := 6) (by decide); omega) (by decide) ?_
  refine x_iconst (v := 0) (pc := 106) dX11_isRight_106 (by decide) ?_
  exact x_zret (pc := 107) dX11_isRight_107 rfl hex hnn hzz (by decide) ⟨_, rfl, by decide, hwp⟩

theorem dX11_right_0 : decode cX11_right 0 = .ok (.iload_n 1, 1) := by decide +kernel
theorem dX11_right_1 : decode cX11_right 1 = .ok (.ifCond .lt 9, 3) := by decide +kernel
theorem dX11_right_4 : decode cX11_right 4 = .ok (.iload_n 1, 1) := by decide +kernel
theorem dX11_right_5 : decode cX11_right 5 = .ok (.bipush 7, 2) := by decide +kernel
theorem dX11_right_7 : decode cX11_right 7 = .ok (.if_icmp .lt 5, 3) := by decide +kernel
theorem dX11_right_10 : decode cX11_right 10 = .ok (.iconst (-1), 1) := by decide +kernel
theorem dX11_right_11 : decode cX11_right 11 = .ok (.ireturn, 1) := by decide +kernel
theorem dX11_right_12 : decode cX11_right 12 = .ok (.aload_n 0, 1) := by decide +kernel
theorem dX11_right_13 : decode cX11_right 13 = .ok (.iload_n 1, 1) := by decide +kernel
theorem dX11_right_14 : decode cX11_right 14 = .ok (.invokevirtual 307, 3) := by decide +kernel
theorem dX11_right_17 : decode cX11_right 17 = .ok (.ifCond .eq 7, 3) := by decide +kernel
theorem dX11_right_20 : decode cX11_right 20 = .ok (.iconst 1, 1) := by decide +kernel
theorem dX11_right_21 : decode cX11_right 21 = .ok (.goto 4, 3) := by decide +kernel
theorem dX11_right_24 : decode cX11_right 24 = .ok (.iconst 0, 1) := by decide +kernel
theorem dX11_right_25 : decode cX11_right 25 = .ok (.ireturn, 1) := by decide +kernel
def wp_X11_right (l0 : Nat) (l1 : Int32) (h : PH) (Q : Int32 → PH → Prop) : Prop := ((l1 < 0 → Q (-1) h) ∧ (¬ (l1 < 0) → ((l1 < 7 → (wp_X11_isRight l0 l1 h (fun r4 h3 => ((r4 = 0 → Q 0 h3) ∧ (¬ (r4 = 0) → Q 1 h3))))) ∧ (¬ (l1 < 7) → Q (-1) h))))
set_option maxHeartbeats 4000000 in
set_option maxRecDepth 100000 in
theorem sn_X11_right (G : GT) (d : Nat) (l0 : Nat) (l1 : Int32) (h : PH) (Q : Int32 → PH → Prop) (okl0 : qOK h 10 l0) (hwp : wp_X11_right l0 l1 h Q) : Mt G (7 + d) 0 0 mX11_right [.ref l0, .int l1] h (qqi Q) := by
  unfold wp_X11_right at hwp
  refine Mt.of (by decide) rfl (Nat.le_of_ble_eq_true rfl) ?_
  have hex := qEx.rf h
  have hnn : qn h = qn h + 0 := rfl
  have hzz : qz h = qz h + 0 := rfl
  refine x_lvE (lv2 := [(0, .ref l0), (1, .int l1)]) rfl ?_
  refine x_iload_n (pc := 0) dX11_right_0 rfl ?_
  refine x_if_lt (tgt := 10) (pc := 1) dX11_right_1 (by decide) (fun c1 => ?_) (fun c1 => ?_)
  · have hwp := hwp.1 c1
    refine x_iconst (v := (-1)) (pc := 10) dX11_right_10 (by decide) ?_
    exact x_iret (pc := 11) dX11_right_11 rfl hex hnn hzz ⟨_, rfl, hwp⟩
  · have hwp := hwp.2 c1
    refine x_iload_n (pc := 4) dX11_right_4 rfl ?_
    refine x_bipush (v := 7) (pc := 5) dX11_right_5 (by decide) ?_
    refine x_icmp_lt (tgt := 12) (pc := 7) dX11_right_7 (by decide) (fun c2 => ?_) (fun c2 => ?_)
    · have hwp := hwp.1 c2
      refine x_aload_n (pc := 12) dX11_right_12 rfl ?_
      refine x_iload_n (pc := 13) dX11_right_13 rfl ?_
      refine x_invV (As := [.int l1]) (st := []) (pc := 14) dX11_right_14 lRX11_307 fX11_isRight vX11_isRight okl0 rfl (Nat.le_of_ble_eq_true rfl) (q_R (by omega) (by decide)) (q_C hnn hzz (by decide) (by decide)) (sn_X11_isRight G (d + 0) l0 l1 h _ okl0 hwp) (k_b (fun r4 h3 hwp zbr4 cxh3 => ?_))
      have hex := hex.tr cxh3.1
      have hnn : qn h3 = qn h + 0 := by have := cxh3.2.1; omega
      have hzz : qz h3 = qz h + 0 := by have := cxh3.2.2; omega
      have okl0 := okl0.ex cxh3.1
      refine x_if_eq (tgt := 24) (pc := 17) dX11_right_17 (by decide) (fun c5 => ?_) (fun c5 => ?_)
      · have hwp := hwp.1 c5
        refine x_iconst (v := 0) (pc := 24) dX11_right_24 (by decide) ?_
        exact x_iret (pc := 25) dX11_right_25 rfl hex hnn hzz ⟨_, rfl, hwp⟩
      · have hwp := hwp.2 c5
        refine x_iconst (v := 1) (pc := 20) dX11_right_20 (by decide) ?_
        refine x_goto (tgt := 25) (pc := 21) dX11_right_21 (by decide) ?_
        exact x_iret (pc := 25) dX11_right_25 rfl hex hnn hzz ⟨_, rfl, hwp⟩
    · have hwp := hwp.2 c2
      refine x_iconst (v := (-1)) (pc := 10) dX11_right_10 (by decide) ?_
      exact x_iret (pc := 11) dX11_right_11 rfl hex hnn hzz ⟨_, rfl, hwp⟩

theorem dX11_answer_0 : decode cX11_answer 0 = .ok (.iconst 0, 1) := by decide +kernel
theorem dX11_answer_1 : decode cX11_answer 1 = .ok (.istore_n 1, 1) := by decide +kernel
theorem dX11_answer_2 : decode cX11_answer 2 = .ok (.iconst 0, 1) := by decide +kernel
theorem dX11_answer_3 : decode cX11_answer 3 = .ok (.istore_n 2, 1) := by decide +kernel
theorem dX11_answer_4 : decode cX11_answer 4 = .ok (.iload_n 2, 1) := by decide +kernel
theorem dX11_answer_5 : decode cX11_answer 5 = .ok (.bipush 7, 2) := by decide +kernel
theorem dX11_answer_7 : decode cX11_answer 7 = .ok (.if_icmp .ge 23, 3) := by decide +kernel
theorem dX11_answer_10 : decode cX11_answer 10 = .ok (.aload_n 0, 1) := by decide +kernel
theorem dX11_answer_11 : decode cX11_answer 11 = .ok (.iload_n 2, 1) := by decide +kernel
theorem dX11_answer_12 : decode cX11_answer 12 = .ok (.invokevirtual 307, 3) := by decide +kernel
theorem dX11_answer_15 : decode cX11_answer 15 = .ok (.ifCond .eq 9, 3) := by decide +kernel
theorem dX11_answer_18 : decode cX11_answer 18 = .ok (.iload_n 1, 1) := by decide +kernel
theorem dX11_answer_19 : decode cX11_answer 19 = .ok (.iconst 1, 1) := by decide +kernel
theorem dX11_answer_20 : decode cX11_answer 20 = .ok (.iload_n 2, 1) := by decide +kernel
theorem dX11_answer_21 : decode cX11_answer 21 = .ok (.ishl, 1) := by decide +kernel
theorem dX11_answer_22 : decode cX11_answer 22 = .ok (.ior, 1) := by decide +kernel
theorem dX11_answer_23 : decode cX11_answer 23 = .ok (.istore_n 1, 1) := by decide +kernel
theorem dX11_answer_24 : decode cX11_answer 24 = .ok (.iinc 2 1, 3) := by decide +kernel
theorem dX11_answer_27 : decode cX11_answer 27 = .ok (.goto (-23), 3) := by decide +kernel
theorem dX11_answer_30 : decode cX11_answer 30 = .ok (.aload_n 0, 1) := by decide +kernel
theorem dX11_answer_31 : decode cX11_answer 31 = .ok (.getfield 88, 3) := by decide +kernel
theorem dX11_answer_34 : decode cX11_answer 34 = .ok (.iload_n 1, 1) := by decide +kernel
theorem dX11_answer_35 : decode cX11_answer 35 = .ok (.invokevirtual 310, 3) := by decide +kernel
theorem dX11_answer_38 : decode cX11_answer 38 = .ok (.aload_n 0, 1) := by decide +kernel
theorem dX11_answer_39 : decode cX11_answer 39 = .ok (.getfield 88, 3) := by decide +kernel
theorem dX11_answer_42 : decode cX11_answer 42 = .ok (.getfield 313, 3) := by decide +kernel
theorem dX11_answer_45 : decode cX11_answer 45 = .ok (.iconst 0, 1) := by decide +kernel
theorem dX11_answer_46 : decode cX11_answer 46 = .ok (.iaload, 1) := by decide +kernel
theorem dX11_answer_47 : decode cX11_answer 47 = .ok (.istore_n 2, 1) := by decide +kernel
theorem dX11_answer_48 : decode cX11_answer 48 = .ok (.iload_n 2, 1) := by decide +kernel
theorem dX11_answer_49 : decode cX11_answer 49 = .ok (.aload_n 0, 1) := by decide +kernel
theorem dX11_answer_50 : decode cX11_answer 50 = .ok (.getfield 88, 3) := by decide +kernel
theorem dX11_answer_53 : decode cX11_answer 53 = .ok (.getfield 313, 3) := by decide +kernel
theorem dX11_answer_56 : decode cX11_answer 56 = .ok (.arraylength, 1) := by decide +kernel
theorem dX11_answer_57 : decode cX11_answer 57 = .ok (.if_icmp .le 5, 3) := by decide +kernel
theorem dX11_answer_60 : decode cX11_answer 60 = .ok (.iconst (-1), 1) := by decide +kernel
theorem dX11_answer_61 : decode cX11_answer 61 = .ok (.ireturn, 1) := by decide +kernel
theorem dX11_answer_62 : decode cX11_answer 62 = .ok (.aload_n 0, 1) := by decide +kernel
theorem dX11_answer_63 : decode cX11_answer 63 = .ok (.getfield 88, 3) := by decide +kernel
theorem dX11_answer_66 : decode cX11_answer 66 = .ok (.iload_n 1, 1) := by decide +kernel
theorem dX11_answer_67 : decode cX11_answer 67 = .ok (.aload_n 0, 1) := by decide +kernel
theorem dX11_answer_68 : decode cX11_answer 68 = .ok (.getfield 66, 3) := by decide +kernel
theorem dX11_answer_71 : decode cX11_answer 71 = .ok (.invokevirtual 316, 3) := by decide +kernel
theorem dX11_answer_74 : decode cX11_answer 74 = .ok (.aload_n 0, 1) := by decide +kernel
theorem dX11_answer_75 : decode cX11_answer 75 = .ok (.iload_n 2, 1) := by decide +kernel
theorem dX11_answer_76 : decode cX11_answer 76 = .ok (.putfield 99, 3) := by decide +kernel
theorem dX11_answer_79 : decode cX11_answer 79 = .ok (.iload_n 2, 1) := by decide +kernel
theorem dX11_answer_80 : decode cX11_answer 80 = .ok (.ireturn, 1) := by decide +kernel
def E_X11_answer_4 (G : GT) (d : Nat) (h0 hb : PH) (l0 : Nat) (Q : Int32 → PH → Prop) (s : Int32 × Int32 × PH) : Prop := qEx hb s.2.2 ∧ qn s.2.2 = qn hb ∧ qz s.2.2 = qz hb → Ex G (qrm (7 + d) 0 0) mX11_answer (qn h0) (qz h0) (ZN G h0 0 0 (qqi Q)) 4 [(0, .ref l0), (1, .int s.1), (2, .int s.2.1)] [] s.2.2
def wb_X11_answer_4 (l0 : Nat)  (Q : Int32 → PH → Prop) (bk4 : Int32 × Int32 × PH → Prop) (l1 : Int32) (l2 : Int32) (h : PH) : Prop := ((7 ≤ l2 → (∃ b2, qR h l0 14 = some b2 ∧ (wp_X3_measure b2 l1 h (fun h4 => (∃ b6, qR h4 l0 14 = some b6 ∧ (∃ b8, qR h4 b6 1 = some b8 ∧ (vp_in 0 (qL h4 b8) ∧ ∀ v11 : Int32, v11 = qI h4 b8 (0 : Int32).toNatClampNeg → (∃ b12, qR h4 l0 14 = some b12 ∧ (∃ b14, qR h4 b12 1 = some b14 ∧ ((v11 ≤ (nI (qL h4 b14)) → (∃ b17, qR h4 l0 14 = some b17 ∧ (∃ b19, qR h4 l0 9 = some b19 ∧ (wp_X3_tellShortest b17 l1 b19 h4 (fun h21 => (∀ h23, h23 = qsI h21 l0 17 v11 → Q v11 h23)))))) ∧ (¬ (v11 ≤ (nI (qL h4 b14))) → Q (-1) h4))))))))))) ∧ (¬ (7 ≤ l2) → (wp_X11_isRight l0 l2 h (fun r25 h24 => ((r25 = 0 → ∀ v27 : Int32, v27 = l2 + 1 → bk4 (l1, v27, h24)) ∧ (¬ (r25 = 0) → ∀ v28 : Int32, v28 = l1 ||| (1 <<< (l2 &&& 31)) → ∀ v29 : Int32, v29 = l2 + 1 → bk4 (v28, v29, h24)))))))
def wp_X11_answer_4 (l0 : Nat)  (Q : Int32 → PH → Prop) (bk4 : Int32 × Int32 × PH → Prop) (s : Int32 × Int32 × PH) : Prop := wb_X11_answer_4 l0 Q bk4 s.1 s.2.1 s.2.2
set_option maxHeartbeats 4000000 in
set_option maxRecDepth 100000 in
theorem bd_X11_answer_4 (G : GT) (d : Nat) (h0 hb : PH) (l0 : Nat) (Q : Int32 → PH → Prop)  (hex : qEx h0 hb) (hnn : qn hb = qn h0 + 0) (hzz : qz hb = qz h0 + 0) (okl0 : qOK hb 10 l0) (bk4 : Int32 × Int32 × PH → Prop) (hbk4 : ∀ s2, bk4 s2 → E_X11_answer_4 G d h0 hb l0 Q s2) (l1 : Int32) (l2 : Int32) (h : PH) (hwp : wb_X11_answer_4 l0 Q bk4 l1 l2 h) (hx4 : qEx hb h) (hn4 : qn h = qn hb) (hz4 : qz h = qz hb) : Ex G (qrm (7 + d) 0 0) mX11_answer (qn h0) (qz h0) (ZN G h0 0 0 (qqi Q)) 4 [(0, .ref l0), (1, .int l1), (2, .int l2)] [] h := by
  unfold wb_X11_answer_4 at hwp
  have hex := hex.tr hx4
  have hnn := hn4.trans hnn
  have hzz := hz4.trans hzz
  have okl0 := okl0.ex hx4
  refine x_iload_n (pc := 4) dX11_answer_4 rfl ?_
  refine x_bipush (v := 7) (pc := 5) dX11_answer_5 (by decide) ?_
  refine x_icmp_ge (tgt := 30) (pc := 7) dX11_answer_7 (by decide) (fun c1 => ?_) (fun c1 => ?_)
  · have hwp := hwp.1 c1
    refine x_aload_n (pc := 30) dX11_answer_30 rfl ?_
    obtain ⟨b2, e3, hwp⟩ := hwp
    refine x_getR (pc := 31) dX11_answer_31 qRX11_88 okl0 e3 (fun okb2 => ?_)
    refine x_iload_n (pc := 34) dX11_answer_34 rfl ?_
    refine x_invV (As := [.int l1]) (st := []) (pc := 35) dX11_answer_35 lRX11_310 fX3_measure vX3_measure okb2 rfl (Nat.le_of_ble_eq_true rfl) (q_R (by omega) (by decide)) (q_C hnn hzz (by decide) (by decide)) (sn_X3_measure G (d + 4) b2 l1 h _ okb2 hwp) (k_v (fun h4 hwp cxh4 => ?_))
    have hex := hex.tr cxh4.1
    have hnn : qn h4 = qn h0 + 0 := by have := cxh4.2.1; omega
    have hzz : qz h4 = qz h0 + 0 := by have := cxh4.2.2; omega
    have hx4 := hx4.tr cxh4.1
    have hn4 : qn h4 = qn hb := by have := cxh4.2.1; omega
    have hz4 : qz h4 = qz hb := by have := cxh4.2.2; omega
    have okl0 := okl0.ex cxh4.1
    have okb2 := okb2.ex cxh4.1
    refine x_aload_n (pc := 38) dX11_answer_38 rfl ?_
    obtain ⟨b6, e7, hwp⟩ := hwp
    refine x_getR (pc := 39) dX11_answer_39 qRX11_88 okl0 e7 (fun okb6 => ?_)
    obtain ⟨b8, e9, hwp⟩ := hwp
    refine x_getR (pc := 42) dX11_answer_42 qRX11_313 okb6 e9 (fun okb8 => ?_)
    refine x_iconst (v := 0) (pc := 45) dX11_answer_45 (by decide) ?_
    obtain ⟨i10, hwp⟩ := hwp
    refine x_iaload (pc := 46) dX11_answer_46 okb8 i10 ?_
    refine x_nmI (fun v11 ev11 => ?_)
    have hwp := hwp v11 ev11
    refine x_istore_n (lv2 := [(2, .int v11), (0, .ref l0), (1, .int l1)]) (pc := 47) dX11_answer_47 (by decide) rfl ?_
    refine x_iload_n (pc := 48) dX11_answer_48 rfl ?_
    refine x_aload_n (pc := 49) dX11_answer_49 rfl ?_
    obtain ⟨b12, e13, hwp⟩ := hwp
    refine x_getR (pc := 50) dX11_answer_50 qRX11_88 okl0 e13 (fun okb12 => ?_)
    obtain ⟨b14, e15, hwp⟩ := hwp
    refine x_getR (pc := 53) dX11_answer_53 qRX11_313 okb12 e15 (fun okb14 => ?_)
    refine x_alen (pc := 56) dX11_answer_56 okb14 (by decide) ?_
    refine x_icmp_le (tgt := 62) (pc := 57) dX11_answer_57 (by decide) (fun c16 => ?_) (fun c16 => ?_)
    · have hwp := hwp.1 c16
      refine x_aload_n (pc := 62) dX11_answer_62 rfl ?_
      obtain ⟨b17, e18, hwp⟩ := hwp
      refine x_getR (pc := 63) dX11_answer_63 qRX11_88 okl0 e18 (fun okb17 => ?_)
      refine x_iload_n (pc := 66) dX11_answer_66 rfl ?_
      refine x_aload_n (pc := 67) dX11_answer_67 rfl ?_
      obtain ⟨b19, e20, hwp⟩ := hwp
      refine x_getR (pc := 68) dX11_answer_68 qRX11_66 okl0 e20 (fun okb19 => ?_)
      refine x_invV (As := [.int l1, .ref b19]) (st := []) (pc := 71) dX11_answer_71 lRX11_316 fX3_tellShortest vX3_tellShortest okb17 rfl (Nat.le_of_ble_eq_true rfl) (q_R (by omega) (by decide)) (q_C hnn hzz (by decide) (by decide)) (sn_X3_tellShortest G (d + 4) b17 l1 b19 h4 _ okb17 okb19 hwp) (k_v (fun h21 hwp cxh21 => ?_))
      have hex := hex.tr cxh21.1
      have hnn : qn h21 = qn h0 + 0 := by have := cxh21.2.1; omega
      have hzz : qz h21 = qz h0 + 0 := by have := cxh21.2.2; omega
      have hx4 := hx4.tr cxh21.1
      have hn4 : qn h21 = qn hb := by have := cxh21.2.1; omega
      have hz4 : qz h21 = qz hb := by have := cxh21.2.2; omega
      have okl0 := okl0.ex cxh21.1
      have okb2 := okb2.ex cxh21.1
      have okb6 := okb6.ex cxh21.1
      have okb8 := okb8.ex cxh21.1
      have okb12 := okb12.ex cxh21.1
      have okb14 := okb14.ex cxh21.1
      have okb17 := okb17.ex cxh21.1
      have okb19 := okb19.ex cxh21.1
      refine x_aload_n (pc := 74) dX11_answer_74 rfl ?_
      refine x_iload_n (pc := 75) dX11_answer_75 rfl ?_
      refine y_putI (pc := 76) dX11_answer_76 qRX11_99 okl0 (fun h23 eh23 nxh23 => ?_)
      have hwp := hwp h23 eh23
      have hex := hex.tr nxh23.1
      have hnn := nxh23.2.1.trans hnn
      have hzz := nxh23.2.2.trans hzz
      have hx4 := hx4.tr nxh23.1
      have hn4 := nxh23.2.1.trans hn4
      have hz4 := nxh23.2.2.trans hz4
      have okl0 := okl0.ex nxh23.1
      have okb2 := okb2.ex nxh23.1
      have okb6 := okb6.ex nxh23.1
      have okb8 := okb8.ex nxh23.1
      have okb12 := okb12.ex nxh23.1
      have okb14 := okb14.ex nxh23.1
      have okb17 := okb17.ex nxh23.1
      have okb19 := okb19.ex nxh23.1
      refine x_iload_n (pc := 79) dX11_answer_79 rfl ?_
      exact x_iret (pc := 80) dX11_answer_80 rfl hex hnn hzz ⟨_, rfl, hwp⟩
    · have hwp := hwp.2 c16
      refine x_iconst (v := (-1)) (pc := 60) dX11_answer_60 (by decide) ?_
      exact x_iret (pc := 61) dX11_answer_61 rfl hex hnn hzz ⟨_, rfl, hwp⟩
  · have hwp := hwp.2 c1
    refine x_aload_n (pc := 10) dX11_answer_10 rfl ?_
    refine x_iload_n (pc := 11) dX11_answer_11 rfl ?_
    refine x_invV (As := [.int l2]) (st := []) (pc := 12) dX11_answer_12 lRX11_307 fX11_isRight vX11_isRight okl0 rfl (Nat.le_of_ble_eq_true rfl) (q_R (by omega) (by decide)) (q_C hnn hzz (by decide) (by decide)) (sn_X11_isRight G (d + 0) l0 l2 h _ okl0 hwp) (k_b (fun r25 h24 hwp zbr25 cxh24 => ?_))
    have hex := hex.tr cxh24.1
    have hnn : qn h24 = qn h0 + 0 := by have := cxh24.2.1; omega
    have hzz : qz h24 = qz h0 + 0 := by have := cxh24.2.2; omega
    have hx4 := hx4.tr cxh24.1
    have hn4 : qn h24 = qn hb := by have := cxh24.2.1; omega
    have hz4 : qz h24 = qz hb := by have := cxh24.2.2; omega
    have okl0 := okl0.ex cxh24.1
    refine x_if_eq (tgt := 24) (pc := 15) dX11_answer_15 (by decide) (fun c26 => ?_) (fun c26 => ?_)
    · have hwp := hwp.1 c26
      refine y_iinc (c := 1) (pc := 24) dX11_answer_24 rfl (by decide) (by decide) (fun v27 ev27 => ?_)
      have hwp := hwp v27 ev27
      refine x_lvE (lv2 := [(2, .int v27), (0, .ref l0), (1, .int l1)]) rfl ?_
      refine x_goto (tgt := 4) (pc := 27) dX11_answer_27 (by decide) ?_
      refine x_sub [1, 2, 0] rfl ?_
      exact hbk4 _ hwp ⟨hx4, hn4, hz4⟩
    · have hwp := hwp.2 c26
      refine x_iload_n (pc := 18) dX11_answer_18 rfl ?_
      refine x_iconst (v := 1) (pc := 19) dX11_answer_19 (by decide) ?_
      refine x_iload_n (pc := 20) dX11_answer_20 rfl ?_
      refine x_ishl (pc := 21) dX11_answer_21 ?_
      refine x_ior (pc := 22) dX11_answer_22 ?_
      refine x_nmI (fun v28 ev28 => ?_)
      have hwp := hwp v28 ev28
      refine x_istore_n (lv2 := [(1, .int v28), (0, .ref l0), (2, .int l2)]) (pc := 23) dX11_answer_23 (by decide) rfl ?_
      refine y_iinc (c := 1) (pc := 24) dX11_answer_24 rfl (by decide) (by decide) (fun v29 ev29 => ?_)
      have hwp := hwp v29 ev29
      refine x_lvE (lv2 := [(2, .int v29), (1, .int v28), (0, .ref l0)]) rfl ?_
      refine x_goto (tgt := 4) (pc := 27) dX11_answer_27 (by decide) ?_
      refine x_sub [2, 1, 0] rfl ?_
      exact hbk4 _ hwp ⟨hx4, hn4, hz4⟩
theorem lp_X11_answer_4 (G : GT) (d : Nat) (h0 hb : PH) (l0 : Nat) (Q : Int32 → PH → Prop)  (hex : qEx h0 hb) (hnn : qn hb = qn h0 + 0) (hzz : qz hb = qz h0 + 0) (okl0 : qOK hb 10 l0) {s : Int32 × Int32 × PH} (hwp : qLoop (wp_X11_answer_4 l0 Q) s) : E_X11_answer_4 G d h0 hb l0 Q s :=
  qLoop.use (E := E_X11_answer_4 G d h0 hb l0 Q) (fun back s hbk hw hx => bd_X11_answer_4 G d h0 hb l0 Q hex hnn hzz okl0 back hbk s.1 s.2.1 s.2.2 hw hx.1 hx.2.1 hx.2.2) hwp
def wp_X11_answer (l0 : Nat) (h : PH) (Q : Int32 → PH → Prop) : Prop := (qLoop (wp_X11_answer_4 l0 Q) (0, 0, h))
set_option maxHeartbeats 4000000 in
set_option maxRecDepth 100000 in
theorem sn_X11_answer (G : GT) (d : Nat) (l0 : Nat) (h : PH) (Q : Int32 → PH → Prop) (okl0 : qOK h 10 l0) (hwp : wp_X11_answer l0 h Q) : Mt G (7 + d) 0 0 mX11_answer [.ref l0] h (qqi Q) := by
  unfold wp_X11_answer at hwp
  refine Mt.of (by decide) rfl (Nat.le_of_ble_eq_true rfl) ?_
  have hex := qEx.rf h
  have hnn : qn h = qn h + 0 := rfl
  have hzz : qz h = qz h + 0 := rfl
  refine x_lvE (lv2 := [(0, .ref l0)]) rfl ?_
  refine x_iconst (v := 0) (pc := 0) dX11_answer_0 (by decide) ?_
  refine x_istore_n (lv2 := [(1, .int 0), (0, .ref l0)]) (pc := 1) dX11_answer_1 (by decide) rfl ?_
  refine x_iconst (v := 0) (pc := 2) dX11_answer_2 (by decide) ?_
  refine x_istore_n (lv2 := [(2, .int 0), (1, .int 0), (0, .ref l0)]) (pc := 3) dX11_answer_3 (by decide) rfl ?_
  refine x_sub [2, 1, 0] rfl ?_
  exact lp_X11_answer_4 G d h h l0 Q hex hnn hzz okl0 hwp ⟨qEx.rf _, rfl, rfl⟩

theorem dX11_answerAt_0 : decode cX11_answerAt 0 = .ok (.iload_n 1, 1) := by decide +kernel
theorem dX11_answerAt_1 : decode cX11_answerAt 1 = .ok (.ifCond .lt 20, 3) := by decide +kernel
theorem dX11_answerAt_4 : decode cX11_answerAt 4 = .ok (.iload_n 1, 1) := by decide +kernel
theorem dX11_answerAt_5 : decode cX11_answerAt 5 = .ok (.aload_n 0, 1) := by decide +kernel
theorem dX11_answerAt_6 : decode cX11_answerAt 6 = .ok (.getfield 99, 3) := by decide +kernel
theorem dX11_answerAt_9 : decode cX11_answerAt 9 = .ok (.if_icmp .ge 12, 3) := by decide +kernel
theorem dX11_answerAt_12 : decode cX11_answerAt 12 = .ok (.aload_n 0, 1) := by decide +kernel
theorem dX11_answerAt_13 : decode cX11_answerAt 13 = .ok (.getfield 66, 3) := by decide +kernel
theorem dX11_answerAt_16 : decode cX11_answerAt 16 = .ok (.iload_n 1, 1) := by decide +kernel
theorem dX11_answerAt_17 : decode cX11_answerAt 17 = .ok (.iaload, 1) := by decide +kernel
theorem dX11_answerAt_18 : decode cX11_answerAt 18 = .ok (.goto 4, 3) := by decide +kernel
theorem dX11_answerAt_21 : decode cX11_answerAt 21 = .ok (.iconst (-1), 1) := by decide +kernel
theorem dX11_answerAt_22 : decode cX11_answerAt 22 = .ok (.ireturn, 1) := by decide +kernel
def wp_X11_answerAt (l0 : Nat) (l1 : Int32) (h : PH) (Q : Int32 → PH → Prop) : Prop := ((l1 < 0 → Q (-1) h) ∧ (¬ (l1 < 0) → (((qI h l0 17) ≤ l1 → Q (-1) h) ∧ (¬ ((qI h l0 17) ≤ l1) → (∃ b3, qR h l0 9 = some b3 ∧ (vp_in l1 (qL h b3) ∧ Q (qI h b3 l1.toNatClampNeg) h))))))
set_option maxHeartbeats 4000000 in
set_option maxRecDepth 100000 in
theorem sn_X11_answerAt (G : GT) (d : Nat) (l0 : Nat) (l1 : Int32) (h : PH) (Q : Int32 → PH → Prop) (okl0 : qOK h 10 l0) (hwp : wp_X11_answerAt l0 l1 h Q) : Mt G (0 + d) 0 0 mX11_answerAt [.ref l0, .int l1] h (qqi Q) := by
  unfold wp_X11_answerAt at hwp
  refine Mt.of (by decide) rfl (Nat.le_of_ble_eq_true rfl) ?_
  have hex := qEx.rf h
  have hnn : qn h = qn h + 0 := rfl
  have hzz : qz h = qz h + 0 := rfl
  refine x_lvE (lv2 := [(0, .ref l0), (1, .int l1)]) rfl ?_
  refine x_iload_n (pc := 0) dX11_answerAt_0 rfl ?_
  refine x_if_lt (tgt := 21) (pc := 1) dX11_answerAt_1 (by decide) (fun c1 => ?_) (fun c1 => ?_)
  · have hwp := hwp.1 c1
    refine x_iconst (v := (-1)) (pc := 21) dX11_answerAt_21 (by decide) ?_
    exact x_iret (pc := 22) dX11_answerAt_22 rfl hex hnn hzz ⟨_, rfl, hwp⟩
  · have hwp := hwp.2 c1
    refine x_iload_n (pc := 4) dX11_answerAt_4 rfl ?_
    refine x_aload_n (pc := 5) dX11_answerAt_5 rfl ?_
    refine x_getI (pc := 6) dX11_answerAt_6 qRX11_99 okl0 (by decide) ?_
    refine x_icmp_ge (tgt := 21) (pc := 9) dX11_answerAt_9 (by decide) (fun c2 => ?_) (fun c2 => ?_)
    · have hwp := hwp.1 c2
      refine x_iconst (v := (-1)) (pc := 21) dX11_answerAt_21 (by decide) ?_
      exact x_iret (pc := 22) dX11_answerAt_22 rfl hex hnn hzz ⟨_, rfl, hwp⟩
    · have hwp := hwp.2 c2
      refine x_aload_n (pc := 12) dX11_answerAt_12 rfl ?_
      obtain ⟨b3, e4, hwp⟩ := hwp
      refine x_getR (pc := 13) dX11_answerAt_13 qRX11_66 okl0 e4 (fun okb3 => ?_)
      refine x_iload_n (pc := 16) dX11_answerAt_16 rfl ?_
      obtain ⟨i5, hwp⟩ := hwp
      refine x_iaload (pc := 17) dX11_answerAt_17 okb3 i5 ?_
      refine x_goto (tgt := 22) (pc := 18) dX11_answerAt_18 (by decide) ?_
      exact x_iret (pc := 22) dX11_answerAt_22 rfl hex hnn hzz ⟨_, rfl, hwp⟩

theorem dX11_keptDrawings_0 : decode cX11_keptDrawings 0 = .ok (.iconst 0, 1) := by decide +kernel
theorem dX11_keptDrawings_1 : decode cX11_keptDrawings 1 = .ok (.istore_n 1, 1) := by decide +kernel
theorem dX11_keptDrawings_2 : decode cX11_keptDrawings 2 = .ok (.iconst 0, 1) := by decide +kernel
theorem dX11_keptDrawings_3 : decode cX11_keptDrawings 3 = .ok (.istore_n 2, 1) := by decide +kernel
theorem dX11_keptDrawings_4 : decode cX11_keptDrawings 4 = .ok (.iload_n 2, 1) := by decide +kernel
theorem dX11_keptDrawings_5 : decode cX11_keptDrawings 5 = .ok (.aload_n 0, 1) := by decide +kernel
theorem dX11_keptDrawings_6 : decode cX11_keptDrawings 6 = .ok (.getfield 56, 3) := by decide +kernel
theorem dX11_keptDrawings_9 : decode cX11_keptDrawings 9 = .ok (.arraylength, 1) := by decide +kernel
theorem dX11_keptDrawings_10 : decode cX11_keptDrawings 10 = .ok (.if_icmp .ge 21, 3) := by decide +kernel
theorem dX11_keptDrawings_13 : decode cX11_keptDrawings 13 = .ok (.aload_n 0, 1) := by decide +kernel
theorem dX11_keptDrawings_14 : decode cX11_keptDrawings 14 = .ok (.getfield 56, 3) := by decide +kernel
theorem dX11_keptDrawings_17 : decode cX11_keptDrawings 17 = .ok (.iload_n 2, 1) := by decide +kernel
theorem dX11_keptDrawings_18 : decode cX11_keptDrawings 18 = .ok (.aaload, 1) := by decide +kernel
theorem dX11_keptDrawings_19 : decode cX11_keptDrawings 19 = .ok (.ifnull 6, 3) := by decide +kernel
theorem dX11_keptDrawings_22 : decode cX11_keptDrawings 22 = .ok (.iinc 1 1, 3) := by decide +kernel
theorem dX11_keptDrawings_25 : decode cX11_keptDrawings 25 = .ok (.iinc 2 1, 3) := by decide +kernel
theorem dX11_keptDrawings_28 : decode cX11_keptDrawings 28 = .ok (.goto (-24), 3) := by decide +kernel
theorem dX11_keptDrawings_31 : decode cX11_keptDrawings 31 = .ok (.iload_n 1, 1) := by decide +kernel
theorem dX11_keptDrawings_32 : decode cX11_keptDrawings 32 = .ok (.ireturn, 1) := by decide +kernel
def E_X11_keptDrawings_4 (G : GT) (d : Nat) (h0 hb : PH) (l0 : Nat) (Q : Int32 → PH → Prop) (s : Int32 × Int32 × PH) : Prop := qEx hb s.2.2 ∧ qn s.2.2 = qn hb ∧ qz s.2.2 = qz hb → Ex G (qrm (0 + d) 0 0) mX11_keptDrawings (qn h0) (qz h0) (ZN G h0 0 0 (qqi Q)) 4 [(0, .ref l0), (1, .int s.1), (2, .int s.2.1)] [] s.2.2
def wb_X11_keptDrawings_4 (l0 : Nat)  (Q : Int32 → PH → Prop) (bk4 : Int32 × Int32 × PH → Prop) (l1 : Int32) (l2 : Int32) (h : PH) : Prop := (∃ b1, qR h l0 7 = some b1 ∧ (((nI (qL h b1)) ≤ l2 → Q l1 h) ∧ (¬ ((nI (qL h b1)) ≤ l2) → (∃ b4, qR h l0 7 = some b4 ∧ (vp_in l2 (qL h b4) ∧ ∀ o7, o7 = qR h b4 l2.toNatClampNeg → ((o7 = none → ∀ v11 : Int32, v11 = l2 + 1 → bk4 (l1, v11, h)) ∧ (∀ b10 : Nat, o7 = some b10 → ∀ v12 : Int32, v12 = l1 + 1 → ∀ v13 : Int32, v13 = l2 + 1 → bk4 (v12, v13, h))))))))
def wp_X11_keptDrawings_4 (l0 : Nat)  (Q : Int32 → PH → Prop) (bk4 : Int32 × Int32 × PH → Prop) (s : Int32 × Int32 × PH) : Prop := wb_X11_keptDrawings_4 l0 Q bk4 s.1 s.2.1 s.2.2
set_option maxHeartbeats 4000000 in
set_option maxRecDepth 100000 in
theorem bd_X11_keptDrawings_4 (G : GT) (d : Nat) (h0 hb : PH) (l0 : Nat) (Q : Int32 → PH → Prop)  (hex : qEx h0 hb) (hnn : qn hb = qn h0 + 0) (hzz : qz hb = qz h0 + 0) (okl0 : qOK hb 10 l0) (bk4 : Int32 × Int32 × PH → Prop) (hbk4 : ∀ s2, bk4 s2 → E_X11_keptDrawings_4 G d h0 hb l0 Q s2) (l1 : Int32) (l2 : Int32) (h : PH) (hwp : wb_X11_keptDrawings_4 l0 Q bk4 l1 l2 h) (hx4 : qEx hb h) (hn4 : qn h = qn hb) (hz4 : qz h = qz hb) : Ex G (qrm (0 + d) 0 0) mX11_keptDrawings (qn h0) (qz h0) (ZN G h0 0 0 (qqi Q)) 4 [(0, .ref l0), (1, .int l1), (2, .int l2)] [] h := by
  unfold wb_X11_keptDrawings_4 at hwp
  have hex := hex.tr hx4
  have hnn := hn4.trans hnn
  have hzz := hz4.trans hzz
  have okl0 := okl0.ex hx4
  refine x_iload_n (pc := 4) dX11_keptDrawings_4 rfl ?_
  refine x_aload_n (pc := 5) dX11_keptDrawings_5 rfl ?_
  obtain ⟨b1, e2, hwp⟩ := hwp
  refine x_getR (pc := 6) dX11_keptDrawings_6 qRX11_56 okl0 e2 (fun okb1 => ?_)
  refine x_alen (pc := 9) dX11_keptDrawings_9 okb1 (by decide) ?_
  refine x_icmp_ge (tgt := 31) (pc := 10) dX11_keptDrawings_10 (by decide) (fun c3 => ?_) (fun c3 => ?_)
  · have hwp := hwp.1 c3
    refine x_iload_n (pc := 31) dX11_keptDrawings_31 rfl ?_
    exact x_iret (pc := 32) dX11_keptDrawings_32 rfl hex hnn hzz ⟨_, rfl, hwp⟩
  · have hwp := hwp.2 c3
    refine x_aload_n (pc := 13) dX11_keptDrawings_13 rfl ?_
    obtain ⟨b4, e5, hwp⟩ := hwp
    refine x_getR (pc := 14) dX11_keptDrawings_14 qRX11_56 okl0 e5 (fun okb4 => ?_)
    refine x_iload_n (pc := 17) dX11_keptDrawings_17 rfl ?_
    obtain ⟨i6, hwp⟩ := hwp
    refine x_aaloadq (t := 17) (pc := 18) dX11_keptDrawings_18 okb4 (Or.inl rfl) i6 (fun okqo7 => ?_)
    refine x_nmQ (fun o7 e8 => ?_)
    have hwp := hwp o7 e8
    rw [← e8] at okqo7
    refine x_ifnull (tgt := 25) (pc := 19) dX11_keptDrawings_19 (by decide) (fun c9 => ?_) (fun b10 c9 => ?_)
    · have hwp := hwp.1 c9
      refine y_iinc (c := 1) (pc := 25) dX11_keptDrawings_25 rfl (by decide) (by decide) (fun v11 ev11 => ?_)
      have hwp := hwp v11 ev11
      refine x_lvE (lv2 := [(2, .int v11), (0, .ref l0), (1, .int l1)]) rfl ?_
      refine x_goto (tgt := 4) (pc := 28) dX11_keptDrawings_28 (by decide) ?_
      refine x_sub [1, 2, 0] rfl ?_
      exact hbk4 _ hwp ⟨hx4, hn4, hz4⟩
    · have hwp := hwp.2 b10 c9
      refine y_iinc (c := 1) (pc := 22) dX11_keptDrawings_22 rfl (by decide) (by decide) (fun v12 ev12 => ?_)
      have hwp := hwp v12 ev12
      refine x_lvE (lv2 := [(1, .int v12), (0, .ref l0), (2, .int l2)]) rfl ?_
      refine y_iinc (c := 1) (pc := 25) dX11_keptDrawings_25 rfl (by decide) (by decide) (fun v13 ev13 => ?_)
      have hwp := hwp v13 ev13
      refine x_lvE (lv2 := [(2, .int v13), (1, .int v12), (0, .ref l0)]) rfl ?_
      refine x_goto (tgt := 4) (pc := 28) dX11_keptDrawings_28 (by decide) ?_
      refine x_sub [2, 1, 0] rfl ?_
      exact hbk4 _ hwp ⟨hx4, hn4, hz4⟩
theorem lp_X11_keptDrawings_4 (G : GT) (d : Nat) (h0 hb : PH) (l0 : Nat) (Q : Int32 → PH → Prop)  (hex : qEx h0 hb) (hnn : qn hb = qn h0 + 0) (hzz : qz hb = qz h0 + 0) (okl0 : qOK hb 10 l0) {s : Int32 × Int32 × PH} (hwp : qLoop (wp_X11_keptDrawings_4 l0 Q) s) : E_X11_keptDrawings_4 G d h0 hb l0 Q s :=
  qLoop.use (E := E_X11_keptDrawings_4 G d h0 hb l0 Q) (fun back s hbk hw hx => bd_X11_keptDrawings_4 G d h0 hb l0 Q hex hnn hzz okl0 back hbk s.1 s.2.1 s.2.2 hw hx.1 hx.2.1 hx.2.2) hwp
def wp_X11_keptDrawings (l0 : Nat) (h : PH) (Q : Int32 → PH → Prop) : Prop := (qLoop (wp_X11_keptDrawings_4 l0 Q) (0, 0, h))
set_option maxHeartbeats 4000000 in
set_option maxRecDepth 100000 in
theorem sn_X11_keptDrawings (G : GT) (d : Nat) (l0 : Nat) (h : PH) (Q : Int32 → PH → Prop) (okl0 : qOK h 10 l0) (hwp : wp_X11_keptDrawings l0 h Q) : Mt G (0 + d) 0 0 mX11_keptDrawings [.ref l0] h (qqi Q) := by
  unfold wp_X11_keptDrawings at hwp
  refine Mt.of (by decide) rfl (Nat.le_of_ble_eq_true rfl) ?_
  have hex := qEx.rf h
  have hnn : qn h = qn h + 0 := rfl
  have hzz : qz h = qz h + 0 := rfl
  refine x_lvE (lv2 := [(0, .ref l0)]) rfl ?_
  refine x_iconst (v := 0) (pc := 0) dX11_keptDrawings_0 (by decide) ?_
  refine x_istore_n (lv2 := [(1, .int 0), (0, .ref l0)]) (pc := 1) dX11_keptDrawings_1 (by decide) rfl ?_
  refine x_iconst (v := 0) (pc := 2) dX11_keptDrawings_2 (by decide) ?_
  refine x_istore_n (lv2 := [(2, .int 0), (1, .int 0), (0, .ref l0)]) (pc := 3) dX11_keptDrawings_3 (by decide) rfl ?_
  refine x_sub [2, 1, 0] rfl ?_
  exact lp_X11_keptDrawings_4 G d h h l0 Q hex hnn hzz okl0 hwp ⟨qEx.rf _, rfl, rfl⟩

theorem dX11_count_0 : decode cX11_count 0 = .ok (.iload_n 1, 1) := by decide +kernel
theorem dX11_count_1 : decode cX11_count 1 = .ok (.tableswitch 72 0 4 #[35, 43, 51, 59, 64], 35) := by decide +kernel
theorem dX11_count_36 : decode cX11_count 36 = .ok (.aload_n 0, 1) := by decide +kernel
theorem dX11_count_37 : decode cX11_count 37 = .ok (.getfield 70, 3) := by decide +kernel
theorem dX11_count_40 : decode cX11_count 40 = .ok (.getfield 124, 3) := by decide +kernel
theorem dX11_count_43 : decode cX11_count 43 = .ok (.ireturn, 1) := by decide +kernel
theorem dX11_count_44 : decode cX11_count 44 = .ok (.aload_n 0, 1) := by decide +kernel
theorem dX11_count_45 : decode cX11_count 45 = .ok (.getfield 70, 3) := by decide +kernel
theorem dX11_count_48 : decode cX11_count 48 = .ok (.getfield 148, 3) := by decide +kernel
theorem dX11_count_51 : decode cX11_count 51 = .ok (.ireturn, 1) := by decide +kernel
theorem dX11_count_52 : decode cX11_count 52 = .ok (.aload_n 0, 1) := by decide +kernel
theorem dX11_count_53 : decode cX11_count 53 = .ok (.getfield 70, 3) := by decide +kernel
theorem dX11_count_56 : decode cX11_count 56 = .ok (.getfield 320, 3) := by decide +kernel
theorem dX11_count_59 : decode cX11_count 59 = .ok (.ireturn, 1) := by decide +kernel
theorem dX11_count_60 : decode cX11_count 60 = .ok (.aload_n 0, 1) := by decide +kernel
theorem dX11_count_61 : decode cX11_count 61 = .ok (.invokevirtual 323, 3) := by decide +kernel
theorem dX11_count_64 : decode cX11_count 64 = .ok (.ireturn, 1) := by decide +kernel
theorem dX11_count_65 : decode cX11_count 65 = .ok (.aload_n 0, 1) := by decide +kernel
theorem dX11_count_66 : decode cX11_count 66 = .ok (.getfield 10, 3) := by decide +kernel
theorem dX11_count_69 : decode cX11_count 69 = .ok (.getfield 102, 3) := by decide +kernel
theorem dX11_count_72 : decode cX11_count 72 = .ok (.ireturn, 1) := by decide +kernel
theorem dX11_count_73 : decode cX11_count 73 = .ok (.iconst (-1), 1) := by decide +kernel
theorem dX11_count_74 : decode cX11_count 74 = .ok (.ireturn, 1) := by decide +kernel
def wp_X11_count (l0 : Nat) (l1 : Int32) (h : PH) (Q : Int32 → PH → Prop) : Prop := ((l1 = 0 → (∃ b2, qR h l0 10 = some b2 ∧ Q (qI h b2 1) h)) ∧ (l1 = 1 → (∃ b5, qR h l0 10 = some b5 ∧ Q (qI h b5 2) h)) ∧ (l1 = 2 → (∃ b8, qR h l0 10 = some b8 ∧ Q (qI h b8 3) h)) ∧ (l1 = 3 → (wp_X11_keptDrawings l0 h (fun r12 h11 => Q r12 h11))) ∧ (l1 = 4 → (∃ b14, qR h l0 0 = some b14 ∧ Q (qI h b14 1) h)) ∧ (¬ l1 = 0 → ¬ l1 = 1 → ¬ l1 = 2 → ¬ l1 = 3 → ¬ l1 = 4 → Q (-1) h))
set_option maxHeartbeats 4000000 in
set_option maxRecDepth 100000 in
theorem sn_X11_count (G : GT) (d : Nat) (l0 : Nat) (l1 : Int32) (h : PH) (Q : Int32 → PH → Prop) (okl0 : qOK h 10 l0) (hwp : wp_X11_count l0 l1 h Q) : Mt G (1 + d) 0 0 mX11_count [.ref l0, .int l1] h (qqi Q) := by
  unfold wp_X11_count at hwp
  refine Mt.of (by decide) rfl (Nat.le_of_ble_eq_true rfl) ?_
  have hex := qEx.rf h
  have hnn : qn h = qn h + 0 := rfl
  have hzz : qz h = qz h + 0 := rfl
  refine x_lvE (lv2 := [(0, .ref l0), (1, .int l1)]) rfl ?_
  refine x_iload_n (pc := 0) dX11_count_0 rfl ?_
  by_cases c1 : l1 = 0
  · have hwp := hwp.1 c1
    refine x_tabIn (tgt := 36) (pc := 1) dX11_count_1 (by rw [q_teq c1 (n := 0) (by decide)]; decide) (by rw [q_teq c1 (n := 0) (by decide)]; decide) (by rw [q_teq c1 (n := 0) (by decide)]; rfl) (by decide) ?_
    refine x_aload_n (pc := 36) dX11_count_36 rfl ?_
    obtain ⟨b2, e3, hwp⟩ := hwp
    refine x_getR (pc := 37) dX11_count_37 qRX11_70 okl0 e3 (fun okb2 => ?_)
    refine x_getI (pc := 40) dX11_count_40 qRX11_124 okb2 (by decide) ?_
    exact x_iret (pc := 43) dX11_count_43 rfl hex hnn hzz ⟨_, rfl, hwp⟩
  by_cases c4 : l1 = 1
  · have hwp := hwp.2.1 c4
    refine x_tabIn (tgt := 44) (pc := 1) dX11_count_1 (by rw [q_teq c4 (n := 1) (by decide)]; decide) (by rw [q_teq c4 (n := 1) (by decide)]; decide) (by rw [q_teq c4 (n := 1) (by decide)]; rfl) (by decide) ?_
    refine x_aload_n (pc := 44) dX11_count_44 rfl ?_
    obtain ⟨b5, e6, hwp⟩ := hwp
    refine x_getR (pc := 45) dX11_count_45 qRX11_70 okl0 e6 (fun okb5 => ?_)
    refine x_getI (pc := 48) dX11_count_48 qRX11_148 okb5 (by decide) ?_
    exact x_iret (pc := 51) dX11_count_51 rfl hex hnn hzz ⟨_, rfl, hwp⟩
  by_cases c7 : l1 = 2
  · have hwp := hwp.2.2.1 c7
    refine x_tabIn (tgt := 52) (pc := 1) dX11_count_1 (by rw [q_teq c7 (n := 2) (by decide)]; decide) (by rw [q_teq c7 (n := 2) (by decide)]; decide) (by rw [q_teq c7 (n := 2) (by decide)]; rfl) (by decide) ?_
    refine x_aload_n (pc := 52) dX11_count_52 rfl ?_
    obtain ⟨b8, e9, hwp⟩ := hwp
    refine x_getR (pc := 53) dX11_count_53 qRX11_70 okl0 e9 (fun okb8 => ?_)
    refine x_getI (pc := 56) dX11_count_56 qRX11_320 okb8 (by decide) ?_
    exact x_iret (pc := 59) dX11_count_59 rfl hex hnn hzz ⟨_, rfl, hwp⟩
  by_cases c10 : l1 = 3
  · have hwp := hwp.2.2.2.1 c10
    refine x_tabIn (tgt := 60) (pc := 1) dX11_count_1 (by rw [q_teq c10 (n := 3) (by decide)]; decide) (by rw [q_teq c10 (n := 3) (by decide)]; decide) (by rw [q_teq c10 (n := 3) (by decide)]; rfl) (by decide) ?_
    refine x_aload_n (pc := 60) dX11_count_60 rfl ?_
    refine x_invV (As := []) (st := []) (pc := 61) dX11_count_61 lRX11_323 fX11_keptDrawings vX11_keptDrawings okl0 rfl (Nat.le_of_ble_eq_true rfl) (q_R (by omega) (by decide)) (q_C hnn hzz (by decide) (by decide)) (sn_X11_keptDrawings G (d + 0) l0 h _ okl0 hwp) (k_i (fun r12 h11 hwp cxh11 => ?_))
    have hex := hex.tr cxh11.1
    have hnn : qn h11 = qn h + 0 := by have := cxh11.2.1; omega
    have hzz : qz h11 = qz h + 0 := by have := cxh11.2.2; omega
    have okl0 := okl0.ex cxh11.1
    exact x_iret (pc := 64) dX11_count_64 rfl hex hnn hzz ⟨_, rfl, hwp⟩
  by_cases c13 : l1 = 4
  · have hwp := hwp.2.2.2.2.1 c13
    refine x_tabIn (tgt := 65) (pc := 1) dX11_count_1 (by rw [q_teq c13 (n := 4) (by decide)]; decide) (by rw [q_teq c13 (n := 4) (by decide)]; decide) (by rw [q_teq c13 (n := 4) (by decide)]; rfl) (by decide) ?_
    refine x_aload_n (pc := 65) dX11_count_65 rfl ?_
    obtain ⟨b14, e15, hwp⟩ := hwp
    refine x_getR (pc := 66) dX11_count_66 qRX11_10 okl0 e15 (fun okb14 => ?_)
    refine x_getI (pc := 69) dX11_count_69 qRX11_102 okb14 (by decide) ?_
    exact x_iret (pc := 72) dX11_count_72 rfl hex hnn hzz ⟨_, rfl, hwp⟩
  have hwp := hwp.2.2.2.2.2 c1 c4 c7 c10 c13
  refine x_tabOut (tgt := 73) (pc := 1) dX11_count_1 (by have := q_tne c1 (n := 0) (by decide); have := q_tne c4 (n := 1) (by decide); have := q_tne c7 (n := 2) (by decide); have := q_tne c10 (n := 3) (by decide); have := q_tne c13 (n := 4) (by decide); omega) (by decide) ?_
  refine x_iconst (v := (-1)) (pc := 73) dX11_count_73 (by decide) ?_
  exact x_iret (pc := 74) dX11_count_74 rfl hex hnn hzz ⟨_, rfl, hwp⟩

theorem dX12_init_0 : decode cX12_init 0 = .ok (.aload_n 0, 1) := by decide +kernel
theorem dX12_init_1 : decode cX12_init 1 = .ok (.invokespecial 1, 3) := by decide +kernel
theorem dX12_init_4 : decode cX12_init 4 = .ok (.aload_n 0, 1) := by decide +kernel
theorem dX12_init_5 : decode cX12_init 5 = .ok (.sipush 640, 3) := by decide +kernel
theorem dX12_init_8 : decode cX12_init 8 = .ok (.newarray .int, 2) := by decide +kernel
theorem dX12_init_10 : decode cX12_init 10 = .ok (.putfield 7, 3) := by decide +kernel
theorem dX12_init_13 : decode cX12_init 13 = .ok (.aload_n 0, 1) := by decide +kernel
theorem dX12_init_14 : decode cX12_init 14 = .ok (.bipush 8, 2) := by decide +kernel
theorem dX12_init_16 : decode cX12_init 16 = .ok (.newarray .int, 2) := by decide +kernel
theorem dX12_init_18 : decode cX12_init 18 = .ok (.putfield 13, 3) := by decide +kernel
theorem dX12_init_21 : decode cX12_init 21 = .ok (.aload_n 0, 1) := by decide +kernel
theorem dX12_init_22 : decode cX12_init 22 = .ok (.bipush 8, 2) := by decide +kernel
theorem dX12_init_24 : decode cX12_init 24 = .ok (.newarray .int, 2) := by decide +kernel
theorem dX12_init_26 : decode cX12_init 26 = .ok (.putfield 16, 3) := by decide +kernel
theorem dX12_init_29 : decode cX12_init 29 = .ok (.aload_n 0, 1) := by decide +kernel
theorem dX12_init_30 : decode cX12_init 30 = .ok (.bipush 8, 2) := by decide +kernel
theorem dX12_init_32 : decode cX12_init 32 = .ok (.newarray .int, 2) := by decide +kernel
theorem dX12_init_34 : decode cX12_init 34 = .ok (.putfield 19, 3) := by decide +kernel
theorem dX12_init_37 : decode cX12_init 37 = .ok (.aload_n 0, 1) := by decide +kernel
theorem dX12_init_38 : decode cX12_init 38 = .ok (.sipush 768, 3) := by decide +kernel
theorem dX12_init_41 : decode cX12_init 41 = .ok (.newarray .int, 2) := by decide +kernel
theorem dX12_init_43 : decode cX12_init 43 = .ok (.putfield 22, 3) := by decide +kernel
theorem dX12_init_46 : decode cX12_init 46 = .ok (.aload_n 0, 1) := by decide +kernel
theorem dX12_init_47 : decode cX12_init 47 = .ok (.bipush 12, 2) := by decide +kernel
theorem dX12_init_49 : decode cX12_init 49 = .ok (.newarray .long, 2) := by decide +kernel
theorem dX12_init_51 : decode cX12_init 51 = .ok (.putfield 25, 3) := by decide +kernel
theorem dX12_init_54 : decode cX12_init 54 = .ok (.aload_n 0, 1) := by decide +kernel
theorem dX12_init_55 : decode cX12_init 55 = .ok (.bipush 6, 2) := by decide +kernel
theorem dX12_init_57 : decode cX12_init 57 = .ok (.newarray .boolean, 2) := by decide +kernel
theorem dX12_init_59 : decode cX12_init 59 = .ok (.putfield 29, 3) := by decide +kernel
theorem dX12_init_62 : decode cX12_init 62 = .ok (.aload_n 0, 1) := by decide +kernel
theorem dX12_init_63 : decode cX12_init 63 = .ok (.bipush 48, 2) := by decide +kernel
theorem dX12_init_65 : decode cX12_init 65 = .ok (.newarray .int, 2) := by decide +kernel
theorem dX12_init_67 : decode cX12_init 67 = .ok (.putfield 33, 3) := by decide +kernel
theorem dX12_init_70 : decode cX12_init 70 = .ok (.aload_n 0, 1) := by decide +kernel
theorem dX12_init_71 : decode cX12_init 71 = .ok (.bipush 48, 2) := by decide +kernel
theorem dX12_init_73 : decode cX12_init 73 = .ok (.newarray .int, 2) := by decide +kernel
theorem dX12_init_75 : decode cX12_init 75 = .ok (.putfield 36, 3) := by decide +kernel
theorem dX12_init_78 : decode cX12_init 78 = .ok (.aload_n 0, 1) := by decide +kernel
theorem dX12_init_79 : decode cX12_init 79 = .ok (.bipush 48, 2) := by decide +kernel
theorem dX12_init_81 : decode cX12_init 81 = .ok (.newarray .int, 2) := by decide +kernel
theorem dX12_init_83 : decode cX12_init 83 = .ok (.putfield 39, 3) := by decide +kernel
theorem dX12_init_86 : decode cX12_init 86 = .ok (.aload_n 0, 1) := by decide +kernel
theorem dX12_init_87 : decode cX12_init 87 = .ok (.bipush 120, 2) := by decide +kernel
theorem dX12_init_89 : decode cX12_init 89 = .ok (.newarray .int, 2) := by decide +kernel
theorem dX12_init_91 : decode cX12_init 91 = .ok (.putfield 42, 3) := by decide +kernel
theorem dX12_init_94 : decode cX12_init 94 = .ok (.aload_n 0, 1) := by decide +kernel
theorem dX12_init_95 : decode cX12_init 95 = .ok (.bipush 120, 2) := by decide +kernel
theorem dX12_init_97 : decode cX12_init 97 = .ok (.newarray .int, 2) := by decide +kernel
theorem dX12_init_99 : decode cX12_init 99 = .ok (.putfield 45, 3) := by decide +kernel
theorem dX12_init_102 : decode cX12_init 102 = .ok (.aload_n 0, 1) := by decide +kernel
theorem dX12_init_103 : decode cX12_init 103 = .ok (.bipush 120, 2) := by decide +kernel
theorem dX12_init_105 : decode cX12_init 105 = .ok (.newarray .int, 2) := by decide +kernel
theorem dX12_init_107 : decode cX12_init 107 = .ok (.putfield 48, 3) := by decide +kernel
theorem dX12_init_110 : decode cX12_init 110 = .ok (.aload_n 0, 1) := by decide +kernel
theorem dX12_init_111 : decode cX12_init 111 = .ok (.bipush 120, 2) := by decide +kernel
theorem dX12_init_113 : decode cX12_init 113 = .ok (.newarray .int, 2) := by decide +kernel
theorem dX12_init_115 : decode cX12_init 115 = .ok (.putfield 51, 3) := by decide +kernel
theorem dX12_init_118 : decode cX12_init 118 = .ok (.aload_n 0, 1) := by decide +kernel
theorem dX12_init_119 : decode cX12_init 119 = .ok (.bipush 60, 2) := by decide +kernel
theorem dX12_init_121 : decode cX12_init 121 = .ok (.newarray .int, 2) := by decide +kernel
theorem dX12_init_123 : decode cX12_init 123 = .ok (.putfield 54, 3) := by decide +kernel
theorem dX12_init_126 : decode cX12_init 126 = .ok (.aload_n 0, 1) := by decide +kernel
theorem dX12_init_127 : decode cX12_init 127 = .ok (.sipush 200, 3) := by decide +kernel
theorem dX12_init_130 : decode cX12_init 130 = .ok (.newarray .int, 2) := by decide +kernel
theorem dX12_init_132 : decode cX12_init 132 = .ok (.putfield 57, 3) := by decide +kernel
theorem dX12_init_135 : decode cX12_init 135 = .ok (.aload_n 0, 1) := by decide +kernel
theorem dX12_init_136 : decode cX12_init 136 = .ok (.sipush 200, 3) := by decide +kernel
theorem dX12_init_139 : decode cX12_init 139 = .ok (.newarray .int, 2) := by decide +kernel
theorem dX12_init_141 : decode cX12_init 141 = .ok (.putfield 60, 3) := by decide +kernel
theorem dX12_init_144 : decode cX12_init 144 = .ok (.aload_n 0, 1) := by decide +kernel
theorem dX12_init_145 : decode cX12_init 145 = .ok (.bipush 10, 2) := by decide +kernel
theorem dX12_init_147 : decode cX12_init 147 = .ok (.newarray .long, 2) := by decide +kernel
theorem dX12_init_149 : decode cX12_init 149 = .ok (.putfield 63, 3) := by decide +kernel
theorem dX12_init_152 : decode cX12_init 152 = .ok (.aload_n 0, 1) := by decide +kernel
theorem dX12_init_153 : decode cX12_init 153 = .ok (.sipush 140, 3) := by decide +kernel
theorem dX12_init_156 : decode cX12_init 156 = .ok (.newarray .int, 2) := by decide +kernel
theorem dX12_init_158 : decode cX12_init 158 = .ok (.putfield 66, 3) := by decide +kernel
theorem dX12_init_161 : decode cX12_init 161 = .ok (.aload_n 0, 1) := by decide +kernel
theorem dX12_init_162 : decode cX12_init 162 = .ok (.bipush 10, 2) := by decide +kernel
theorem dX12_init_164 : decode cX12_init 164 = .ok (.newarray .int, 2) := by decide +kernel
theorem dX12_init_166 : decode cX12_init 166 = .ok (.putfield 69, 3) := by decide +kernel
theorem dX12_init_169 : decode cX12_init 169 = .ok (.aload_n 0, 1) := by decide +kernel
theorem dX12_init_170 : decode cX12_init 170 = .ok (.bipush 10, 2) := by decide +kernel
theorem dX12_init_172 : decode cX12_init 172 = .ok (.newarray .int, 2) := by decide +kernel
theorem dX12_init_174 : decode cX12_init 174 = .ok (.putfield 72, 3) := by decide +kernel
theorem dX12_init_177 : decode cX12_init 177 = .ok (.return_, 1) := by decide +kernel
def wp_X12_init (l0 : Nat) (h : PH) (Q : PH → Prop) : Prop := (qn h + 1 ≤ 1000000 ∧ ∀ h1, h1 = qnew h 14 640 640 → (∀ h3, h3 = qsR h1 l0 1 (some (qn h)) → (qn h3 + 1 ≤ 1000000 ∧ ∀ h4, h4 = qnew h3 14 8 8 → (∀ h6, h6 = qsR h4 l0 14 (some (qn h3)) → (qn h6 + 1 ≤ 1000000 ∧ ∀ h7, h7 = qnew h6 14 8 8 → (∀ h9, h9 = qsR h7 l0 15 (some (qn h6)) → (qn h9 + 1 ≤ 1000000 ∧ ∀ h10, h10 = qnew h9 14 8 8 → (∀ h12, h12 = qsR h10 l0 16 (some (qn h9)) → (qn h12 + 1 ≤ 1000000 ∧ ∀ h13, h13 = qnew h12 14 768 768 → (∀ h15, h15 = qsR h13 l0 17 (some (qn h12)) → (qn h15 + 1 ≤ 1000000 ∧ ∀ h16, h16 = qnew h15 15 12 12 → (∀ h18, h18 = qsR h16 l0 18 (some (qn h15)) → (qn h18 + 1 ≤ 1000000 ∧ ∀ h19, h19 = qnew h18 16 6 6 → (∀ h21, h21 = qsR h19 l0 19 (some (qn h18)) → (qn h21 + 1 ≤ 1000000 ∧ ∀ h22, h22 = qnew h21 14 48 48 → (∀ h24, h24 = qsR h22 l0 21 (some (qn h21)) → (qn h24 + 1 ≤ 1000000 ∧ ∀ h25, h25 = qnew h24 14 48 48 → (∀ h27, h27 = qsR h25 l0 22 (some (qn h24)) → (qn h27 + 1 ≤ 1000000 ∧ ∀ h28, h28 = qnew h27 14 48 48 → (∀ h30, h30 = qsR h28 l0 35 (some (qn h27)) → (qn h30 + 1 ≤ 1000000 ∧ ∀ h31, h31 = qnew h30 14 120 120 → (∀ h33, h33 = qsR h31 l0 37 (some (qn h30)) → (qn h33 + 1 ≤ 1000000 ∧ ∀ h34, h34 = qnew h33 14 120 120 → (∀ h36, h36 = qsR h34 l0 38 (some (qn h33)) → (qn h36 + 1 ≤ 1000000 ∧ ∀ h37, h37 = qnew h36 14 120 120 → (∀ h39, h39 = qsR h37 l0 39 (some (qn h36)) → (qn h39 + 1 ≤ 1000000 ∧ ∀ h40, h40 = qnew h39 14 120 120 → (∀ h42, h42 = qsR h40 l0 40 (some (qn h39)) → (qn h42 + 1 ≤ 1000000 ∧ ∀ h43, h43 = qnew h42 14 60 60 → (∀ h45, h45 = qsR h43 l0 48 (some (qn h42)) → (qn h45 + 1 ≤ 1000000 ∧ ∀ h46, h46 = qnew h45 14 200 200 → (∀ h48, h48 = qsR h46 l0 49 (some (qn h45)) → (qn h48 + 1 ≤ 1000000 ∧ ∀ h49, h49 = qnew h48 14 200 200 → (∀ h51, h51 = qsR h49 l0 50 (some (qn h48)) → (qn h51 + 1 ≤ 1000000 ∧ ∀ h52, h52 = qnew h51 15 10 10 → (∀ h54, h54 = qsR h52 l0 55 (some (qn h51)) → (qn h54 + 1 ≤ 1000000 ∧ ∀ h55, h55 = qnew h54 14 140 140 → (∀ h57, h57 = qsR h55 l0 57 (some (qn h54)) → (qn h57 + 1 ≤ 1000000 ∧ ∀ h58, h58 = qnew h57 14 10 10 → (∀ h60, h60 = qsR h58 l0 59 (some (qn h57)) → (qn h60 + 1 ≤ 1000000 ∧ ∀ h61, h61 = qnew h60 14 10 10 → (∀ h63, h63 = qsR h61 l0 60 (some (qn h60)) → Q h63))))))))))))))))))))))))))))))))))))))))))
set_option maxHeartbeats 4000000 in
set_option maxRecDepth 100000 in
theorem sn_X12_init (G : GT) (d : Nat) (l0 : Nat) (h : PH) (Q : PH → Prop) (okl0 : qOK h 11 l0) (hwp : wp_X12_init l0 h Q) : Mt G (1 + d) 21 2704 mX12_init [.ref l0] h (qqv Q) := by
  unfold wp_X12_init at hwp
  refine Mt.of (by decide) rfl (Nat.le_of_ble_eq_true rfl) ?_
  have hex := qEx.rf h
  have hnn : qn h = qn h + 0 := rfl
  have hzz : qz h = qz h + 0 := rfl
  refine x_lvE (lv2 := [(0, .ref l0)]) rfl ?_
  refine x_aload_n (pc := 0) dX12_init_0 rfl ?_
  refine x_objInit (pc := 1) dX12_init_1 lRX12_1 wk_oi wk_oc (q_R1 (by omega)) (Nat.le_of_ble_eq_true rfl) ?_
  refine x_aload_n (pc := 4) dX12_init_4 rfl ?_
  refine x_sipush (v := 640) (pc := 5) dX12_init_5 (by decide) ?_
  obtain ⟨m2, hwp⟩ := hwp
  refine y_newa (t := 14) (N := 640) (t0 := 1) (ty := .int) (pc := 8) dX12_init_8 rfl (by decide) wk_ac_int (by decide) (by decide) (by decide) (q_C hnn hzz (by decide) (by decide)) m2 (fun h1 eh1 nwh1 okbh1 => ?_)
  have hwp := hwp h1 eh1
  have hex := hex.tr nwh1.1
  have hnn : qn h1 = qn h + 1 := by have := nwh1.2.1; omega
  have hzz : qz h1 = qz h + 640 := by have := nwh1.2.2; omega
  have okl0 := okl0.ex nwh1.1
  refine y_putF rfl (pc := 10) dX12_init_10 FRX12_7 okl0 okbh1 (fun h3 eh3 nxh3 => ?_)
  have hwp := hwp h3 eh3
  have hex := hex.tr nxh3.1
  have hnn := nxh3.2.1.trans hnn
  have hzz := nxh3.2.2.trans hzz
  have okl0 := okl0.ex nxh3.1
  have okbh1 := okbh1.ex nxh3.1
  refine x_aload_n (pc := 13) dX12_init_13 rfl ?_
  refine x_bipush (v := 8) (pc := 14) dX12_init_14 (by decide) ?_
  obtain ⟨m5, hwp⟩ := hwp
  refine y_newa (t := 14) (N := 8) (t0 := 1) (ty := .int) (pc := 16) dX12_init_16 rfl (by decide) wk_ac_int (by decide) (by decide) (by decide) (q_C hnn hzz (by decide) (by decide)) m5 (fun h4 eh4 nwh4 okbh4 => ?_)
  have hwp := hwp h4 eh4
  have hex := hex.tr nwh4.1
  have hnn : qn h4 = qn h + 2 := by have := nwh4.2.1; omega
  have hzz : qz h4 = qz h + 648 := by have := nwh4.2.2; omega
  have okl0 := okl0.ex nwh4.1
  have okbh1 := okbh1.ex nwh4.1
  refine y_putF rfl (pc := 18) dX12_init_18 FRX12_13 okl0 okbh4 (fun h6 eh6 nxh6 => ?_)
  have hwp := hwp h6 eh6
  have hex := hex.tr nxh6.1
  have hnn := nxh6.2.1.trans hnn
  have hzz := nxh6.2.2.trans hzz
  have okl0 := okl0.ex nxh6.1
  have okbh1 := okbh1.ex nxh6.1
  have okbh4 := okbh4.ex nxh6.1
  refine x_aload_n (pc := 21) dX12_init_21 rfl ?_
  refine x_bipush (v := 8) (pc := 22) dX12_init_22 (by decide) ?_
  obtain ⟨m8, hwp⟩ := hwp
  refine y_newa (t := 14) (N := 8) (t0 := 1) (ty := .int) (pc := 24) dX12_init_24 rfl (by decide) wk_ac_int (by decide) (by decide) (by decide) (q_C hnn hzz (by decide) (by decide)) m8 (fun h7 eh7 nwh7 okbh7 => ?_)
  have hwp := hwp h7 eh7
  have hex := hex.tr nwh7.1
  have hnn : qn h7 = qn h + 3 := by have := nwh7.2.1; omega
  have hzz : qz h7 = qz h + 656 := by have := nwh7.2.2; omega
  have okl0 := okl0.ex nwh7.1
  have okbh1 := okbh1.ex nwh7.1
  have okbh4 := okbh4.ex nwh7.1
  refine y_putF rfl (pc := 26) dX12_init_26 FRX12_16 okl0 okbh7 (fun h9 eh9 nxh9 => ?_)
  have hwp := hwp h9 eh9
  have hex := hex.tr nxh9.1
  have hnn := nxh9.2.1.trans hnn
  have hzz := nxh9.2.2.trans hzz
  have okl0 := okl0.ex nxh9.1
  have okbh1 := okbh1.ex nxh9.1
  have okbh4 := okbh4.ex nxh9.1
  have okbh7 := okbh7.ex nxh9.1
  refine x_aload_n (pc := 29) dX12_init_29 rfl ?_
  refine x_bipush (v := 8) (pc := 30) dX12_init_30 (by decide) ?_
  obtain ⟨m11, hwp⟩ := hwp
  refine y_newa (t := 14) (N := 8) (t0 := 1) (ty := .int) (pc := 32) dX12_init_32 rfl (by decide) wk_ac_int (by decide) (by decide) (by decide) (q_C hnn hzz (by decide) (by decide)) m11 (fun h10 eh10 nwh10 okbh10 => ?_)
  have hwp := hwp h10 eh10
  have hex := hex.tr nwh10.1
  have hnn : qn h10 = qn h + 4 := by have := nwh10.2.1; omega
  have hzz : qz h10 = qz h + 664 := by have := nwh10.2.2; omega
  have okl0 := okl0.ex nwh10.1
  have okbh1 := okbh1.ex nwh10.1
  have okbh4 := okbh4.ex nwh10.1
  have okbh7 := okbh7.ex nwh10.1
  refine y_putF rfl (pc := 34) dX12_init_34 FRX12_19 okl0 okbh10 (fun h12 eh12 nxh12 => ?_)
  have hwp := hwp h12 eh12
  have hex := hex.tr nxh12.1
  have hnn := nxh12.2.1.trans hnn
  have hzz := nxh12.2.2.trans hzz
  have okl0 := okl0.ex nxh12.1
  have okbh1 := okbh1.ex nxh12.1
  have okbh4 := okbh4.ex nxh12.1
  have okbh7 := okbh7.ex nxh12.1
  have okbh10 := okbh10.ex nxh12.1
  refine x_aload_n (pc := 37) dX12_init_37 rfl ?_
  refine x_sipush (v := 768) (pc := 38) dX12_init_38 (by decide) ?_
  obtain ⟨m14, hwp⟩ := hwp
  refine y_newa (t := 14) (N := 768) (t0 := 1) (ty := .int) (pc := 41) dX12_init_41 rfl (by decide) wk_ac_int (by decide) (by decide) (by decide) (q_C hnn hzz (by decide) (by decide)) m14 (fun h13 eh13 nwh13 okbh13 => ?_)
  have hwp := hwp h13 eh13
  have hex := hex.tr nwh13.1
  have hnn : qn h13 = qn h + 5 := by have := nwh13.2.1; omega
  have hzz : qz h13 = qz h + 1432 := by have := nwh13.2.2; omega
  have okl0 := okl0.ex nwh13.1
  have okbh1 := okbh1.ex nwh13.1
  have okbh4 := okbh4.ex nwh13.1
  have okbh7 := okbh7.ex nwh13.1
  have okbh10 := okbh10.ex nwh13.1
  refine y_putF rfl (pc := 43) dX12_init_43 FRX12_22 okl0 okbh13 (fun h15 eh15 nxh15 => ?_)
  have hwp := hwp h15 eh15
  have hex := hex.tr nxh15.1
  have hnn := nxh15.2.1.trans hnn
  have hzz := nxh15.2.2.trans hzz
  have okl0 := okl0.ex nxh15.1
  have okbh1 := okbh1.ex nxh15.1
  have okbh4 := okbh4.ex nxh15.1
  have okbh7 := okbh7.ex nxh15.1
  have okbh10 := okbh10.ex nxh15.1
  have okbh13 := okbh13.ex nxh15.1
  refine x_aload_n (pc := 46) dX12_init_46 rfl ?_
  refine x_bipush (v := 12) (pc := 47) dX12_init_47 (by decide) ?_
  obtain ⟨m17, hwp⟩ := hwp
  refine y_newa (t := 15) (N := 12) (t0 := 2) (ty := .long) (pc := 49) dX12_init_49 rfl (by decide) wk_ac_long (by decide) (by decide) (by decide) (q_C hnn hzz (by decide) (by decide)) m17 (fun h16 eh16 nwh16 okbh16 => ?_)
  have hwp := hwp h16 eh16
  have hex := hex.tr nwh16.1
  have hnn : qn h16 = qn h + 6 := by have := nwh16.2.1; omega
  have hzz : qz h16 = qz h + 1444 := by have := nwh16.2.2; omega
  have okl0 := okl0.ex nwh16.1
  have okbh1 := okbh1.ex nwh16.1
  have okbh4 := okbh4.ex nwh16.1
  have okbh7 := okbh7.ex nwh16.1
  have okbh10 := okbh10.ex nwh16.1
  have okbh13 := okbh13.ex nwh16.1
  refine y_putF rfl (pc := 51) dX12_init_51 FRX12_25 okl0 okbh16 (fun h18 eh18 nxh18 => ?_)
  have hwp := hwp h18 eh18
  have hex := hex.tr nxh18.1
  have hnn := nxh18.2.1.trans hnn
  have hzz := nxh18.2.2.trans hzz
  have okl0 := okl0.ex nxh18.1
  have okbh1 := okbh1.ex nxh18.1
  have okbh4 := okbh4.ex nxh18.1
  have okbh7 := okbh7.ex nxh18.1
  have okbh10 := okbh10.ex nxh18.1
  have okbh13 := okbh13.ex nxh18.1
  have okbh16 := okbh16.ex nxh18.1
  refine x_aload_n (pc := 54) dX12_init_54 rfl ?_
  refine x_bipush (v := 6) (pc := 55) dX12_init_55 (by decide) ?_
  obtain ⟨m20, hwp⟩ := hwp
  refine y_newa (t := 16) (N := 6) (t0 := 3) (ty := .boolean) (pc := 57) dX12_init_57 rfl (by decide) wk_ac_boolean (by decide) (by decide) (by decide) (q_C hnn hzz (by decide) (by decide)) m20 (fun h19 eh19 nwh19 okbh19 => ?_)
  have hwp := hwp h19 eh19
  have hex := hex.tr nwh19.1
  have hnn : qn h19 = qn h + 7 := by have := nwh19.2.1; omega
  have hzz : qz h19 = qz h + 1450 := by have := nwh19.2.2; omega
  have okl0 := okl0.ex nwh19.1
  have okbh1 := okbh1.ex nwh19.1
  have okbh4 := okbh4.ex nwh19.1
  have okbh7 := okbh7.ex nwh19.1
  have okbh10 := okbh10.ex nwh19.1
  have okbh13 := okbh13.ex nwh19.1
  have okbh16 := okbh16.ex nwh19.1
  refine y_putF rfl (pc := 59) dX12_init_59 FRX12_29 okl0 okbh19 (fun h21 eh21 nxh21 => ?_)
  have hwp := hwp h21 eh21
  have hex := hex.tr nxh21.1
  have hnn := nxh21.2.1.trans hnn
  have hzz := nxh21.2.2.trans hzz
  have okl0 := okl0.ex nxh21.1
  have okbh1 := okbh1.ex nxh21.1
  have okbh4 := okbh4.ex nxh21.1
  have okbh7 := okbh7.ex nxh21.1
  have okbh10 := okbh10.ex nxh21.1
  have okbh13 := okbh13.ex nxh21.1
  have okbh16 := okbh16.ex nxh21.1
  have okbh19 := okbh19.ex nxh21.1
  refine x_aload_n (pc := 62) dX12_init_62 rfl ?_
  refine x_bipush (v := 48) (pc := 63) dX12_init_63 (by decide) ?_
  obtain ⟨m23, hwp⟩ := hwp
  refine y_newa (t := 14) (N := 48) (t0 := 1) (ty := .int) (pc := 65) dX12_init_65 rfl (by decide) wk_ac_int (by decide) (by decide) (by decide) (q_C hnn hzz (by decide) (by decide)) m23 (fun h22 eh22 nwh22 okbh22 => ?_)
  have hwp := hwp h22 eh22
  have hex := hex.tr nwh22.1
  have hnn : qn h22 = qn h + 8 := by have := nwh22.2.1; omega
  have hzz : qz h22 = qz h + 1498 := by have := nwh22.2.2; omega
  have okl0 := okl0.ex nwh22.1
  have okbh1 := okbh1.ex nwh22.1
  have okbh4 := okbh4.ex nwh22.1
  have okbh7 := okbh7.ex nwh22.1
  have okbh10 := okbh10.ex nwh22.1
  have okbh13 := okbh13.ex nwh22.1
  have okbh16 := okbh16.ex nwh22.1
  have okbh19 := okbh19.ex nwh22.1
  refine y_putF rfl (pc := 67) dX12_init_67 FRX12_33 okl0 okbh22 (fun h24 eh24 nxh24 => ?_)
  have hwp := hwp h24 eh24
  have hex := hex.tr nxh24.1
  have hnn := nxh24.2.1.trans hnn
  have hzz := nxh24.2.2.trans hzz
  have okl0 := okl0.ex nxh24.1
  have okbh1 := okbh1.ex nxh24.1
  have okbh4 := okbh4.ex nxh24.1
  have okbh7 := okbh7.ex nxh24.1
  have okbh10 := okbh10.ex nxh24.1
  have okbh13 := okbh13.ex nxh24.1
  have okbh16 := okbh16.ex nxh24.1
  have okbh19 := okbh19.ex nxh24.1
  have okbh22 := okbh22.ex nxh24.1
  refine x_aload_n (pc := 70) dX12_init_70 rfl ?_
  refine x_bipush (v := 48) (pc := 71) dX12_init_71 (by decide) ?_
  obtain ⟨m26, hwp⟩ := hwp
  refine y_newa (t := 14) (N := 48) (t0 := 1) (ty := .int) (pc := 73) dX12_init_73 rfl (by decide) wk_ac_int (by decide) (by decide) (by decide) (q_C hnn hzz (by decide) (by decide)) m26 (fun h25 eh25 nwh25 okbh25 => ?_)
  have hwp := hwp h25 eh25
  have hex := hex.tr nwh25.1
  have hnn : qn h25 = qn h + 9 := by have := nwh25.2.1; omega
  have hzz : qz h25 = qz h + 1546 := by have := nwh25.2.2; omega
  have okl0 := okl0.ex nwh25.1
  have okbh1 := okbh1.ex nwh25.1
  have okbh4 := okbh4.ex nwh25.1
  have okbh7 := okbh7.ex nwh25.1
  have okbh10 := okbh10.ex nwh25.1
  have okbh13 := okbh13.ex nwh25.1
  have okbh16 := okbh16.ex nwh25.1
  have okbh19 := okbh19.ex nwh25.1
  have okbh22 := okbh22.ex nwh25.1
  refine y_putF rfl (pc := 75) dX12_init_75 FRX12_36 okl0 okbh25 (fun h27 eh27 nxh27 => ?_)
  have hwp := hwp h27 eh27
  have hex := hex.tr nxh27.1
  have hnn := nxh27.2.1.trans hnn
  have hzz := nxh27.2.2.trans hzz
  have okl0 := okl0.ex nxh27.1
  have okbh1 := okbh1.ex nxh27.1
  have okbh4 := okbh4.ex nxh27.1
  have okbh7 := okbh7.ex nxh27.1
  have okbh10 := okbh10.ex nxh27.1
  have okbh13 := okbh13.ex nxh27.1
  have okbh16 := okbh16.ex nxh27.1
  have okbh19 := okbh19.ex nxh27.1
  have okbh22 := okbh22.ex nxh27.1
  have okbh25 := okbh25.ex nxh27.1
  refine x_aload_n (pc := 78) dX12_init_78 rfl ?_
  refine x_bipush (v := 48) (pc := 79) dX12_init_79 (by decide) ?_
  obtain ⟨m29, hwp⟩ := hwp
  refine y_newa (t := 14) (N := 48) (t0 := 1) (ty := .int) (pc := 81) dX12_init_81 rfl (by decide) wk_ac_int (by decide) (by decide) (by decide) (q_C hnn hzz (by decide) (by decide)) m29 (fun h28 eh28 nwh28 okbh28 => ?_)
  have hwp := hwp h28 eh28
  have hex := hex.tr nwh28.1
  have hnn : qn h28 = qn h + 10 := by have := nwh28.2.1; omega
  have hzz : qz h28 = qz h + 1594 := by have := nwh28.2.2; omega
  have okl0 := okl0.ex nwh28.1
  have okbh1 := okbh1.ex nwh28.1
  have okbh4 := okbh4.ex nwh28.1
  have okbh7 := okbh7.ex nwh28.1
  have okbh10 := okbh10.ex nwh28.1
  have okbh13 := okbh13.ex nwh28.1
  have okbh16 := okbh16.ex nwh28.1
  have okbh19 := okbh19.ex nwh28.1
  have okbh22 := okbh22.ex nwh28.1
  have okbh25 := okbh25.ex nwh28.1
  refine y_putF rfl (pc := 83) dX12_init_83 FRX12_39 okl0 okbh28 (fun h30 eh30 nxh30 => ?_)
  have hwp := hwp h30 eh30
  have hex := hex.tr nxh30.1
  have hnn := nxh30.2.1.trans hnn
  have hzz := nxh30.2.2.trans hzz
  have okl0 := okl0.ex nxh30.1
  have okbh1 := okbh1.ex nxh30.1
  have okbh4 := okbh4.ex nxh30.1
  have okbh7 := okbh7.ex nxh30.1
  have okbh10 := okbh10.ex nxh30.1
  have okbh13 := okbh13.ex nxh30.1
  have okbh16 := okbh16.ex nxh30.1
  have okbh19 := okbh19.ex nxh30.1
  have okbh22 := okbh22.ex nxh30.1
  have okbh25 := okbh25.ex nxh30.1
  have okbh28 := okbh28.ex nxh30.1
  refine x_aload_n (pc := 86) dX12_init_86 rfl ?_
  refine x_bipush (v := 120) (pc := 87) dX12_init_87 (by decide) ?_
  obtain ⟨m32, hwp⟩ := hwp
  refine y_newa (t := 14) (N := 120) (t0 := 1) (ty := .int) (pc := 89) dX12_init_89 rfl (by decide) wk_ac_int (by decide) (by decide) (by decide) (q_C hnn hzz (by decide) (by decide)) m32 (fun h31 eh31 nwh31 okbh31 => ?_)
  have hwp := hwp h31 eh31
  have hex := hex.tr nwh31.1
  have hnn : qn h31 = qn h + 11 := by have := nwh31.2.1; omega
  have hzz : qz h31 = qz h + 1714 := by have := nwh31.2.2; omega
  have okl0 := okl0.ex nwh31.1
  have okbh1 := okbh1.ex nwh31.1
  have okbh4 := okbh4.ex nwh31.1
  have okbh7 := okbh7.ex nwh31.1
  have okbh10 := okbh10.ex nwh31.1
  have okbh13 := okbh13.ex nwh31.1
  have okbh16 := okbh16.ex nwh31.1
  have okbh19 := okbh19.ex nwh31.1
  have okbh22 := okbh22.ex nwh31.1
  have okbh25 := okbh25.ex nwh31.1
  have okbh28 := okbh28.ex nwh31.1
  refine y_putF rfl (pc := 91) dX12_init_91 FRX12_42 okl0 okbh31 (fun h33 eh33 nxh33 => ?_)
  have hwp := hwp h33 eh33
  have hex := hex.tr nxh33.1
  have hnn := nxh33.2.1.trans hnn
  have hzz := nxh33.2.2.trans hzz
  have okl0 := okl0.ex nxh33.1
  have okbh1 := okbh1.ex nxh33.1
  have okbh4 := okbh4.ex nxh33.1
  have okbh7 := okbh7.ex nxh33.1
  have okbh10 := okbh10.ex nxh33.1
  have okbh13 := okbh13.ex nxh33.1
  have okbh16 := okbh16.ex nxh33.1
  have okbh19 := okbh19.ex nxh33.1
  have okbh22 := okbh22.ex nxh33.1
  have okbh25 := okbh25.ex nxh33.1
  have okbh28 := okbh28.ex nxh33.1
  have okbh31 := okbh31.ex nxh33.1
  refine x_aload_n (pc := 94) dX12_init_94 rfl ?_
  refine x_bipush (v := 120) (pc := 95) dX12_init_95 (by decide) ?_
  obtain ⟨m35, hwp⟩ := hwp
  refine y_newa (t := 14) (N := 120) (t0 := 1) (ty := .int) (pc := 97) dX12_init_97 rfl (by decide) wk_ac_int (by decide) (by decide) (by decide) (q_C hnn hzz (by decide) (by decide)) m35 (fun h34 eh34 nwh34 okbh34 => ?_)
  have hwp := hwp h34 eh34
  have hex := hex.tr nwh34.1
  have hnn : qn h34 = qn h + 12 := by have := nwh34.2.1; omega
  have hzz : qz h34 = qz h + 1834 := by have := nwh34.2.2; omega
  have okl0 := okl0.ex nwh34.1
  have okbh1 := okbh1.ex nwh34.1
  have okbh4 := okbh4.ex nwh34.1
  have okbh7 := okbh7.ex nwh34.1
  have okbh10 := okbh10.ex nwh34.1
  have okbh13 := okbh13.ex nwh34.1
  have okbh16 := okbh16.ex nwh34.1
  have okbh19 := okbh19.ex nwh34.1
  have okbh22 := okbh22.ex nwh34.1
  have okbh25 := okbh25.ex nwh34.1
  have okbh28 := okbh28.ex nwh34.1
  have okbh31 := okbh31.ex nwh34.1
  refine y_putF rfl (pc := 99) dX12_init_99 FRX12_45 okl0 okbh34 (fun h36 eh36 nxh36 => ?_)
  have hwp := hwp h36 eh36
  have hex := hex.tr nxh36.1
  have hnn := nxh36.2.1.trans hnn
  have hzz := nxh36.2.2.trans hzz
  have okl0 := okl0.ex nxh36.1
  have okbh1 := okbh1.ex nxh36.1
  have okbh4 := okbh4.ex nxh36.1
  have okbh7 := okbh7.ex nxh36.1
  have okbh10 := okbh10.ex nxh36.1
  have okbh13 := okbh13.ex nxh36.1
  have okbh16 := okbh16.ex nxh36.1
  have okbh19 := okbh19.ex nxh36.1
  have okbh22 := okbh22.ex nxh36.1
  have okbh25 := okbh25.ex nxh36.1
  have okbh28 := okbh28.ex nxh36.1
  have okbh31 := okbh31.ex nxh36.1
  have okbh34 := okbh34.ex nxh36.1
  refine x_aload_n (pc := 102) dX12_init_102 rfl ?_
  refine x_bipush (v := 120) (pc := 103) dX12_init_103 (by decide) ?_
  obtain ⟨m38, hwp⟩ := hwp
  refine y_newa (t := 14) (N := 120) (t0 := 1) (ty := .int) (pc := 105) dX12_init_105 rfl (by decide) wk_ac_int (by decide) (by decide) (by decide) (q_C hnn hzz (by decide) (by decide)) m38 (fun h37 eh37 nwh37 okbh37 => ?_)
  have hwp := hwp h37 eh37
  have hex := hex.tr nwh37.1
  have hnn : qn h37 = qn h + 13 := by have := nwh37.2.1; omega
  have hzz : qz h37 = qz h + 1954 := by have := nwh37.2.2; omega
  have okl0 := okl0.ex nwh37.1
  have okbh1 := okbh1.ex nwh37.1
  have okbh4 := okbh4.ex nwh37.1
  have okbh7 := okbh7.ex nwh37.1
  have okbh10 := okbh10.ex nwh37.1
  have okbh13 := okbh13.ex nwh37.1
  have okbh16 := okbh16.ex nwh37.1
  have okbh19 := okbh19.ex nwh37.1
  have okbh22 := okbh22.ex nwh37.1
  have okbh25 := okbh25.ex nwh37.1
  have okbh28 := okbh28.ex nwh37.1
  have okbh31 := okbh31.ex nwh37.1
  have okbh34 := okbh34.ex nwh37.1
  refine y_putF rfl (pc := 107) dX12_init_107 FRX12_48 okl0 okbh37 (fun h39 eh39 nxh39 => ?_)
  have hwp := hwp h39 eh39
  have hex := hex.tr nxh39.1
  have hnn := nxh39.2.1.trans hnn
  have hzz := nxh39.2.2.trans hzz
  have okl0 := okl0.ex nxh39.1
  have okbh1 := okbh1.ex nxh39.1
  have okbh4 := okbh4.ex nxh39.1
  have okbh7 := okbh7.ex nxh39.1
  have okbh10 := okbh10.ex nxh39.1
  have okbh13 := okbh13.ex nxh39.1
  have okbh16 := okbh16.ex nxh39.1
  have okbh19 := okbh19.ex nxh39.1
  have okbh22 := okbh22.ex nxh39.1
  have okbh25 := okbh25.ex nxh39.1
  have okbh28 := okbh28.ex nxh39.1
  have okbh31 := okbh31.ex nxh39.1
  have okbh34 := okbh34.ex nxh39.1
  have okbh37 := okbh37.ex nxh39.1
  refine x_aload_n (pc := 110) dX12_init_110 rfl ?_
  refine x_bipush (v := 120) (pc := 111) dX12_init_111 (by decide) ?_
  obtain ⟨m41, hwp⟩ := hwp
  refine y_newa (t := 14) (N := 120) (t0 := 1) (ty := .int) (pc := 113) dX12_init_113 rfl (by decide) wk_ac_int (by decide) (by decide) (by decide) (q_C hnn hzz (by decide) (by decide)) m41 (fun h40 eh40 nwh40 okbh40 => ?_)
  have hwp := hwp h40 eh40
  have hex := hex.tr nwh40.1
  have hnn : qn h40 = qn h + 14 := by have := nwh40.2.1; omega
  have hzz : qz h40 = qz h + 2074 := by have := nwh40.2.2; omega
  have okl0 := okl0.ex nwh40.1
  have okbh1 := okbh1.ex nwh40.1
  have okbh4 := okbh4.ex nwh40.1
  have okbh7 := okbh7.ex nwh40.1
  have okbh10 := okbh10.ex nwh40.1
  have okbh13 := okbh13.ex nwh40.1
  have okbh16 := okbh16.ex nwh40.1
  have okbh19 := okbh19.ex nwh40.1
  have okbh22 := okbh22.ex nwh40.1
  have okbh25 := okbh25.ex nwh40.1
  have okbh28 := okbh28.ex nwh40.1
  have okbh31 := okbh31.ex nwh40.1
  have okbh34 := okbh34.ex nwh40.1
  have okbh37 := okbh37.ex nwh40.1
  refine y_putF rfl (pc := 115) dX12_init_115 FRX12_51 okl0 okbh40 (fun h42 eh42 nxh42 => ?_)
  have hwp := hwp h42 eh42
  have hex := hex.tr nxh42.1
  have hnn := nxh42.2.1.trans hnn
  have hzz := nxh42.2.2.trans hzz
  have okl0 := okl0.ex nxh42.1
  have okbh1 := okbh1.ex nxh42.1
  have okbh4 := okbh4.ex nxh42.1
  have okbh7 := okbh7.ex nxh42.1
  have okbh10 := okbh10.ex nxh42.1
  have okbh13 := okbh13.ex nxh42.1
  have okbh16 := okbh16.ex nxh42.1
  have okbh19 := okbh19.ex nxh42.1
  have okbh22 := okbh22.ex nxh42.1
  have okbh25 := okbh25.ex nxh42.1
  have okbh28 := okbh28.ex nxh42.1
  have okbh31 := okbh31.ex nxh42.1
  have okbh34 := okbh34.ex nxh42.1
  have okbh37 := okbh37.ex nxh42.1
  have okbh40 := okbh40.ex nxh42.1
  refine x_aload_n (pc := 118) dX12_init_118 rfl ?_
  refine x_bipush (v := 60) (pc := 119) dX12_init_119 (by decide) ?_
  obtain ⟨m44, hwp⟩ := hwp
  refine y_newa (t := 14) (N := 60) (t0 := 1) (ty := .int) (pc := 121) dX12_init_121 rfl (by decide) wk_ac_int (by decide) (by decide) (by decide) (q_C hnn hzz (by decide) (by decide)) m44 (fun h43 eh43 nwh43 okbh43 => ?_)
  have hwp := hwp h43 eh43
  have hex := hex.tr nwh43.1
  have hnn : qn h43 = qn h + 15 := by have := nwh43.2.1; omega
  have hzz : qz h43 = qz h + 2134 := by have := nwh43.2.2; omega
  have okl0 := okl0.ex nwh43.1
  have okbh1 := okbh1.ex nwh43.1
  have okbh4 := okbh4.ex nwh43.1
  have okbh7 := okbh7.ex nwh43.1
  have okbh10 := okbh10.ex nwh43.1
  have okbh13 := okbh13.ex nwh43.1
  have okbh16 := okbh16.ex nwh43.1
  have okbh19 := okbh19.ex nwh43.1
  have okbh22 := okbh22.ex nwh43.1
  have okbh25 := okbh25.ex nwh43.1
  have okbh28 := okbh28.ex nwh43.1
  have okbh31 := okbh31.ex nwh43.1
  have okbh34 := okbh34.ex nwh43.1
  have okbh37 := okbh37.ex nwh43.1
  have okbh40 := okbh40.ex nwh43.1
  refine y_putF rfl (pc := 123) dX12_init_123 FRX12_54 okl0 okbh43 (fun h45 eh45 nxh45 => ?_)
  have hwp := hwp h45 eh45
  have hex := hex.tr nxh45.1
  have hnn := nxh45.2.1.trans hnn
  have hzz := nxh45.2.2.trans hzz
  have okl0 := okl0.ex nxh45.1
  have okbh1 := okbh1.ex nxh45.1
  have okbh4 := okbh4.ex nxh45.1
  have okbh7 := okbh7.ex nxh45.1
  have okbh10 := okbh10.ex nxh45.1
  have okbh13 := okbh13.ex nxh45.1
  have okbh16 := okbh16.ex nxh45.1
  have okbh19 := okbh19.ex nxh45.1
  have okbh22 := okbh22.ex nxh45.1
  have okbh25 := okbh25.ex nxh45.1
  have okbh28 := okbh28.ex nxh45.1
  have okbh31 := okbh31.ex nxh45.1
  have okbh34 := okbh34.ex nxh45.1
  have okbh37 := okbh37.ex nxh45.1
  have okbh40 := okbh40.ex nxh45.1
  have okbh43 := okbh43.ex nxh45.1
  refine x_aload_n (pc := 126) dX12_init_126 rfl ?_
  refine x_sipush (v := 200) (pc := 127) dX12_init_127 (by decide) ?_
  obtain ⟨m47, hwp⟩ := hwp
  refine y_newa (t := 14) (N := 200) (t0 := 1) (ty := .int) (pc := 130) dX12_init_130 rfl (by decide) wk_ac_int (by decide) (by decide) (by decide) (q_C hnn hzz (by decide) (by decide)) m47 (fun h46 eh46 nwh46 okbh46 => ?_)
  have hwp := hwp h46 eh46
  have hex := hex.tr nwh46.1
  have hnn : qn h46 = qn h + 16 := by have := nwh46.2.1; omega
  have hzz : qz h46 = qz h + 2334 := by have := nwh46.2.2; omega
  have okl0 := okl0.ex nwh46.1
  have okbh1 := okbh1.ex nwh46.1
  have okbh4 := okbh4.ex nwh46.1
  have okbh7 := okbh7.ex nwh46.1
  have okbh10 := okbh10.ex nwh46.1
  have okbh13 := okbh13.ex nwh46.1
  have okbh16 := okbh16.ex nwh46.1
  have okbh19 := okbh19.ex nwh46.1
  have okbh22 := okbh22.ex nwh46.1
  have okbh25 := okbh25.ex nwh46.1
  have okbh28 := okbh28.ex nwh46.1
  have okbh31 := okbh31.ex nwh46.1
  have okbh34 := okbh34.ex nwh46.1
  have okbh37 := okbh37.ex nwh46.1
  have okbh40 := okbh40.ex nwh46.1
  have okbh43 := okbh43.ex nwh46.1
  refine y_putF rfl (pc := 132) dX12_init_132 FRX12_57 okl0 okbh46 (fun h48 eh48 nxh48 => ?_)
  have hwp := hwp h48 eh48
  have hex := hex.tr nxh48.1
  have hnn := nxh48.2.1.trans hnn
  have hzz := nxh48.2.2.trans hzz
  have okl0 := okl0.ex nxh48.1
  have okbh1 := okbh1.ex nxh48.1
  have okbh4 := okbh4.ex nxh48.1
  have okbh7 := okbh7.ex nxh48.1
  have okbh10 := okbh10.ex nxh48.1
  have okbh13 := okbh13.ex nxh48.1
  have okbh16 := okbh16.ex nxh48.1
  have okbh19 := okbh19.ex nxh48.1
  have okbh22 := okbh22.ex nxh48.1
  have okbh25 := okbh25.ex nxh48.1
  have okbh28 := okbh28.ex nxh48.1
  have okbh31 := okbh31.ex nxh48.1
  have okbh34 := okbh34.ex nxh48.1
  have okbh37 := okbh37.ex nxh48.1
  have okbh40 := okbh40.ex nxh48.1
  have okbh43 := okbh43.ex nxh48.1
  have okbh46 := okbh46.ex nxh48.1
  refine x_aload_n (pc := 135) dX12_init_135 rfl ?_
  refine x_sipush (v := 200) (pc := 136) dX12_init_136 (by decide) ?_
  obtain ⟨m50, hwp⟩ := hwp
  refine y_newa (t := 14) (N := 200) (t0 := 1) (ty := .int) (pc := 139) dX12_init_139 rfl (by decide) wk_ac_int (by decide) (by decide) (by decide) (q_C hnn hzz (by decide) (by decide)) m50 (fun h49 eh49 nwh49 okbh49 => ?_)
  have hwp := hwp h49 eh49
  have hex := hex.tr nwh49.1
  have hnn : qn h49 = qn h + 17 := by have := nwh49.2.1; omega
  have hzz : qz h49 = qz h + 2534 := by have := nwh49.2.2; omega
  have okl0 := okl0.ex nwh49.1
  have okbh1 := okbh1.ex nwh49.1
  have okbh4 := okbh4.ex nwh49.1
  have okbh7 := okbh7.ex nwh49.1
  have okbh10 := okbh10.ex nwh49.1
  have okbh13 := okbh13.ex nwh49.1
  have okbh16 := okbh16.ex nwh49.1
  have okbh19 := okbh19.ex nwh49.1
  have okbh22 := okbh22.ex nwh49.1
  have okbh25 := okbh25.ex nwh49.1
  have okbh28 := okbh28.ex nwh49.1
  have okbh31 := okbh31.ex nwh49.1
  have okbh34 := okbh34.ex nwh49.1
  have okbh37 := okbh37.ex nwh49.1
  have okbh40 := okbh40.ex nwh49.1
  have okbh43 := okbh43.ex nwh49.1
  have okbh46 := okbh46.ex nwh49.1
  refine y_putF rfl (pc := 141) dX12_init_141 FRX12_60 okl0 okbh49 (fun h51 eh51 nxh51 => ?_)
  have hwp := hwp h51 eh51
  have hex := hex.tr nxh51.1
  have hnn := nxh51.2.1.trans hnn
  have hzz := nxh51.2.2.trans hzz
  have okl0 := okl0.ex nxh51.1
  have okbh1 := okbh1.ex nxh51.1
  have okbh4 := okbh4.ex nxh51.1
  have okbh7 := okbh7.ex nxh51.1
  have okbh10 := okbh10.ex nxh51.1
  have okbh13 := okbh13.ex nxh51.1
  have okbh16 := okbh16.ex nxh51.1
  have okbh19 := okbh19.ex nxh51.1
  have okbh22 := okbh22.ex nxh51.1
  have okbh25 := okbh25.ex nxh51.1
  have okbh28 := okbh28.ex nxh51.1
  have okbh31 := okbh31.ex nxh51.1
  have okbh34 := okbh34.ex nxh51.1
  have okbh37 := okbh37.ex nxh51.1
  have okbh40 := okbh40.ex nxh51.1
  have okbh43 := okbh43.ex nxh51.1
  have okbh46 := okbh46.ex nxh51.1
  have okbh49 := okbh49.ex nxh51.1
  refine x_aload_n (pc := 144) dX12_init_144 rfl ?_
  refine x_bipush (v := 10) (pc := 145) dX12_init_145 (by decide) ?_
  obtain ⟨m53, hwp⟩ := hwp
  refine y_newa (t := 15) (N := 10) (t0 := 2) (ty := .long) (pc := 147) dX12_init_147 rfl (by decide) wk_ac_long (by decide) (by decide) (by decide) (q_C hnn hzz (by decide) (by decide)) m53 (fun h52 eh52 nwh52 okbh52 => ?_)
  have hwp := hwp h52 eh52
  have hex := hex.tr nwh52.1
  have hnn : qn h52 = qn h + 18 := by have := nwh52.2.1; omega
  have hzz : qz h52 = qz h + 2544 := by have := nwh52.2.2; omega
  have okl0 := okl0.ex nwh52.1
  have okbh1 := okbh1.ex nwh52.1
  have okbh4 := okbh4.ex nwh52.1
  have okbh7 := okbh7.ex nwh52.1
  have okbh10 := okbh10.ex nwh52.1
  have okbh13 := okbh13.ex nwh52.1
  have okbh16 := okbh16.ex nwh52.1
  have okbh19 := okbh19.ex nwh52.1
  have okbh22 := okbh22.ex nwh52.1
  have okbh25 := okbh25.ex nwh52.1
  have okbh28 := okbh28.ex nwh52.1
  have okbh31 := okbh31.ex nwh52.1
  have okbh34 := okbh34.ex nwh52.1
  have okbh37 := okbh37.ex nwh52.1
  have okbh40 := okbh40.ex nwh52.1
  have okbh43 := okbh43.ex nwh52.1
  have okbh46 := okbh46.ex nwh52.1
  have okbh49 := okbh49.ex nwh52.1
  refine y_putF rfl (pc := 149) dX12_init_149 FRX12_63 okl0 okbh52 (fun h54 eh54 nxh54 => ?_)
  have hwp := hwp h54 eh54
  have hex := hex.tr nxh54.1
  have hnn := nxh54.2.1.trans hnn
  have hzz := nxh54.2.2.trans hzz
  have okl0 := okl0.ex nxh54.1
  have okbh1 := okbh1.ex nxh54.1
  have okbh4 := okbh4.ex nxh54.1
  have okbh7 := okbh7.ex nxh54.1
  have okbh10 := okbh10.ex nxh54.1
  have okbh13 := okbh13.ex nxh54.1
  have okbh16 := okbh16.ex nxh54.1
  have okbh19 := okbh19.ex nxh54.1
  have okbh22 := okbh22.ex nxh54.1
  have okbh25 := okbh25.ex nxh54.1
  have okbh28 := okbh28.ex nxh54.1
  have okbh31 := okbh31.ex nxh54.1
  have okbh34 := okbh34.ex nxh54.1
  have okbh37 := okbh37.ex nxh54.1
  have okbh40 := okbh40.ex nxh54.1
  have okbh43 := okbh43.ex nxh54.1
  have okbh46 := okbh46.ex nxh54.1
  have okbh49 := okbh49.ex nxh54.1
  have okbh52 := okbh52.ex nxh54.1
  refine x_aload_n (pc := 152) dX12_init_152 rfl ?_
  refine x_sipush (v := 140) (pc := 153) dX12_init_153 (by decide) ?_
  obtain ⟨m56, hwp⟩ := hwp
  refine y_newa (t := 14) (N := 140) (t0 := 1) (ty := .int) (pc := 156) dX12_init_156 rfl (by decide) wk_ac_int (by decide) (by decide) (by decide) (q_C hnn hzz (by decide) (by decide)) m56 (fun h55 eh55 nwh55 okbh55 => ?_)
  have hwp := hwp h55 eh55
  have hex := hex.tr nwh55.1
  have hnn : qn h55 = qn h + 19 := by have := nwh55.2.1; omega
  have hzz : qz h55 = qz h + 2684 := by have := nwh55.2.2; omega
  have okl0 := okl0.ex nwh55.1
  have okbh1 := okbh1.ex nwh55.1
  have okbh4 := okbh4.ex nwh55.1
  have okbh7 := okbh7.ex nwh55.1
  have okbh10 := okbh10.ex nwh55.1
  have okbh13 := okbh13.ex nwh55.1
  have okbh16 := okbh16.ex nwh55.1
  have okbh19 := okbh19.ex nwh55.1
  have okbh22 := okbh22.ex nwh55.1
  have okbh25 := okbh25.ex nwh55.1
  have okbh28 := okbh28.ex nwh55.1
  have okbh31 := okbh31.ex nwh55.1
  have okbh34 := okbh34.ex nwh55.1
  have okbh37 := okbh37.ex nwh55.1
  have okbh40 := okbh40.ex nwh55.1
  have okbh43 := okbh43.ex nwh55.1
  have okbh46 := okbh46.ex nwh55.1
  have okbh49 := okbh49.ex nwh55.1
  have okbh52 := okbh52.ex nwh55.1
  refine y_putF rfl (pc := 158) dX12_init_158 FRX12_66 okl0 okbh55 (fun h57 eh57 nxh57 => ?_)
  have hwp := hwp h57 eh57
  have hex := hex.tr nxh57.1
  have hnn := nxh57.2.1.trans hnn
  have hzz := nxh57.2.2.trans hzz
  have okl0 := okl0.ex nxh57.1
  have okbh1 := okbh1.ex nxh57.1
  have okbh4 := okbh4.ex nxh57.1
  have okbh7 := okbh7.ex nxh57.1
  have okbh10 := okbh10.ex nxh57.1
  have okbh13 := okbh13.ex nxh57.1
  have okbh16 := okbh16.ex nxh57.1
  have okbh19 := okbh19.ex nxh57.1
  have okbh22 := okbh22.ex nxh57.1
  have okbh25 := okbh25.ex nxh57.1
  have okbh28 := okbh28.ex nxh57.1
  have okbh31 := okbh31.ex nxh57.1
  have okbh34 := okbh34.ex nxh57.1
  have okbh37 := okbh37.ex nxh57.1
  have okbh40 := okbh40.ex nxh57.1
  have okbh43 := okbh43.ex nxh57.1
  have okbh46 := okbh46.ex nxh57.1
  have okbh49 := okbh49.ex nxh57.1
  have okbh52 := okbh52.ex nxh57.1
  have okbh55 := okbh55.ex nxh57.1
  refine x_aload_n (pc := 161) dX12_init_161 rfl ?_
  refine x_bipush (v := 10) (pc := 162) dX12_init_162 (by decide) ?_
  obtain ⟨m59, hwp⟩ := hwp
  refine y_newa (t := 14) (N := 10) (t0 := 1) (ty := .int) (pc := 164) dX12_init_164 rfl (by decide) wk_ac_int (by decide) (by decide) (by decide) (q_C hnn hzz (by decide) (by decide)) m59 (fun h58 eh58 nwh58 okbh58 => ?_)
  have hwp := hwp h58 eh58
  have hex := hex.tr nwh58.1
  have hnn : qn h58 = qn h + 20 := by have := nwh58.2.1; omega
  have hzz : qz h58 = qz h + 2694 := by have := nwh58.2.2; omega
  have okl0 := okl0.ex nwh58.1
  have okbh1 := okbh1.ex nwh58.1
  have okbh4 := okbh4.ex nwh58.1
  have okbh7 := okbh7.ex nwh58.1
  have okbh10 := okbh10.ex nwh58.1
  have okbh13 := okbh13.ex nwh58.1
  have okbh16 := okbh16.ex nwh58.1
  have okbh19 := okbh19.ex nwh58.1
  have okbh22 := okbh22.ex nwh58.1
  have okbh25 := okbh25.ex nwh58.1
  have okbh28 := okbh28.ex nwh58.1
  have okbh31 := okbh31.ex nwh58.1
  have okbh34 := okbh34.ex nwh58.1
  have okbh37 := okbh37.ex nwh58.1
  have okbh40 := okbh40.ex nwh58.1
  have okbh43 := okbh43.ex nwh58.1
  have okbh46 := okbh46.ex nwh58.1
  have okbh49 := okbh49.ex nwh58.1
  have okbh52 := okbh52.ex nwh58.1
  have okbh55 := okbh55.ex nwh58.1
  refine y_putF rfl (pc := 166) dX12_init_166 FRX12_69 okl0 okbh58 (fun h60 eh60 nxh60 => ?_)
  have hwp := hwp h60 eh60
  have hex := hex.tr nxh60.1
  have hnn := nxh60.2.1.trans hnn
  have hzz := nxh60.2.2.trans hzz
  have okl0 := okl0.ex nxh60.1
  have okbh1 := okbh1.ex nxh60.1
  have okbh4 := okbh4.ex nxh60.1
  have okbh7 := okbh7.ex nxh60.1
  have okbh10 := okbh10.ex nxh60.1
  have okbh13 := okbh13.ex nxh60.1
  have okbh16 := okbh16.ex nxh60.1
  have okbh19 := okbh19.ex nxh60.1
  have okbh22 := okbh22.ex nxh60.1
  have okbh25 := okbh25.ex nxh60.1
  have okbh28 := okbh28.ex nxh60.1
  have okbh31 := okbh31.ex nxh60.1
  have okbh34 := okbh34.ex nxh60.1
  have okbh37 := okbh37.ex nxh60.1
  have okbh40 := okbh40.ex nxh60.1
  have okbh43 := okbh43.ex nxh60.1
  have okbh46 := okbh46.ex nxh60.1
  have okbh49 := okbh49.ex nxh60.1
  have okbh52 := okbh52.ex nxh60.1
  have okbh55 := okbh55.ex nxh60.1
  have okbh58 := okbh58.ex nxh60.1
  refine x_aload_n (pc := 169) dX12_init_169 rfl ?_
  refine x_bipush (v := 10) (pc := 170) dX12_init_170 (by decide) ?_
  obtain ⟨m62, hwp⟩ := hwp
  refine y_newa (t := 14) (N := 10) (t0 := 1) (ty := .int) (pc := 172) dX12_init_172 rfl (by decide) wk_ac_int (by decide) (by decide) (by decide) (q_C hnn hzz (by decide) (by decide)) m62 (fun h61 eh61 nwh61 okbh61 => ?_)
  have hwp := hwp h61 eh61
  have hex := hex.tr nwh61.1
  have hnn : qn h61 = qn h + 21 := by have := nwh61.2.1; omega
  have hzz : qz h61 = qz h + 2704 := by have := nwh61.2.2; omega
  have okl0 := okl0.ex nwh61.1
  have okbh1 := okbh1.ex nwh61.1
  have okbh4 := okbh4.ex nwh61.1
  have okbh7 := okbh7.ex nwh61.1
  have okbh10 := okbh10.ex nwh61.1
  have okbh13 := okbh13.ex nwh61.1
  have okbh16 := okbh16.ex nwh61.1
  have okbh19 := okbh19.ex nwh61.1
  have okbh22 := okbh22.ex nwh61.1
  have okbh25 := okbh25.ex nwh61.1
  have okbh28 := okbh28.ex nwh61.1
  have okbh31 := okbh31.ex nwh61.1
  have okbh34 := okbh34.ex nwh61.1
  have okbh37 := okbh37.ex nwh61.1
  have okbh40 := okbh40.ex nwh61.1
  have okbh43 := okbh43.ex nwh61.1
  have okbh46 := okbh46.ex nwh61.1
  have okbh49 := okbh49.ex nwh61.1
  have okbh52 := okbh52.ex nwh61.1
  have okbh55 := okbh55.ex nwh61.1
  have okbh58 := okbh58.ex nwh61.1
  refine y_putF rfl (pc := 174) dX12_init_174 FRX12_72 okl0 okbh61 (fun h63 eh63 nxh63 => ?_)
  have hwp := hwp h63 eh63
  have hex := hex.tr nxh63.1
  have hnn := nxh63.2.1.trans hnn
  have hzz := nxh63.2.2.trans hzz
  have okl0 := okl0.ex nxh63.1
  have okbh1 := okbh1.ex nxh63.1
  have okbh4 := okbh4.ex nxh63.1
  have okbh7 := okbh7.ex nxh63.1
  have okbh10 := okbh10.ex nxh63.1
  have okbh13 := okbh13.ex nxh63.1
  have okbh16 := okbh16.ex nxh63.1
  have okbh19 := okbh19.ex nxh63.1
  have okbh22 := okbh22.ex nxh63.1
  have okbh25 := okbh25.ex nxh63.1
  have okbh28 := okbh28.ex nxh63.1
  have okbh31 := okbh31.ex nxh63.1
  have okbh34 := okbh34.ex nxh63.1
  have okbh37 := okbh37.ex nxh63.1
  have okbh40 := okbh40.ex nxh63.1
  have okbh43 := okbh43.ex nxh63.1
  have okbh46 := okbh46.ex nxh63.1
  have okbh49 := okbh49.ex nxh63.1
  have okbh52 := okbh52.ex nxh63.1
  have okbh55 := okbh55.ex nxh63.1
  have okbh58 := okbh58.ex nxh63.1
  have okbh61 := okbh61.ex nxh63.1
  exact x_vret (pc := 177) dX12_init_177 rfl hex hnn hzz ⟨rfl, hwp⟩

theorem dX12_thrown_0 : decode cX12_thrown 0 = .ok (.aload_n 0, 1) := by decide +kernel
theorem dX12_thrown_1 : decode cX12_thrown 1 = .ok (.getfield 75, 3) := by decide +kernel
theorem dX12_thrown_4 : decode cX12_thrown 4 = .ok (.ireturn, 1) := by decide +kernel
def wp_X12_thrown (l0 : Nat) (h : PH) (Q : Int32 → PH → Prop) : Prop := Q (qI h l0 0) h
set_option maxHeartbeats 4000000 in
set_option maxRecDepth 100000 in
theorem sn_X12_thrown (G : GT) (d : Nat) (l0 : Nat) (h : PH) (Q : Int32 → PH → Prop) (okl0 : qOK h 11 l0) (hwp : wp_X12_thrown l0 h Q) : Mt G (0 + d) 0 0 mX12_thrown [.ref l0] h (qqi Q) := by
  unfold wp_X12_thrown at hwp
  refine Mt.of (by decide) rfl (Nat.le_of_ble_eq_true rfl) ?_
  have hex := qEx.rf h
  have hnn : qn h = qn h + 0 := rfl
  have hzz : qz h = qz h + 0 := rfl
  refine x_lvE (lv2 := [(0, .ref l0)]) rfl ?_
  refine x_aload_n (pc := 0) dX12_thrown_0 rfl ?_
  refine x_getI (pc := 1) dX12_thrown_1 qRX12_75 okl0 (by decide) ?_
  exact x_iret (pc := 4) dX12_thrown_4 rfl hex hnn hzz ⟨_, rfl, hwp⟩

theorem dX12_refuse_0 : decode cX12_refuse 0 = .ok (.aload_n 0, 1) := by decide +kernel
theorem dX12_refuse_1 : decode cX12_refuse 1 = .ok (.iconst 1, 1) := by decide +kernel
theorem dX12_refuse_2 : decode cX12_refuse 2 = .ok (.putfield 75, 3) := by decide +kernel
theorem dX12_refuse_5 : decode cX12_refuse 5 = .ok (.iconst 0, 1) := by decide +kernel
theorem dX12_refuse_6 : decode cX12_refuse 6 = .ok (.ireturn, 1) := by decide +kernel
def wp_X12_refuse (l0 : Nat) (h : PH) (Q : Int32 → PH → Prop) : Prop := (∀ h1, h1 = qsI h l0 0 1 → Q 0 h1)
set_option maxHeartbeats 4000000 in
set_option maxRecDepth 100000 in
theorem sn_X12_refuse (G : GT) (d : Nat) (l0 : Nat) (h : PH) (Q : Int32 → PH → Prop) (okl0 : qOK h 11 l0) (hwp : wp_X12_refuse l0 h Q) : Mt G (0 + d) 0 0 mX12_refuse [.ref l0] h (qqi Q) := by
  unfold wp_X12_refuse at hwp
  refine Mt.of (by decide) rfl (Nat.le_of_ble_eq_true rfl) ?_
  have hex := qEx.rf h
  have hnn : qn h = qn h + 0 := rfl
  have hzz : qz h = qz h + 0 := rfl
  refine x_lvE (lv2 := [(0, .ref l0)]) rfl ?_
  refine x_aload_n (pc := 0) dX12_refuse_0 rfl ?_
  refine x_iconst (v := 1) (pc := 1) dX12_refuse_1 (by decide) ?_
  refine y_putI (pc := 2) dX12_refuse_2 qRX12_75 okl0 (fun h1 eh1 nxh1 => ?_)
  have hwp := hwp h1 eh1
  have hex := hex.tr nxh1.1
  have hnn := nxh1.2.1.trans hnn
  have hzz := nxh1.2.2.trans hzz
  have okl0 := okl0.ex nxh1.1
  refine x_iconst (v := 0) (pc := 5) dX12_refuse_5 (by decide) ?_
  exact x_iret (pc := 6) dX12_refuse_6 rfl hex hnn hzz ⟨_, rfl, hwp⟩

theorem dX12_come_0 : decode cX12_come 0 = .ok (.bipush 24, 2) := by decide +kernel
theorem dX12_come_2 : decode cX12_come 2 = .ok (.istore_n 2, 1) := by decide +kernel
theorem dX12_come_3 : decode cX12_come 3 = .ok (.iload_n 2, 1) := by decide +kernel
theorem dX12_come_4 : decode cX12_come 4 = .ok (.ifCond .lt 35, 3) := by decide +kernel
theorem dX12_come_7 : decode cX12_come 7 = .ok (.aload_n 0, 1) := by decide +kernel
theorem dX12_come_8 : decode cX12_come 8 = .ok (.getfield 7, 3) := by decide +kernel
theorem dX12_come_11 : decode cX12_come 11 = .ok (.aload_n 0, 1) := by decide +kernel
theorem dX12_come_12 : decode cX12_come 12 = .ok (.getfield 79, 3) := by decide +kernel
theorem dX12_come_15 : decode cX12_come 15 = .ok (.iload_n 1, 1) := by decide +kernel
theorem dX12_come_16 : decode cX12_come 16 = .ok (.iload_n 2, 1) := by decide +kernel
theorem dX12_come_17 : decode cX12_come 17 = .ok (.iushr, 1) := by decide +kernel
theorem dX12_come_18 : decode cX12_come 18 = .ok (.sipush 255, 3) := by decide +kernel
theorem dX12_come_21 : decode cX12_come 21 = .ok (.iand, 1) := by decide +kernel
theorem dX12_come_22 : decode cX12_come 22 = .ok (.iastore, 1) := by decide +kernel
theorem dX12_come_23 : decode cX12_come 23 = .ok (.aload_n 0, 1) := by decide +kernel
theorem dX12_come_24 : decode cX12_come 24 = .ok (.dup, 1) := by decide +kernel
theorem dX12_come_25 : decode cX12_come 25 = .ok (.getfield 79, 3) := by decide +kernel
theorem dX12_come_28 : decode cX12_come 28 = .ok (.iconst 1, 1) := by decide +kernel
theorem dX12_come_29 : decode cX12_come 29 = .ok (.iadd, 1) := by decide +kernel
theorem dX12_come_30 : decode cX12_come 30 = .ok (.putfield 79, 3) := by decide +kernel
theorem dX12_come_33 : decode cX12_come 33 = .ok (.iinc 2 (-8), 3) := by decide +kernel
theorem dX12_come_36 : decode cX12_come 36 = .ok (.goto (-33), 3) := by decide +kernel
theorem dX12_come_39 : decode cX12_come 39 = .ok (.return_, 1) := by decide +kernel
def E_X12_come_3 (G : GT) (d : Nat) (h0 hb : PH) (l0 : Nat) (l1 : Int32) (Q : PH → Prop) (s : Int32 × PH) : Prop := qEx hb s.2 ∧ qn s.2 = qn hb ∧ qz s.2 = qz hb → Ex G (qrm (0 + d) 0 0) mX12_come (qn h0) (qz h0) (ZN G h0 0 0 (qqv Q)) 3 [(0, .ref l0), (1, .int l1), (2, .int s.1)] [] s.2
def wb_X12_come_3 (l0 : Nat) (l1 : Int32)  (Q : PH → Prop) (bk3 : Int32 × PH → Prop) (l2 : Int32) (h : PH) : Prop := ((l2 < 0 → Q h) ∧ (¬ (l2 < 0) → (∃ b2, qR h l0 1 = some b2 ∧ (vp_in (qI h l0 2) (qL h b2) ∧ ∀ h4, h4 = qsI h b2 (qI h l0 2).toNatClampNeg ((q_ushr l1 l2) &&& 255) → (∀ h6, h6 = qsI h4 l0 2 ((qI h4 l0 2) + 1) → ∀ v7 : Int32, v7 = l2 + (-8) → bk3 (v7, h6))))))
def wp_X12_come_3 (l0 : Nat) (l1 : Int32)  (Q : PH → Prop) (bk3 : Int32 × PH → Prop) (s : Int32 × PH) : Prop := wb_X12_come_3 l0 l1 Q bk3 s.1 s.2
set_option maxHeartbeats 4000000 in
set_option maxRecDepth 100000 in
theorem bd_X12_come_3 (G : GT) (d : Nat) (h0 hb : PH) (l0 : Nat) (l1 : Int32) (Q : PH → Prop)  (hex : qEx h0 hb) (hnn : qn hb = qn h0 + 0) (hzz : qz hb = qz h0 + 0) (okl0 : qOK hb 11 l0) (bk3 : Int32 × PH → Prop) (hbk3 : ∀ s2, bk3 s2 → E_X12_come_3 G d h0 hb l0 l1 Q s2) (l2 : Int32) (h : PH) (hwp : wb_X12_come_3 l0 l1 Q bk3 l2 h) (hx3 : qEx hb h) (hn3 : qn h = qn hb) (hz3 : qz h = qz hb) : Ex G (qrm (0 + d) 0 0) mX12_come (qn h0) (qz h0) (ZN G h0 0 0 (qqv Q)) 3 [(0, .ref l0), (1, .int l1), (2, .int l2)] [] h := by
  unfold wb_X12_come_3 at hwp
  have hex := hex.tr hx3
  have hnn := hn3.trans hnn
  have hzz := hz3.trans hzz
  have okl0 := okl0.ex hx3
  refine x_iload_n (pc := 3) dX12_come_3 rfl ?_
  refine x_if_lt (tgt := 39) (pc := 4) dX12_come_4 (by decide) (fun c1 => ?_) (fun c1 => ?_)
  · have hwp := hwp.1 c1
    exact x_vret (pc := 39) dX12_come_39 rfl hex hnn hzz ⟨rfl, hwp⟩
  · have hwp := hwp.2 c1
    refine x_aload_n (pc := 7) dX12_come_7 rfl ?_
    obtain ⟨b2, e3, hwp⟩ := hwp
    refine x_getR (pc := 8) dX12_come_8 qRX12_7 okl0 e3 (fun okb2 => ?_)
    refine x_aload_n (pc := 11) dX12_come_11 rfl ?_
    refine x_getI (pc := 12) dX12_come_12 qRX12_79 okl0 (by decide) ?_
    refine x_iload_n (pc := 15) dX12_come_15 rfl ?_
    refine x_iload_n (pc := 16) dX12_come_16 rfl ?_
    refine x_iushr (pc := 17) dX12_come_17 ?_
    refine x_sipush (v := 255) (pc := 18) dX12_come_18 (by decide) ?_
    refine x_iand (pc := 21) dX12_come_21 ?_
    obtain ⟨i5, hwp⟩ := hwp
    refine y_iastore (pc := 22) dX12_come_22 okb2 i5 (fun h4 eh4 nxh4 => ?_)
    have hwp := hwp h4 eh4
    have hex := hex.tr nxh4.1
    have hnn := nxh4.2.1.trans hnn
    have hzz := nxh4.2.2.trans hzz
    have hx3 := hx3.tr nxh4.1
    have hn3 := nxh4.2.1.trans hn3
    have hz3 := nxh4.2.2.trans hz3
    have okl0 := okl0.ex nxh4.1
    have okb2 := okb2.ex nxh4.1
    refine x_aload_n (pc := 23) dX12_come_23 rfl ?_
    refine x_dup (pc := 24) dX12_come_24 rfl ?_
    refine x_getI (pc := 25) dX12_come_25 qRX12_79 okl0 (by decide) ?_
    refine x_iconst (v := 1) (pc := 28) dX12_come_28 (by decide) ?_
    refine x_iadd (pc := 29) dX12_come_29 ?_
    refine y_putI (pc := 30) dX12_come_30 qRX12_79 okl0 (fun h6 eh6 nxh6 => ?_)
    have hwp := hwp h6 eh6
    have hex := hex.tr nxh6.1
    have hnn := nxh6.2.1.trans hnn
    have hzz := nxh6.2.2.trans hzz
    have hx3 := hx3.tr nxh6.1
    have hn3 := nxh6.2.1.trans hn3
    have hz3 := nxh6.2.2.trans hz3
    have okl0 := okl0.ex nxh6.1
    have okb2 := okb2.ex nxh6.1
    refine y_iinc (c := (-8)) (pc := 33) dX12_come_33 rfl (by decide) (by decide) (fun v7 ev7 => ?_)
    have hwp := hwp v7 ev7
    refine x_lvE (lv2 := [(2, .int v7), (0, .ref l0), (1, .int l1)]) rfl ?_
    refine x_goto (tgt := 3) (pc := 36) dX12_come_36 (by decide) ?_
    refine x_sub [1, 2, 0] rfl ?_
    exact hbk3 _ hwp ⟨hx3, hn3, hz3⟩
theorem lp_X12_come_3 (G : GT) (d : Nat) (h0 hb : PH) (l0 : Nat) (l1 : Int32) (Q : PH → Prop)  (hex : qEx h0 hb) (hnn : qn hb = qn h0 + 0) (hzz : qz hb = qz h0 + 0) (okl0 : qOK hb 11 l0) {s : Int32 × PH} (hwp : qLoop (wp_X12_come_3 l0 l1 Q) s) : E_X12_come_3 G d h0 hb l0 l1 Q s :=
  qLoop.use (E := E_X12_come_3 G d h0 hb l0 l1 Q) (fun back s hbk hw hx => bd_X12_come_3 G d h0 hb l0 l1 Q hex hnn hzz okl0 back hbk s.1 s.2 hw hx.1 hx.2.1 hx.2.2) hwp
def wp_X12_come (l0 : Nat) (l1 : Int32) (h : PH) (Q : PH → Prop) : Prop := (qLoop (wp_X12_come_3 l0 l1 Q) (24, h))
set_option maxHeartbeats 4000000 in
set_option maxRecDepth 100000 in
theorem sn_X12_come (G : GT) (d : Nat) (l0 : Nat) (l1 : Int32) (h : PH) (Q : PH → Prop) (okl0 : qOK h 11 l0) (hwp : wp_X12_come l0 l1 h Q) : Mt G (0 + d) 0 0 mX12_come [.ref l0, .int l1] h (qqv Q) := by
  unfold wp_X12_come at hwp
  refine Mt.of (by decide) rfl (Nat.le_of_ble_eq_true rfl) ?_
  have hex := qEx.rf h
  have hnn : qn h = qn h + 0 := rfl
  have hzz : qz h = qz h + 0 := rfl
  refine x_lvE (lv2 := [(0, .ref l0), (1, .int l1)]) rfl ?_
  refine x_bipush (v := 24) (pc := 0) dX12_come_0 (by decide) ?_
  refine x_istore_n (lv2 := [(2, .int 24), (0, .ref l0), (1, .int l1)]) (pc := 2) dX12_come_2 (by decide) rfl ?_
  refine x_sub [1, 2, 0] rfl ?_
  exact lp_X12_come_3 G d h h l0 l1 Q hex hnn hzz okl0 hwp ⟨qEx.rf _, rfl, rfl⟩

theorem dX12_feed_0 : decode cX12_feed 0 = .ok (.aload_n 0, 1) := by decide +kernel
theorem dX12_feed_1 : decode cX12_feed 1 = .ok (.iconst 0, 1) := by decide +kernel
theorem dX12_feed_2 : decode cX12_feed 2 = .ok (.putfield 75, 3) := by decide +kernel
theorem dX12_feed_5 : decode cX12_feed 5 = .ok (.aload_n 0, 1) := by decide +kernel
theorem dX12_feed_6 : decode cX12_feed 6 = .ok (.getfield 79, 3) := by decide +kernel
theorem dX12_feed_9 : decode cX12_feed 9 = .ok (.bipush 20, 2) := by decide +kernel
theorem dX12_feed_11 : decode cX12_feed 11 = .ok (.iadd, 1) := by decide +kernel
theorem dX12_feed_12 : decode cX12_feed 12 = .ok (.sipush 640, 3) := by decide +kernel
theorem dX12_feed_15 : decode cX12_feed 15 = .ok (.if_icmp .le 5, 3) := by decide +kernel
theorem dX12_feed_18 : decode cX12_feed 18 = .ok (.iconst (-1), 1) := by decide +kernel
theorem dX12_feed_19 : decode cX12_feed 19 = .ok (.ireturn, 1) := by decide +kernel
theorem dX12_feed_20 : decode cX12_feed 20 = .ok (.aload_n 0, 1) := by decide +kernel
theorem dX12_feed_21 : decode cX12_feed 21 = .ok (.iload_n 1, 1) := by decide +kernel
theorem dX12_feed_22 : decode cX12_feed 22 = .ok (.invokevirtual 82, 3) := by decide +kernel
theorem dX12_feed_25 : decode cX12_feed 25 = .ok (.aload_n 0, 1) := by decide +kernel
theorem dX12_feed_26 : decode cX12_feed 26 = .ok (.iload_n 2, 1) := by decide +kernel
theorem dX12_feed_27 : decode cX12_feed 27 = .ok (.invokevirtual 82, 3) := by decide +kernel
theorem dX12_feed_30 : decode cX12_feed 30 = .ok (.aload_n 0, 1) := by decide +kernel
theorem dX12_feed_31 : decode cX12_feed 31 = .ok (.iload_n 3, 1) := by decide +kernel
theorem dX12_feed_32 : decode cX12_feed 32 = .ok (.invokevirtual 82, 3) := by decide +kernel
theorem dX12_feed_35 : decode cX12_feed 35 = .ok (.aload_n 0, 1) := by decide +kernel
theorem dX12_feed_36 : decode cX12_feed 36 = .ok (.iload 4, 2) := by decide +kernel
theorem dX12_feed_38 : decode cX12_feed 38 = .ok (.invokevirtual 82, 3) := by decide +kernel
theorem dX12_feed_41 : decode cX12_feed 41 = .ok (.aload_n 0, 1) := by decide +kernel
theorem dX12_feed_42 : decode cX12_feed 42 = .ok (.iload 5, 2) := by decide +kernel
theorem dX12_feed_44 : decode cX12_feed 44 = .ok (.invokevirtual 82, 3) := by decide +kernel
theorem dX12_feed_47 : decode cX12_feed 47 = .ok (.aload_n 0, 1) := by decide +kernel
theorem dX12_feed_48 : decode cX12_feed 48 = .ok (.getfield 79, 3) := by decide +kernel
theorem dX12_feed_51 : decode cX12_feed 51 = .ok (.ireturn, 1) := by decide +kernel
def wp_X12_feed (l0 : Nat) (l1 : Int32) (l2 : Int32) (l3 : Int32) (l4 : Int32) (l5 : Int32) (h : PH) (Q : Int32 → PH → Prop) : Prop := (∀ h1, h1 = qsI h l0 0 0 → ((((qI h1 l0 2) + 20) ≤ 640 → (wp_X12_come l0 l1 h1 (fun h3 => (wp_X12_come l0 l2 h3 (fun h5 => (wp_X12_come l0 l3 h5 (fun h7 => (wp_X12_come l0 l4 h7 (fun h9 => (wp_X12_come l0 l5 h9 (fun h11 => Q (qI h11 l0 2) h11))))))))))) ∧ (¬ (((qI h1 l0 2) + 20) ≤ 640) → Q (-1) h1)))
set_option maxHeartbeats 4000000 in
set_option maxRecDepth 100000 in
theorem sn_X12_feed (G : GT) (d : Nat) (l0 : Nat) (l1 : Int32) (l2 : Int32) (l3 : Int32) (l4 : Int32) (l5 : Int32) (h : PH) (Q : Int32 → PH → Prop) (okl0 : qOK h 11 l0) (hwp : wp_X12_feed l0 l1 l2 l3 l4 l5 h Q) : Mt G (1 + d) 0 0 mX12_feed [.ref l0, .int l1, .int l2, .int l3, .int l4, .int l5] h (qqi Q) := by
  unfold wp_X12_feed at hwp
  refine Mt.of (by decide) rfl (Nat.le_of_ble_eq_true rfl) ?_
  have hex := qEx.rf h
  have hnn : qn h = qn h + 0 := rfl
  have hzz : qz h = qz h + 0 := rfl
  refine x_lvE (lv2 := [(0, .ref l0), (1, .int l1), (2, .int l2), (3, .int l3), (4, .int l4), (5, .int l5)]) rfl ?_
  refine x_aload_n (pc := 0) dX12_feed_0 rfl ?_
  refine x_iconst (v := 0) (pc := 1) dX12_feed_1 (by decide) ?_
  refine y_putI (pc := 2) dX12_feed_2 qRX12_75 okl0 (fun h1 eh1 nxh1 => ?_)
  have hwp := hwp h1 eh1
  have hex := hex.tr nxh1.1
  have hnn := nxh1.2.1.trans hnn
  have hzz := nxh1.2.2.trans hzz
  have okl0 := okl0.ex nxh1.1
  refine x_aload_n (pc := 5) dX12_feed_5 rfl ?_
  refine x_getI (pc := 6) dX12_feed_6 qRX12_79 okl0 (by decide) ?_
  refine x_bipush (v := 20) (pc := 9) dX12_feed_9 (by decide) ?_
  refine x_iadd (pc := 11) dX12_feed_11 ?_
  refine x_sipush (v := 640) (pc := 12) dX12_feed_12 (by decide) ?_
  refine x_icmp_le (tgt := 20) (pc := 15) dX12_feed_15 (by decide) (fun c2 => ?_) (fun c2 => ?_)
  · have hwp := hwp.1 c2
    refine x_aload_n (pc := 20) dX12_feed_20 rfl ?_
    refine x_iload_n (pc := 21) dX12_feed_21 rfl ?_
    refine x_invV (As := [.int l1]) (st := []) (pc := 22) dX12_feed_22 lRX12_82 fX12_come vX12_come okl0 rfl (Nat.le_of_ble_eq_true rfl) (q_R (by omega) (by decide)) (q_C hnn hzz (by decide) (by decide)) (sn_X12_come G (d + 0) l0 l1 h1 _ okl0 hwp) (k_v (fun h3 hwp cxh3 => ?_))
    have hex := hex.tr cxh3.1
    have hnn : qn h3 = qn h + 0 := by have := cxh3.2.1; omega
    have hzz : qz h3 = qz h + 0 := by have := cxh3.2.2; omega
    have okl0 := okl0.ex cxh3.1
    refine x_aload_n (pc := 25) dX12_feed_25 rfl ?_
    refine x_iload_n (pc := 26) dX12_feed_26 rfl ?_
    refine x_invV (As := [.int l2]) (st := []) (pc := 27) dX12_feed_27 lRX12_82 fX12_come vX12_come okl0 rfl (Nat.le_of_ble_eq_true rfl) (q_R (by omega) (by decide)) (q_C hnn hzz (by decide) (by decide)) (sn_X12_come G (d + 0) l0 l2 h3 _ okl0 hwp) (k_v (fun h5 hwp cxh5 => ?_))
    have hex := hex.tr cxh5.1
    have hnn : qn h5 = qn h + 0 := by have := cxh5.2.1; omega
    have hzz : qz h5 = qz h + 0 := by have := cxh5.2.2; omega
    have okl0 := okl0.ex cxh5.1
    refine x_aload_n (pc := 30) dX12_feed_30 rfl ?_
    refine x_iload_n (pc := 31) dX12_feed_31 rfl ?_
    refine x_invV (As := [.int l3]) (st := []) (pc := 32) dX12_feed_32 lRX12_82 fX12_come vX12_come okl0 rfl (Nat.le_of_ble_eq_true rfl) (q_R (by omega) (by decide)) (q_C hnn hzz (by decide) (by decide)) (sn_X12_come G (d + 0) l0 l3 h5 _ okl0 hwp) (k_v (fun h7 hwp cxh7 => ?_))
    have hex := hex.tr cxh7.1
    have hnn : qn h7 = qn h + 0 := by have := cxh7.2.1; omega
    have hzz : qz h7 = qz h + 0 := by have := cxh7.2.2; omega
    have okl0 := okl0.ex cxh7.1
    refine x_aload_n (pc := 35) dX12_feed_35 rfl ?_
    refine x_iload (pc := 36) dX12_feed_36 rfl ?_
    refine x_invV (As := [.int l4]) (st := []) (pc := 38) dX12_feed_38 lRX12_82 fX12_come vX12_come okl0 rfl (Nat.le_of_ble_eq_true rfl) (q_R (by omega) (by decide)) (q_C hnn hzz (by decide) (by decide)) (sn_X12_come G (d + 0) l0 l4 h7 _ okl0 hwp) (k_v (fun h9 hwp cxh9 => ?_))
    have hex := hex.tr cxh9.1
    have hnn : qn h9 = qn h + 0 := by have := cxh9.2.1; omega
    have hzz : qz h9 = qz h + 0 := by have := cxh9.2.2; omega
    have okl0 := okl0.ex cxh9.1
    refine x_aload_n (pc := 41) dX12_feed_41 rfl ?_
    refine x_iload (pc := 42) dX12_feed_42 rfl ?_
    refine x_invV (As := [.int l5]) (st := []) (pc := 44) dX12_feed_44 lRX12_82 fX12_come vX12_come okl0 rfl (Nat.le_of_ble_eq_true rfl) (q_R (by omega) (by decide)) (q_C hnn hzz (by decide) (by decide)) (sn_X12_come G (d + 0) l0 l5 h9 _ okl0 hwp) (k_v (fun h11 hwp cxh11 => ?_))
    have hex := hex.tr cxh11.1
    have hnn : qn h11 = qn h + 0 := by have := cxh11.2.1; omega
    have hzz : qz h11 = qz h + 0 := by have := cxh11.2.2; omega
    have okl0 := okl0.ex cxh11.1
    refine x_aload_n (pc := 47) dX12_feed_47 rfl ?_
    refine x_getI (pc := 48) dX12_feed_48 qRX12_79 okl0 (by decide) ?_
    exact x_iret (pc := 51) dX12_feed_51 rfl hex hnn hzz ⟨_, rfl, hwp⟩
  · have hwp := hwp.2 c2
    refine x_iconst (v := (-1)) (pc := 18) dX12_feed_18 (by decide) ?_
    exact x_iret (pc := 19) dX12_feed_19 rfl hex hnn hzz ⟨_, rfl, hwp⟩

theorem dX12_end_0 : decode cX12_end 0 = .ok (.aload_n 0, 1) := by decide +kernel
theorem dX12_end_1 : decode cX12_end 1 = .ok (.iconst 0, 1) := by decide +kernel
theorem dX12_end_2 : decode cX12_end 2 = .ok (.putfield 75, 3) := by decide +kernel
theorem dX12_end_5 : decode cX12_end 5 = .ok (.iload_n 1, 1) := by decide +kernel
theorem dX12_end_6 : decode cX12_end 6 = .ok (.ifCond .lt 11, 3) := by decide +kernel
theorem dX12_end_9 : decode cX12_end 9 = .ok (.iload_n 1, 1) := by decide +kernel
theorem dX12_end_10 : decode cX12_end 10 = .ok (.aload_n 0, 1) := by decide +kernel
theorem dX12_end_11 : decode cX12_end 11 = .ok (.getfield 79, 3) := by decide +kernel
theorem dX12_end_14 : decode cX12_end 14 = .ok (.if_icmp .le 5, 3) := by decide +kernel
theorem dX12_end_17 : decode cX12_end 17 = .ok (.iconst 0, 1) := by decide +kernel
theorem dX12_end_18 : decode cX12_end 18 = .ok (.ireturn, 1) := by decide +kernel
theorem dX12_end_19 : decode cX12_end 19 = .ok (.aload_n 0, 1) := by decide +kernel
theorem dX12_end_20 : decode cX12_end 20 = .ok (.iload_n 1, 1) := by decide +kernel
theorem dX12_end_21 : decode cX12_end 21 = .ok (.putfield 79, 3) := by decide +kernel
theorem dX12_end_24 : decode cX12_end 24 = .ok (.iconst 1, 1) := by decide +kernel
theorem dX12_end_25 : decode cX12_end 25 = .ok (.ireturn, 1) := by decide +kernel
def wp_X12_end (l0 : Nat) (l1 : Int32) (h : PH) (Q : Int32 → PH → Prop) : Prop := (∀ h1, h1 = qsI h l0 0 0 → ((l1 < 0 → Q 0 h1) ∧ (¬ (l1 < 0) → ((l1 ≤ (qI h1 l0 2) → (∀ h4, h4 = qsI h1 l0 2 l1 → Q 1 h4)) ∧ (¬ (l1 ≤ (qI h1 l0 2)) → Q 0 h1)))))
set_option maxHeartbeats 4000000 in
set_option maxRecDepth 100000 in
theorem sn_X12_end (G : GT) (d : Nat) (l0 : Nat) (l1 : Int32) (h : PH) (Q : Int32 → PH → Prop) (okl0 : qOK h 11 l0) (hwp : wp_X12_end l0 l1 h Q) : Mt G (0 + d) 0 0 mX12_end [.ref l0, .int l1] h (qqb Q) := by
  unfold wp_X12_end at hwp
  refine Mt.of (by decide) rfl (Nat.le_of_ble_eq_true rfl) ?_
  have hex := qEx.rf h
  have hnn : qn h = qn h + 0 := rfl
  have hzz : qz h = qz h + 0 := rfl
  refine x_lvE (lv2 := [(0, .ref l0), (1, .int l1)]) rfl ?_
  refine x_aload_n (pc := 0) dX12_end_0 rfl ?_
  refine x_iconst (v := 0) (pc := 1) dX12_end_1 (by decide) ?_
  refine y_putI (pc := 2) dX12_end_2 qRX12_75 okl0 (fun h1 eh1 nxh1 => ?_)
  have hwp := hwp h1 eh1
  have hex := hex.tr nxh1.1
  have hnn := nxh1.2.1.trans hnn
  have hzz := nxh1.2.2.trans hzz
  have okl0 := okl0.ex nxh1.1
  refine x_iload_n (pc := 5) dX12_end_5 rfl ?_
  refine x_if_lt (tgt := 17) (pc := 6) dX12_end_6 (by decide) (fun c2 => ?_) (fun c2 => ?_)
  · have hwp := hwp.1 c2
    refine x_iconst (v := 0) (pc := 17) dX12_end_17 (by decide) ?_
    exact x_zret (pc := 18) dX12_end_18 rfl hex hnn hzz (by decide) ⟨_, rfl, by decide, hwp⟩
  · have hwp := hwp.2 c2
    refine x_iload_n (pc := 9) dX12_end_9 rfl ?_
    refine x_aload_n (pc := 10) dX12_end_10 rfl ?_
    refine x_getI (pc := 11) dX12_end_11 qRX12_79 okl0 (by decide) ?_
    refine x_icmp_le (tgt := 19) (pc := 14) dX12_end_14 (by decide) (fun c3 => ?_) (fun c3 => ?_)
    · have hwp := hwp.1 c3
      refine x_aload_n (pc := 19) dX12_end_19 rfl ?_
      refine x_iload_n (pc := 20) dX12_end_20 rfl ?_
      refine y_putI (pc := 21) dX12_end_21 qRX12_79 okl0 (fun h4 eh4 nxh4 => ?_)
      have hwp := hwp h4 eh4
      have hex := hex.tr nxh4.1
      have hnn := nxh4.2.1.trans hnn
      have hzz := nxh4.2.2.trans hzz
      have okl0 := okl0.ex nxh4.1
      refine x_iconst (v := 1) (pc := 24) dX12_end_24 (by decide) ?_
      exact x_zret (pc := 25) dX12_end_25 rfl hex hnn hzz (by decide) ⟨_, rfl, by decide, hwp⟩
    · have hwp := hwp.2 c3
      refine x_iconst (v := 0) (pc := 17) dX12_end_17 (by decide) ?_
      exact x_zret (pc := 18) dX12_end_18 rfl hex hnn hzz (by decide) ⟨_, rfl, by decide, hwp⟩

theorem dX12_take_0 : decode cX12_take 0 = .ok (.aload_n 0, 1) := by decide +kernel
theorem dX12_take_1 : decode cX12_take 1 = .ok (.getfield 79, 3) := by decide +kernel
theorem dX12_take_4 : decode cX12_take 4 = .ok (.istore_n 1, 1) := by decide +kernel
theorem dX12_take_5 : decode cX12_take 5 = .ok (.aload_n 0, 1) := by decide +kernel
theorem dX12_take_6 : decode cX12_take 6 = .ok (.iconst 0, 1) := by decide +kernel
theorem dX12_take_7 : decode cX12_take 7 = .ok (.putfield 79, 3) := by decide +kernel
theorem dX12_take_10 : decode cX12_take 10 = .ok (.iload_n 1, 1) := by decide +kernel
theorem dX12_take_11 : decode cX12_take 11 = .ok (.ireturn, 1) := by decide +kernel
def wp_X12_take (l0 : Nat) (h : PH) (Q : Int32 → PH → Prop) : Prop := ∀ v1 : Int32, v1 = qI h l0 2 → (∀ h2, h2 = qsI h l0 2 0 → Q v1 h2)
set_option maxHeartbeats 4000000 in
set_option maxRecDepth 100000 in
theorem sn_X12_take (G : GT) (d : Nat) (l0 : Nat) (h : PH) (Q : Int32 → PH → Prop) (okl0 : qOK h 11 l0) (hwp : wp_X12_take l0 h Q) : Mt G (0 + d) 0 0 mX12_take [.ref l0] h (qqi Q) := by
  unfold wp_X12_take at hwp
  refine Mt.of (by decide) rfl (Nat.le_of_ble_eq_true rfl) ?_
  have hex := qEx.rf h
  have hnn : qn h = qn h + 0 := rfl
  have hzz : qz h = qz h + 0 := rfl
  refine x_lvE (lv2 := [(0, .ref l0)]) rfl ?_
  refine x_aload_n (pc := 0) dX12_take_0 rfl ?_
  refine x_getI (pc := 1) dX12_take_1 qRX12_79 okl0 (by decide) ?_
  refine x_nmI (fun v1 ev1 => ?_)
  have hwp := hwp v1 ev1
  refine x_istore_n (lv2 := [(1, .int v1), (0, .ref l0)]) (pc := 4) dX12_take_4 (by decide) rfl ?_
  refine x_aload_n (pc := 5) dX12_take_5 rfl ?_
  refine x_iconst (v := 0) (pc := 6) dX12_take_6 (by decide) ?_
  refine y_putI (pc := 7) dX12_take_7 qRX12_79 okl0 (fun h2 eh2 nxh2 => ?_)
  have hwp := hwp h2 eh2
  have hex := hex.tr nxh2.1
  have hnn := nxh2.2.1.trans hnn
  have hzz := nxh2.2.2.trans hzz
  have okl0 := okl0.ex nxh2.1
  refine x_iload_n (pc := 10) dX12_take_10 rfl ?_
  exact x_iret (pc := 11) dX12_take_11 rfl hex hnn hzz ⟨_, rfl, hwp⟩

theorem dX12_isIn_0 : decode cX12_isIn 0 = .ok (.iload_n 0, 1) := by decide +kernel
theorem dX12_isIn_1 : decode cX12_isIn 1 = .ok (.iload_n 1, 1) := by decide +kernel
theorem dX12_isIn_2 : decode cX12_isIn 2 = .ok (.if_icmp .lt 12, 3) := by decide +kernel
theorem dX12_isIn_5 : decode cX12_isIn 5 = .ok (.iload_n 0, 1) := by decide +kernel
theorem dX12_isIn_6 : decode cX12_isIn 6 = .ok (.iload_n 2, 1) := by decide +kernel
theorem dX12_isIn_7 : decode cX12_isIn 7 = .ok (.if_icmp .gt 7, 3) := by decide +kernel
theorem dX12_isIn_10 : decode cX12_isIn 10 = .ok (.iconst 1, 1) := by decide +kernel
theorem dX12_isIn_11 : decode cX12_isIn 11 = .ok (.goto 4, 3) := by decide +kernel
theorem dX12_isIn_14 : decode cX12_isIn 14 = .ok (.iconst 0, 1) := by decide +kernel
theorem dX12_isIn_15 : decode cX12_isIn 15 = .ok (.ireturn, 1) := by decide +kernel
def wp_X12_isIn (l0 : Int32) (l1 : Int32) (l2 : Int32) (h : PH) (Q : Int32 → PH → Prop) : Prop := ((l0 < l1 → Q 0 h) ∧ (¬ (l0 < l1) → ((l2 < l0 → Q 0 h) ∧ (¬ (l2 < l0) → Q 1 h))))
set_option maxHeartbeats 4000000 in
set_option maxRecDepth 100000 in
theorem sn_X12_isIn (G : GT) (d : Nat) (l0 : Int32) (l1 : Int32) (l2 : Int32) (h : PH) (Q : Int32 → PH → Prop)  (hwp : wp_X12_isIn l0 l1 l2 h Q) : Mt G (0 + d) 0 0 mX12_isIn [.int l0, .int l1, .int l2] h (qqb Q) := by
  unfold wp_X12_isIn at hwp
  refine Mt.of (by decide) rfl (Nat.le_of_ble_eq_true rfl) ?_
  have hex := qEx.rf h
  have hnn : qn h = qn h + 0 := rfl
  have hzz : qz h = qz h + 0 := rfl
  refine x_lvE (lv2 := [(0, .int l0), (1, .int l1), (2, .int l2)]) rfl ?_
  refine x_iload_n (pc := 0) dX12_isIn_0 rfl ?_
  refine x_iload_n (pc := 1) dX12_isIn_1 rfl ?_
  refine x_icmp_lt (tgt := 14) (pc := 2) dX12_isIn_2 (by decide) (fun c1 => ?_) (fun c1 => ?_)
  · have hwp := hwp.1 c1
    refine x_iconst (v := 0) (pc := 14) dX12_isIn_14 (by decide) ?_
    exact x_zret (pc := 15) dX12_isIn_15 rfl hex hnn hzz (by decide) ⟨_, rfl, by decide, hwp⟩
  · have hwp := hwp.2 c1
    refine x_iload_n (pc := 5) dX12_isIn_5 rfl ?_
    refine x_iload_n (pc := 6) dX12_isIn_6 rfl ?_
    refine x_icmp_gt (tgt := 14) (pc := 7) dX12_isIn_7 (by decide) (fun c2 => ?_) (fun c2 => ?_)
    · have hwp := hwp.1 c2
      refine x_iconst (v := 0) (pc := 14) dX12_isIn_14 (by decide) ?_
      exact x_zret (pc := 15) dX12_isIn_15 rfl hex hnn hzz (by decide) ⟨_, rfl, by decide, hwp⟩
    · have hwp := hwp.2 c2
      refine x_iconst (v := 1) (pc := 10) dX12_isIn_10 (by decide) ?_
      refine x_goto (tgt := 15) (pc := 11) dX12_isIn_11 (by decide) ?_
      exact x_zret (pc := 15) dX12_isIn_15 rfl hex hnn hzz (by decide) ⟨_, rfl, by decide, hwp⟩

theorem dX12_byteAt_0 : decode cX12_byteAt 0 = .ok (.iload_n 1, 1) := by decide +kernel
theorem dX12_byteAt_1 : decode cX12_byteAt 1 = .ok (.aload_n 0, 1) := by decide +kernel
theorem dX12_byteAt_2 : decode cX12_byteAt 2 = .ok (.getfield 86, 3) := by decide +kernel
theorem dX12_byteAt_5 : decode cX12_byteAt 5 = .ok (.if_icmp .ge 12, 3) := by decide +kernel
theorem dX12_byteAt_8 : decode cX12_byteAt 8 = .ok (.aload_n 0, 1) := by decide +kernel
theorem dX12_byteAt_9 : decode cX12_byteAt 9 = .ok (.getfield 7, 3) := by decide +kernel
theorem dX12_byteAt_12 : decode cX12_byteAt 12 = .ok (.iload_n 1, 1) := by decide +kernel
theorem dX12_byteAt_13 : decode cX12_byteAt 13 = .ok (.iaload, 1) := by decide +kernel
theorem dX12_byteAt_14 : decode cX12_byteAt 14 = .ok (.goto 4, 3) := by decide +kernel
theorem dX12_byteAt_17 : decode cX12_byteAt 17 = .ok (.iconst 0, 1) := by decide +kernel
theorem dX12_byteAt_18 : decode cX12_byteAt 18 = .ok (.ireturn, 1) := by decide +kernel
def wp_X12_byteAt (l0 : Nat) (l1 : Int32) (h : PH) (Q : Int32 → PH → Prop) : Prop := (((qI h l0 3) ≤ l1 → Q 0 h) ∧ (¬ ((qI h l0 3) ≤ l1) → (∃ b2, qR h l0 1 = some b2 ∧ (vp_in l1 (qL h b2) ∧ Q (qI h b2 l1.toNatClampNeg) h))))
set_option maxHeartbeats 4000000 in
set_option maxRecDepth 100000 in
theorem sn_X12_byteAt (G : GT) (d : Nat) (l0 : Nat) (l1 : Int32) (h : PH) (Q : Int32 → PH → Prop) (okl0 : qOK h 11 l0) (hwp : wp_X12_byteAt l0 l1 h Q) : Mt G (0 + d) 0 0 mX12_byteAt [.ref l0, .int l1] h (qqi Q) := by
  unfold wp_X12_byteAt at hwp
  refine Mt.of (by decide) rfl (Nat.le_of_ble_eq_true rfl) ?_
  have hex := qEx.rf h
  have hnn : qn h = qn h + 0 := rfl
  have hzz : qz h = qz h + 0 := rfl
  refine x_lvE (lv2 := [(0, .ref l0), (1, .int l1)]) rfl ?_
  refine x_iload_n (pc := 0) dX12_byteAt_0 rfl ?_
  refine x_aload_n (pc := 1) dX12_byteAt_1 rfl ?_
  refine x_getI (pc := 2) dX12_byteAt_2 qRX12_86 okl0 (by decide) ?_
  refine x_icmp_ge (tgt := 17) (pc := 5) dX12_byteAt_5 (by decide) (fun c1 => ?_) (fun c1 => ?_)
  · have hwp := hwp.1 c1
    refine x_iconst (v := 0) (pc := 17) dX12_byteAt_17 (by decide) ?_
    exact x_iret (pc := 18) dX12_byteAt_18 rfl hex hnn hzz ⟨_, rfl, hwp⟩
  · have hwp := hwp.2 c1
    refine x_aload_n (pc := 8) dX12_byteAt_8 rfl ?_
    obtain ⟨b2, e3, hwp⟩ := hwp
    refine x_getR (pc := 9) dX12_byteAt_9 qRX12_7 okl0 e3 (fun okb2 => ?_)
    refine x_iload_n (pc := 12) dX12_byteAt_12 rfl ?_
    obtain ⟨i4, hwp⟩ := hwp
    refine x_iaload (pc := 13) dX12_byteAt_13 okb2 i4 ?_
    refine x_goto (tgt := 18) (pc := 14) dX12_byteAt_14 (by decide) ?_
    exact x_iret (pc := 18) dX12_byteAt_18 rfl hex hnn hzz ⟨_, rfl, hwp⟩

theorem dX12_isDigit_0 : decode cX12_isDigit 0 = .ok (.iload_n 0, 1) := by decide +kernel
theorem dX12_isDigit_1 : decode cX12_isDigit 1 = .ok (.bipush 48, 2) := by decide +kernel
theorem dX12_isDigit_3 : decode cX12_isDigit 3 = .ok (.if_icmp .lt 13, 3) := by decide +kernel
theorem dX12_isDigit_6 : decode cX12_isDigit 6 = .ok (.iload_n 0, 1) := by decide +kernel
theorem dX12_isDigit_7 : decode cX12_isDigit 7 = .ok (.bipush 57, 2) := by decide +kernel
theorem dX12_isDigit_9 : decode cX12_isDigit 9 = .ok (.if_icmp .gt 7, 3) := by decide +kernel
theorem dX12_isDigit_12 : decode cX12_isDigit 12 = .ok (.iconst 1, 1) := by decide +kernel
theorem dX12_isDigit_13 : decode cX12_isDigit 13 = .ok (.goto 4, 3) := by decide +kernel
theorem dX12_isDigit_16 : decode cX12_isDigit 16 = .ok (.iconst 0, 1) := by decide +kernel
theorem dX12_isDigit_17 : decode cX12_isDigit 17 = .ok (.ireturn, 1) := by decide +kernel
def wp_X12_isDigit (l0 : Int32) (h : PH) (Q : Int32 → PH → Prop) : Prop := ((l0 < 48 → Q 0 h) ∧ (¬ (l0 < 48) → ((57 < l0 → Q 0 h) ∧ (¬ (57 < l0) → Q 1 h))))
set_option maxHeartbeats 4000000 in
set_option maxRecDepth 100000 in
theorem sn_X12_isDigit (G : GT) (d : Nat) (l0 : Int32) (h : PH) (Q : Int32 → PH → Prop)  (hwp : wp_X12_isDigit l0 h Q) : Mt G (0 + d) 0 0 mX12_isDigit [.int l0] h (qqb Q) := by
  unfold wp_X12_isDigit at hwp
  refine Mt.of (by decide) rfl (Nat.le_of_ble_eq_true rfl) ?_
  have hex := qEx.rf h
  have hnn : qn h = qn h + 0 := rfl
  have hzz : qz h = qz h + 0 := rfl
  refine x_lvE (lv2 := [(0, .int l0)]) rfl ?_
  refine x_iload_n (pc := 0) dX12_isDigit_0 rfl ?_
  refine x_bipush (v := 48) (pc := 1) dX12_isDigit_1 (by decide) ?_
  refine x_icmp_lt (tgt := 16) (pc := 3) dX12_isDigit_3 (by decide) (fun c1 => ?_) (fun c1 => ?_)
  · have hwp := hwp.1 c1
    refine x_iconst (v := 0) (pc := 16) dX12_isDigit_16 (by decide) ?_
    exact x_zret (pc := 17) dX12_isDigit_17 rfl hex hnn hzz (by decide) ⟨_, rfl, by decide, hwp⟩
  · have hwp := hwp.2 c1
    refine x_iload_n (pc := 6) dX12_isDigit_6 rfl ?_
    refine x_bipush (v := 57) (pc := 7) dX12_isDigit_7 (by decide) ?_
    refine x_icmp_gt (tgt := 16) (pc := 9) dX12_isDigit_9 (by decide) (fun c2 => ?_) (fun c2 => ?_)
    · have hwp := hwp.1 c2
      refine x_iconst (v := 0) (pc := 16) dX12_isDigit_16 (by decide) ?_
      exact x_zret (pc := 17) dX12_isDigit_17 rfl hex hnn hzz (by decide) ⟨_, rfl, by decide, hwp⟩
    · have hwp := hwp.2 c2
      refine x_iconst (v := 1) (pc := 12) dX12_isDigit_12 (by decide) ?_
      refine x_goto (tgt := 17) (pc := 13) dX12_isDigit_13 (by decide) ?_
      exact x_zret (pc := 17) dX12_isDigit_17 rfl hex hnn hzz (by decide) ⟨_, rfl, by decide, hwp⟩

theorem dX12_isLetter_0 : decode cX12_isLetter 0 = .ok (.iload_n 0, 1) := by decide +kernel
theorem dX12_isLetter_1 : decode cX12_isLetter 1 = .ok (.bipush 97, 2) := by decide +kernel
theorem dX12_isLetter_3 : decode cX12_isLetter 3 = .ok (.if_icmp .lt 13, 3) := by decide +kernel
theorem dX12_isLetter_6 : decode cX12_isLetter 6 = .ok (.iload_n 0, 1) := by decide +kernel
theorem dX12_isLetter_7 : decode cX12_isLetter 7 = .ok (.bipush 122, 2) := by decide +kernel
theorem dX12_isLetter_9 : decode cX12_isLetter 9 = .ok (.if_icmp .gt 7, 3) := by decide +kernel
theorem dX12_isLetter_12 : decode cX12_isLetter 12 = .ok (.iconst 1, 1) := by decide +kernel
theorem dX12_isLetter_13 : decode cX12_isLetter 13 = .ok (.goto 4, 3) := by decide +kernel
theorem dX12_isLetter_16 : decode cX12_isLetter 16 = .ok (.iconst 0, 1) := by decide +kernel
theorem dX12_isLetter_17 : decode cX12_isLetter 17 = .ok (.ireturn, 1) := by decide +kernel
def wp_X12_isLetter (l0 : Int32) (h : PH) (Q : Int32 → PH → Prop) : Prop := ((l0 < 97 → Q 0 h) ∧ (¬ (l0 < 97) → ((122 < l0 → Q 0 h) ∧ (¬ (122 < l0) → Q 1 h))))
set_option maxHeartbeats 4000000 in
set_option maxRecDepth 100000 in
theorem sn_X12_isLetter (G : GT) (d : Nat) (l0 : Int32) (h : PH) (Q : Int32 → PH → Prop)  (hwp : wp_X12_isLetter l0 h Q) : Mt G (0 + d) 0 0 mX12_isLetter [.int l0] h (qqb Q) := by
  unfold wp_X12_isLetter at hwp
  refine Mt.of (by decide) rfl (Nat.le_of_ble_eq_true rfl) ?_
  have hex := qEx.rf h
  have hnn : qn h = qn h + 0 := rfl
  have hzz : qz h = qz h + 0 := rfl
  refine x_lvE (lv2 := [(0, .int l0)]) rfl ?_
  refine x_iload_n (pc := 0) dX12_isLetter_0 rfl ?_
  refine x_bipush (v := 97) (pc := 1) dX12_isLetter_1 (by decide) ?_
  refine x_icmp_lt (tgt := 16) (pc := 3) dX12_isLetter_3 (by decide) (fun c1 => ?_) (fun c1 => ?_)
  · have hwp := hwp.1 c1
    refine x_iconst (v := 0) (pc := 16) dX12_isLetter_16 (by decide) ?_
    exact x_zret (pc := 17) dX12_isLetter_17 rfl hex hnn hzz (by decide) ⟨_, rfl, by decide, hwp⟩
  · have hwp := hwp.2 c1
    refine x_iload_n (pc := 6) dX12_isLetter_6 rfl ?_
    refine x_bipush (v := 122) (pc := 7) dX12_isLetter_7 (by decide) ?_
    refine x_icmp_gt (tgt := 16) (pc := 9) dX12_isLetter_9 (by decide) (fun c2 => ?_) (fun c2 => ?_)
    · have hwp := hwp.1 c2
      refine x_iconst (v := 0) (pc := 16) dX12_isLetter_16 (by decide) ?_
      exact x_zret (pc := 17) dX12_isLetter_17 rfl hex hnn hzz (by decide) ⟨_, rfl, by decide, hwp⟩
    · have hwp := hwp.2 c2
      refine x_iconst (v := 1) (pc := 12) dX12_isLetter_12 (by decide) ?_
      refine x_goto (tgt := 17) (pc := 13) dX12_isLetter_13 (by decide) ?_
      exact x_zret (pc := 17) dX12_isLetter_17 rfl hex hnn hzz (by decide) ⟨_, rfl, by decide, hwp⟩

theorem dX12_go_0 : decode cX12_go 0 = .ok (.aload_n 0, 1) := by decide +kernel
theorem dX12_go_1 : decode cX12_go 1 = .ok (.getfield 89, 3) := by decide +kernel
theorem dX12_go_4 : decode cX12_go 4 = .ok (.aload_n 0, 1) := by decide +kernel
theorem dX12_go_5 : decode cX12_go 5 = .ok (.getfield 86, 3) := by decide +kernel
theorem dX12_go_8 : decode cX12_go 8 = .ok (.if_icmp .ge 44, 3) := by decide +kernel
theorem dX12_go_11 : decode cX12_go 11 = .ok (.aload_n 0, 1) := by decide +kernel
theorem dX12_go_12 : decode cX12_go 12 = .ok (.getfield 7, 3) := by decide +kernel
theorem dX12_go_15 : decode cX12_go 15 = .ok (.aload_n 0, 1) := by decide +kernel
theorem dX12_go_16 : decode cX12_go 16 = .ok (.getfield 89, 3) := by decide +kernel
theorem dX12_go_19 : decode cX12_go 19 = .ok (.iaload, 1) := by decide +kernel
theorem dX12_go_20 : decode cX12_go 20 = .ok (.bipush 32, 2) := by decide +kernel
theorem dX12_go_22 : decode cX12_go 22 = .ok (.if_icmp .eq 17, 3) := by decide +kernel
theorem dX12_go_25 : decode cX12_go 25 = .ok (.aload_n 0, 1) := by decide +kernel
theorem dX12_go_26 : decode cX12_go 26 = .ok (.getfield 7, 3) := by decide +kernel
theorem dX12_go_29 : decode cX12_go 29 = .ok (.aload_n 0, 1) := by decide +kernel
theorem dX12_go_30 : decode cX12_go 30 = .ok (.getfield 89, 3) := by decide +kernel
theorem dX12_go_33 : decode cX12_go 33 = .ok (.iaload, 1) := by decide +kernel
theorem dX12_go_34 : decode cX12_go 34 = .ok (.bipush 10, 2) := by decide +kernel
theorem dX12_go_36 : decode cX12_go 36 = .ok (.if_icmp .ne 16, 3) := by decide +kernel
theorem dX12_go_39 : decode cX12_go 39 = .ok (.aload_n 0, 1) := by decide +kernel
theorem dX12_go_40 : decode cX12_go 40 = .ok (.dup, 1) := by decide +kernel
theorem dX12_go_41 : decode cX12_go 41 = .ok (.getfield 89, 3) := by decide +kernel
theorem dX12_go_44 : decode cX12_go 44 = .ok (.iconst 1, 1) := by decide +kernel
theorem dX12_go_45 : decode cX12_go 45 = .ok (.iadd, 1) := by decide +kernel
theorem dX12_go_46 : decode cX12_go 46 = .ok (.putfield 89, 3) := by decide +kernel
theorem dX12_go_49 : decode cX12_go 49 = .ok (.goto (-49), 3) := by decide +kernel
theorem dX12_go_52 : decode cX12_go 52 = .ok (.aload_n 0, 1) := by decide +kernel
theorem dX12_go_53 : decode cX12_go 53 = .ok (.aload_n 0, 1) := by decide +kernel
theorem dX12_go_54 : decode cX12_go 54 = .ok (.getfield 89, 3) := by decide +kernel
theorem dX12_go_57 : decode cX12_go 57 = .ok (.putfield 92, 3) := by decide +kernel
theorem dX12_go_60 : decode cX12_go 60 = .ok (.aload_n 0, 1) := by decide +kernel
theorem dX12_go_61 : decode cX12_go 61 = .ok (.getfield 86, 3) := by decide +kernel
theorem dX12_go_64 : decode cX12_go 64 = .ok (.aload_n 0, 1) := by decide +kernel
theorem dX12_go_65 : decode cX12_go 65 = .ok (.getfield 95, 3) := by decide +kernel
theorem dX12_go_68 : decode cX12_go 68 = .ok (.if_icmp .le 28, 3) := by decide +kernel
theorem dX12_go_71 : decode cX12_go 71 = .ok (.aload_n 0, 1) := by decide +kernel
theorem dX12_go_72 : decode cX12_go 72 = .ok (.getfield 92, 3) := by decide +kernel
theorem dX12_go_75 : decode cX12_go 75 = .ok (.aload_n 0, 1) := by decide +kernel
theorem dX12_go_76 : decode cX12_go 76 = .ok (.getfield 95, 3) := by decide +kernel
theorem dX12_go_79 : decode cX12_go 79 = .ok (.if_icmp .lt 17, 3) := by decide +kernel
theorem dX12_go_82 : decode cX12_go 82 = .ok (.aload_n 0, 1) := by decide +kernel
theorem dX12_go_83 : decode cX12_go 83 = .ok (.aload_n 0, 1) := by decide +kernel
theorem dX12_go_84 : decode cX12_go 84 = .ok (.getfield 95, 3) := by decide +kernel
theorem dX12_go_87 : decode cX12_go 87 = .ok (.putfield 92, 3) := by decide +kernel
theorem dX12_go_90 : decode cX12_go 90 = .ok (.aload_n 0, 1) := by decide +kernel
theorem dX12_go_91 : decode cX12_go 91 = .ok (.iconst 1, 1) := by decide +kernel
theorem dX12_go_92 : decode cX12_go 92 = .ok (.putfield 98, 3) := by decide +kernel
theorem dX12_go_95 : decode cX12_go 95 = .ok (.return_, 1) := by decide +kernel
theorem dX12_go_96 : decode cX12_go 96 = .ok (.aload_n 0, 1) := by decide +kernel
theorem dX12_go_97 : decode cX12_go 97 = .ok (.getfield 89, 3) := by decide +kernel
theorem dX12_go_100 : decode cX12_go 100 = .ok (.aload_n 0, 1) := by decide +kernel
theorem dX12_go_101 : decode cX12_go 101 = .ok (.getfield 86, 3) := by decide +kernel
theorem dX12_go_104 : decode cX12_go 104 = .ok (.if_icmp .lt 9, 3) := by decide +kernel
theorem dX12_go_107 : decode cX12_go 107 = .ok (.aload_n 0, 1) := by decide +kernel
theorem dX12_go_108 : decode cX12_go 108 = .ok (.iconst 0, 1) := by decide +kernel
theorem dX12_go_109 : decode cX12_go 109 = .ok (.putfield 98, 3) := by decide +kernel
theorem dX12_go_112 : decode cX12_go 112 = .ok (.return_, 1) := by decide +kernel
theorem dX12_go_113 : decode cX12_go 113 = .ok (.aload_n 0, 1) := by decide +kernel
theorem dX12_go_114 : decode cX12_go 114 = .ok (.getfield 7, 3) := by decide +kernel
theorem dX12_go_117 : decode cX12_go 117 = .ok (.aload_n 0, 1) := by decide +kernel
theorem dX12_go_118 : decode cX12_go 118 = .ok (.getfield 89, 3) := by decide +kernel
theorem dX12_go_121 : decode cX12_go 121 = .ok (.iaload, 1) := by decide +kernel
theorem dX12_go_122 : decode cX12_go 122 = .ok (.istore_n 1, 1) := by decide +kernel
theorem dX12_go_123 : decode cX12_go 123 = .ok (.iload_n 1, 1) := by decide +kernel
theorem dX12_go_124 : decode cX12_go 124 = .ok (.invokestatic 101, 3) := by decide +kernel
theorem dX12_go_127 : decode cX12_go 127 = .ok (.ifCond .ne 71, 3) := by decide +kernel
theorem dX12_go_130 : decode cX12_go 130 = .ok (.iload_n 1, 1) := by decide +kernel
theorem dX12_go_131 : decode cX12_go 131 = .ok (.invokestatic 105, 3) := by decide +kernel
theorem dX12_go_134 : decode cX12_go 134 = .ok (.ifCond .ne 64, 3) := by decide +kernel
theorem dX12_go_137 : decode cX12_go 137 = .ok (.aload_n 0, 1) := by decide +kernel
theorem dX12_go_138 : decode cX12_go 138 = .ok (.iload_n 1, 1) := by decide +kernel
theorem dX12_go_139 : decode cX12_go 139 = .ok (.bipush 59, 2) := by decide +kernel
theorem dX12_go_141 : decode cX12_go 141 = .ok (.if_icmp .eq 33, 3) := by decide +kernel
theorem dX12_go_144 : decode cX12_go 144 = .ok (.iload_n 1, 1) := by decide +kernel
theorem dX12_go_145 : decode cX12_go 145 = .ok (.bipush 60, 2) := by decide +kernel
theorem dX12_go_147 : decode cX12_go 147 = .ok (.if_icmp .eq 27, 3) := by decide +kernel
theorem dX12_go_150 : decode cX12_go 150 = .ok (.iload_n 1, 1) := by decide +kernel
theorem dX12_go_151 : decode cX12_go 151 = .ok (.bipush 61, 2) := by decide +kernel
theorem dX12_go_153 : decode cX12_go 153 = .ok (.if_icmp .eq 21, 3) := by decide +kernel
theorem dX12_go_156 : decode cX12_go 156 = .ok (.iload_n 1, 1) := by decide +kernel
theorem dX12_go_157 : decode cX12_go 157 = .ok (.bipush 62, 2) := by decide +kernel
theorem dX12_go_159 : decode cX12_go 159 = .ok (.if_icmp .eq 15, 3) := by decide +kernel
theorem dX12_go_162 : decode cX12_go 162 = .ok (.iload_n 1, 1) := by decide +kernel
theorem dX12_go_163 : decode cX12_go 163 = .ok (.bipush 40, 2) := by decide +kernel
theorem dX12_go_165 : decode cX12_go 165 = .ok (.if_icmp .eq 9, 3) := by decide +kernel
theorem dX12_go_168 : decode cX12_go 168 = .ok (.iload_n 1, 1) := by decide +kernel
theorem dX12_go_169 : decode cX12_go 169 = .ok (.bipush 41, 2) := by decide +kernel
theorem dX12_go_171 : decode cX12_go 171 = .ok (.if_icmp .ne 7, 3) := by decide +kernel
theorem dX12_go_174 : decode cX12_go 174 = .ok (.iconst 4, 1) := by decide +kernel
theorem dX12_go_175 : decode cX12_go 175 = .ok (.goto 4, 3) := by decide +kernel
theorem dX12_go_178 : decode cX12_go 178 = .ok (.iconst 1, 1) := by decide +kernel
theorem dX12_go_179 : decode cX12_go 179 = .ok (.putfield 98, 3) := by decide +kernel
theorem dX12_go_182 : decode cX12_go 182 = .ok (.aload_n 0, 1) := by decide +kernel
theorem dX12_go_183 : decode cX12_go 183 = .ok (.iload_n 1, 1) := by decide +kernel
theorem dX12_go_184 : decode cX12_go 184 = .ok (.putfield 108, 3) := by decide +kernel
theorem dX12_go_187 : decode cX12_go 187 = .ok (.aload_n 0, 1) := by decide +kernel
theorem dX12_go_188 : decode cX12_go 188 = .ok (.dup, 1) := by decide +kernel
theorem dX12_go_189 : decode cX12_go 189 = .ok (.getfield 89, 3) := by decide +kernel
theorem dX12_go_192 : decode cX12_go 192 = .ok (.iconst 1, 1) := by decide +kernel
theorem dX12_go_193 : decode cX12_go 193 = .ok (.iadd, 1) := by decide +kernel
theorem dX12_go_194 : decode cX12_go 194 = .ok (.putfield 89, 3) := by decide +kernel
theorem dX12_go_197 : decode cX12_go 197 = .ok (.return_, 1) := by decide +kernel
theorem dX12_go_198 : decode cX12_go 198 = .ok (.iload_n 1, 1) := by decide +kernel
theorem dX12_go_199 : decode cX12_go 199 = .ok (.invokestatic 101, 3) := by decide +kernel
theorem dX12_go_202 : decode cX12_go 202 = .ok (.istore_n 2, 1) := by decide +kernel
theorem dX12_go_203 : decode cX12_go 203 = .ok (.iconst 1, 1) := by decide +kernel
theorem dX12_go_204 : decode cX12_go 204 = .ok (.istore_n 3, 1) := by decide +kernel
theorem dX12_go_205 : decode cX12_go 205 = .ok (.aload_n 0, 1) := by decide +kernel
theorem dX12_go_206 : decode cX12_go 206 = .ok (.lconst 0, 1) := by decide +kernel
theorem dX12_go_207 : decode cX12_go 207 = .ok (.putfield 111, 3) := by decide +kernel
theorem dX12_go_210 : decode cX12_go 210 = .ok (.aload_n 0, 1) := by decide +kernel
theorem dX12_go_211 : decode cX12_go 211 = .ok (.iconst 0, 1) := by decide +kernel
theorem dX12_go_212 : decode cX12_go 212 = .ok (.putfield 115, 3) := by decide +kernel
theorem dX12_go_215 : decode cX12_go 215 = .ok (.aload_n 0, 1) := by decide +kernel
theorem dX12_go_216 : decode cX12_go 216 = .ok (.aload_n 0, 1) := by decide +kernel
theorem dX12_go_217 : decode cX12_go 217 = .ok (.getfield 89, 3) := by decide +kernel
theorem dX12_go_220 : decode cX12_go 220 = .ok (.invokevirtual 118, 3) := by decide +kernel
theorem dX12_go_223 : decode cX12_go 223 = .ok (.invokestatic 101, 3) := by decide +kernel
theorem dX12_go_226 : decode cX12_go 226 = .ok (.ifCond .ne 17, 3) := by decide +kernel
theorem dX12_go_229 : decode cX12_go 229 = .ok (.aload_n 0, 1) := by decide +kernel
theorem dX12_go_230 : decode cX12_go 230 = .ok (.aload_n 0, 1) := by decide +kernel
theorem dX12_go_231 : decode cX12_go 231 = .ok (.getfield 89, 3) := by decide +kernel
theorem dX12_go_234 : decode cX12_go 234 = .ok (.invokevirtual 118, 3) := by decide +kernel
theorem dX12_go_237 : decode cX12_go 237 = .ok (.invokestatic 105, 3) := by decide +kernel
theorem dX12_go_240 : decode cX12_go 240 = .ok (.ifCond .eq 110, 3) := by decide +kernel
theorem dX12_go_243 : decode cX12_go 243 = .ok (.aload_n 0, 1) := by decide +kernel
theorem dX12_go_244 : decode cX12_go 244 = .ok (.getfield 7, 3) := by decide +kernel
theorem dX12_go_247 : decode cX12_go 247 = .ok (.aload_n 0, 1) := by decide +kernel
theorem dX12_go_248 : decode cX12_go 248 = .ok (.getfield 89, 3) := by decide +kernel
theorem dX12_go_251 : decode cX12_go 251 = .ok (.iaload, 1) := by decide +kernel
theorem dX12_go_252 : decode cX12_go 252 = .ok (.istore 4, 2) := by decide +kernel
theorem dX12_go_254 : decode cX12_go 254 = .ok (.iload_n 3, 1) := by decide +kernel
theorem dX12_go_255 : decode cX12_go 255 = .ok (.ifCond .eq 16, 3) := by decide +kernel
theorem dX12_go_258 : decode cX12_go 258 = .ok (.iload 4, 2) := by decide +kernel
theorem dX12_go_260 : decode cX12_go 260 = .ok (.invokestatic 101, 3) := by decide +kernel
theorem dX12_go_263 : decode cX12_go 263 = .ok (.iload_n 2, 1) := by decide +kernel
theorem dX12_go_264 : decode cX12_go 264 = .ok (.if_icmp .ne 7, 3) := by decide +kernel
theorem dX12_go_267 : decode cX12_go 267 = .ok (.iconst 1, 1) := by decide +kernel
theorem dX12_go_268 : decode cX12_go 268 = .ok (.goto 4, 3) := by decide +kernel
theorem dX12_go_271 : decode cX12_go 271 = .ok (.iconst 0, 1) := by decide +kernel
theorem dX12_go_272 : decode cX12_go 272 = .ok (.istore_n 3, 1) := by decide +kernel
theorem dX12_go_273 : decode cX12_go 273 = .ok (.aload_n 0, 1) := by decide +kernel
theorem dX12_go_274 : decode cX12_go 274 = .ok (.getfield 89, 3) := by decide +kernel
theorem dX12_go_277 : decode cX12_go 277 = .ok (.aload_n 0, 1) := by decide +kernel
theorem dX12_go_278 : decode cX12_go 278 = .ok (.getfield 92, 3) := by decide +kernel
theorem dX12_go_281 : decode cX12_go 281 = .ok (.isub, 1) := by decide +kernel
theorem dX12_go_282 : decode cX12_go 282 = .ok (.bipush 6, 2) := by decide +kernel
theorem dX12_go_284 : decode cX12_go 284 = .ok (.if_icmp .ge 23, 3) := by decide +kernel
theorem dX12_go_287 : decode cX12_go 287 = .ok (.aload_n 0, 1) := by decide +kernel
theorem dX12_go_288 : decode cX12_go 288 = .ok (.ldc2_w 122, 3) := by decide +kernel
theorem dX12_go_291 : decode cX12_go 291 = .ok (.aload_n 0, 1) := by decide +kernel
theorem dX12_go_292 : decode cX12_go 292 = .ok (.getfield 111, 3) := by decide +kernel
theorem dX12_go_295 : decode cX12_go 295 = .ok (.lmul, 1) := by decide +kernel
theorem dX12_go_296 : decode cX12_go 296 = .ok (.iload 4, 2) := by decide +kernel
theorem dX12_go_298 : decode cX12_go 298 = .ok (.i2l, 1) := by decide +kernel
theorem dX12_go_299 : decode cX12_go 299 = .ok (.ladd, 1) := by decide +kernel
theorem dX12_go_300 : decode cX12_go 300 = .ok (.ldc2_w 124, 3) := by decide +kernel
theorem dX12_go_303 : decode cX12_go 303 = .ok (.lsub, 1) := by decide +kernel
theorem dX12_go_304 : decode cX12_go 304 = .ok (.putfield 111, 3) := by decide +kernel
theorem dX12_go_307 : decode cX12_go 307 = .ok (.aload_n 0, 1) := by decide +kernel
theorem dX12_go_308 : decode cX12_go 308 = .ok (.getfield 89, 3) := by decide +kernel
theorem dX12_go_311 : decode cX12_go 311 = .ok (.aload_n 0, 1) := by decide +kernel
theorem dX12_go_312 : decode cX12_go 312 = .ok (.getfield 92, 3) := by decide +kernel
theorem dX12_go_315 : decode cX12_go 315 = .ok (.isub, 1) := by decide +kernel
theorem dX12_go_316 : decode cX12_go 316 = .ok (.iconst 3, 1) := by decide +kernel
theorem dX12_go_317 : decode cX12_go 317 = .ok (.if_icmp .ge 20, 3) := by decide +kernel
theorem dX12_go_320 : decode cX12_go 320 = .ok (.aload_n 0, 1) := by decide +kernel
theorem dX12_go_321 : decode cX12_go 321 = .ok (.bipush 10, 2) := by decide +kernel
theorem dX12_go_323 : decode cX12_go 323 = .ok (.aload_n 0, 1) := by decide +kernel
theorem dX12_go_324 : decode cX12_go 324 = .ok (.getfield 115, 3) := by decide +kernel
theorem dX12_go_327 : decode cX12_go 327 = .ok (.imul, 1) := by decide +kernel
theorem dX12_go_328 : decode cX12_go 328 = .ok (.iload 4, 2) := by decide +kernel
theorem dX12_go_330 : decode cX12_go 330 = .ok (.iadd, 1) := by decide +kernel
theorem dX12_go_331 : decode cX12_go 331 = .ok (.bipush 48, 2) := by decide +kernel
theorem dX12_go_333 : decode cX12_go 333 = .ok (.isub, 1) := by decide +kernel
theorem dX12_go_334 : decode cX12_go 334 = .ok (.putfield 115, 3) := by decide +kernel
theorem dX12_go_337 : decode cX12_go 337 = .ok (.aload_n 0, 1) := by decide +kernel
theorem dX12_go_338 : decode cX12_go 338 = .ok (.dup, 1) := by decide +kernel
theorem dX12_go_339 : decode cX12_go 339 = .ok (.getfield 89, 3) := by decide +kernel
theorem dX12_go_342 : decode cX12_go 342 = .ok (.iconst 1, 1) := by decide +kernel
theorem dX12_go_343 : decode cX12_go 343 = .ok (.iadd, 1) := by decide +kernel
theorem dX12_go_344 : decode cX12_go 344 = .ok (.putfield 89, 3) := by decide +kernel
theorem dX12_go_347 : decode cX12_go 347 = .ok (.goto (-132), 3) := by decide +kernel
theorem dX12_go_350 : decode cX12_go 350 = .ok (.aload_n 0, 1) := by decide +kernel
theorem dX12_go_351 : decode cX12_go 351 = .ok (.iload_n 3, 1) := by decide +kernel
theorem dX12_go_352 : decode cX12_go 352 = .ok (.ifCond .eq 25, 3) := by decide +kernel
theorem dX12_go_355 : decode cX12_go 355 = .ok (.aload_n 0, 1) := by decide +kernel
theorem dX12_go_356 : decode cX12_go 356 = .ok (.getfield 89, 3) := by decide +kernel
theorem dX12_go_359 : decode cX12_go 359 = .ok (.aload_n 0, 1) := by decide +kernel
theorem dX12_go_360 : decode cX12_go 360 = .ok (.getfield 92, 3) := by decide +kernel
theorem dX12_go_363 : decode cX12_go 363 = .ok (.isub, 1) := by decide +kernel
theorem dX12_go_364 : decode cX12_go 364 = .ok (.iload_n 2, 1) := by decide +kernel
theorem dX12_go_365 : decode cX12_go 365 = .ok (.ifCond .eq 8, 3) := by decide +kernel
theorem dX12_go_368 : decode cX12_go 368 = .ok (.bipush 6, 2) := by decide +kernel
theorem dX12_go_370 : decode cX12_go 370 = .ok (.goto 4, 3) := by decide +kernel
theorem dX12_go_373 : decode cX12_go 373 = .ok (.iconst 3, 1) := by decide +kernel
theorem dX12_go_374 : decode cX12_go 374 = .ok (.if_icmp .le 7, 3) := by decide +kernel
theorem dX12_go_377 : decode cX12_go 377 = .ok (.iconst 1, 1) := by decide +kernel
theorem dX12_go_378 : decode cX12_go 378 = .ok (.goto 12, 3) := by decide +kernel
theorem dX12_go_381 : decode cX12_go 381 = .ok (.iload_n 2, 1) := by decide +kernel
theorem dX12_go_382 : decode cX12_go 382 = .ok (.ifCond .eq 7, 3) := by decide +kernel
theorem dX12_go_385 : decode cX12_go 385 = .ok (.iconst 2, 1) := by decide +kernel
theorem dX12_go_386 : decode cX12_go 386 = .ok (.goto 4, 3) := by decide +kernel
theorem dX12_go_389 : decode cX12_go 389 = .ok (.iconst 3, 1) := by decide +kernel
theorem dX12_go_390 : decode cX12_go 390 = .ok (.putfield 98, 3) := by decide +kernel
theorem dX12_go_393 : decode cX12_go 393 = .ok (.return_, 1) := by decide +kernel
def E_X12_go_0 (G : GT) (d : Nat) (h0 hb : PH) (l0 : Nat) (Q : PH → Prop) (s : PH) : Prop := qEx hb s ∧ qn s = qn hb ∧ qz s = qz hb → Ex G (qrm (1 + d) 0 0) mX12_go (qn h0) (qz h0) (ZN G h0 0 0 (qqv Q)) 0 [(0, .ref l0)] [] s
def E_X12_go_215 (G : GT) (d : Nat) (h0 hb : PH) (l0 : Nat) (l2 : Int32) (Q : PH → Prop) (s : Int32 × PH) : Prop := qEx hb s.2 ∧ qn s.2 = qn hb ∧ qz s.2 = qz hb → Ex G (qrm (1 + d) 0 0) mX12_go (qn h0) (qz h0) (ZN G h0 0 0 (qqv Q)) 215 [(0, .ref l0), (2, .int l2), (3, .int s.1)] [] s.2
def wp_X12_go_174 (l0 : Nat) (l1 : Int32) (s0 : Nat)  (h : PH) (Q : PH → Prop) : Prop := (∀ h59, h59 = qsI h s0 7 4 → (∀ h60, h60 = qsI h59 l0 9 l1 → (∀ h61, h61 = qsI h60 l0 5 ((qI h60 l0 5) + 1) → Q h61)))
set_option maxHeartbeats 4000000 in
set_option maxRecDepth 100000 in
theorem sg_X12_go_174 (G : GT) (d : Nat) (h0 : PH) (l0 : Nat) (l1 : Int32) (s0 : Nat) (h : PH) (Q : PH → Prop) (hex : qEx h0 h) (hnn : qn h = qn h0 + 0) (hzz : qz h = qz h0 + 0) (okl0 : qOK h 11 l0) (oks0 : qOK h 11 s0) (hwp : wp_X12_go_174 l0 l1 s0 h Q) : Ex G (qrm (1 + d) 0 0) mX12_go (qn h0) (qz h0) (ZN G h0 0 0 (qqv Q)) 174 [(0, .ref l0), (1, .int l1)] [.ref s0] h := by
  unfold wp_X12_go_174 at hwp
  refine x_iconst (v := 4) (pc := 174) dX12_go_174 (by decide) ?_
  refine x_goto (tgt := 179) (pc := 175) dX12_go_175 (by decide) ?_
  refine y_putI (pc := 179) dX12_go_179 qRX12_98 oks0 (fun h59 eh59 nxh59 => ?_)
  have hwp := hwp h59 eh59
  have hex := hex.tr nxh59.1
  have hnn := nxh59.2.1.trans hnn
  have hzz := nxh59.2.2.trans hzz
  have okl0 := okl0.ex nxh59.1
  have oks0 := oks0.ex nxh59.1
  refine x_aload_n (pc := 182) dX12_go_182 rfl ?_
  refine x_iload_n (pc := 183) dX12_go_183 rfl ?_
  refine y_putI (pc := 184) dX12_go_184 qRX12_108 okl0 (fun h60 eh60 nxh60 => ?_)
  have hwp := hwp h60 eh60
  have hex := hex.tr nxh60.1
  have hnn := nxh60.2.1.trans hnn
  have hzz := nxh60.2.2.trans hzz
  have okl0 := okl0.ex nxh60.1
  have oks0 := oks0.ex nxh60.1
  refine x_aload_n (pc := 187) dX12_go_187 rfl ?_
  refine x_dup (pc := 188) dX12_go_188 rfl ?_
  refine x_getI (pc := 189) dX12_go_189 qRX12_89 okl0 (by decide) ?_
  refine x_iconst (v := 1) (pc := 192) dX12_go_192 (by decide) ?_
  refine x_iadd (pc := 193) dX12_go_193 ?_
  refine y_putI (pc := 194) dX12_go_194 qRX12_89 okl0 (fun h61 eh61 nxh61 => ?_)
  have hwp := hwp h61 eh61
  have hex := hex.tr nxh61.1
  have hnn := nxh61.2.1.trans hnn
  have hzz := nxh61.2.2.trans hzz
  have okl0 := okl0.ex nxh61.1
  have oks0 := oks0.ex nxh61.1
  exact x_vret (pc := 197) dX12_go_197 rfl hex hnn hzz ⟨rfl, hwp⟩
def wp_X12_go_307 (l0 : Nat) (l2 : Int32) (l3 : Int32) (l4 : Int32) (bk215 : Int32 × PH → Prop) (h : PH) (Q : PH → Prop) : Prop := ((3 ≤ ((qI h l0 5) - (qI h l0 6)) → (∀ h78, h78 = qsI h l0 5 ((qI h l0 5) + 1) → bk215 (l3, h78))) ∧ (¬ (3 ≤ ((qI h l0 5) - (qI h l0 6))) → (∀ h79, h79 = qsI h l0 8 (((10 * (qI h l0 8)) + l4) - 48) → (∀ h80, h80 = qsI h79 l0 5 ((qI h79 l0 5) + 1) → bk215 (l3, h80)))))
set_option maxHeartbeats 4000000 in
set_option maxRecDepth 100000 in
theorem sg_X12_go_307 (G : GT) (d : Nat) (h0 : PH) (l0 : Nat) (l2 : Int32) (l3 : Int32) (l4 : Int32) (h : PH) (Q : PH → Prop) (hb215 : PH) (bk215 : Int32 × PH → Prop) (hbk215 : ∀ s2, bk215 s2 → E_X12_go_215 G d h0 hb215 l0 l2 Q s2) (hx215 : qEx hb215 h) (hn215 : qn h = qn hb215) (hz215 : qz h = qz hb215) (hex : qEx h0 h) (hnn : qn h = qn h0 + 0) (hzz : qz h = qz h0 + 0) (okl0 : qOK h 11 l0) (hwp : wp_X12_go_307 l0 l2 l3 l4 bk215 h Q) : Ex G (qrm (1 + d) 0 0) mX12_go (qn h0) (qz h0) (ZN G h0 0 0 (qqv Q)) 307 [(0, .ref l0), (2, .int l2), (3, .int l3), (4, .int l4)] [] h := by
  unfold wp_X12_go_307 at hwp
  refine x_aload_n (pc := 307) dX12_go_307 rfl ?_
  refine x_getI (pc := 308) dX12_go_308 qRX12_89 okl0 (by decide) ?_
  refine x_aload_n (pc := 311) dX12_go_311 rfl ?_
  refine x_getI (pc := 312) dX12_go_312 qRX12_92 okl0 (by decide) ?_
  refine x_isub (pc := 315) dX12_go_315 ?_
  refine x_iconst (v := 3) (pc := 316) dX12_go_316 (by decide) ?_
  refine x_icmp_ge (tgt := 337) (pc := 317) dX12_go_317 (by decide) (fun c77 => ?_) (fun c77 => ?_)
  · have hwp := hwp.1 c77
    refine x_aload_n (pc := 337) dX12_go_337 rfl ?_
    refine x_dup (pc := 338) dX12_go_338 rfl ?_
    refine x_getI (pc := 339) dX12_go_339 qRX12_89 okl0 (by decide) ?_
    refine x_iconst (v := 1) (pc := 342) dX12_go_342 (by decide) ?_
    refine x_iadd (pc := 343) dX12_go_343 ?_
    refine y_putI (pc := 344) dX12_go_344 qRX12_89 okl0 (fun h78 eh78 nxh78 => ?_)
    have hwp := hwp h78 eh78
    have hex := hex.tr nxh78.1
    have hnn := nxh78.2.1.trans hnn
    have hzz := nxh78.2.2.trans hzz
    have hx215 := hx215.tr nxh78.1
    have hn215 := nxh78.2.1.trans hn215
    have hz215 := nxh78.2.2.trans hz215
    have okl0 := okl0.ex nxh78.1
    refine x_goto (tgt := 215) (pc := 347) dX12_go_347 (by decide) ?_
    refine x_sub [0, 1, 2] rfl ?_
    exact hbk215 _ hwp ⟨hx215, hn215, hz215⟩
  · have hwp := hwp.2 c77
    refine x_aload_n (pc := 320) dX12_go_320 rfl ?_
    refine x_bipush (v := 10) (pc := 321) dX12_go_321 (by decide) ?_
    refine x_aload_n (pc := 323) dX12_go_323 rfl ?_
    refine x_getI (pc := 324) dX12_go_324 qRX12_115 okl0 (by decide) ?_
    refine x_imul (pc := 327) dX12_go_327 ?_
    refine x_iload (pc := 328) dX12_go_328 rfl ?_
    refine x_iadd (pc := 330) dX12_go_330 ?_
    refine x_bipush (v := 48) (pc := 331) dX12_go_331 (by decide) ?_
    refine x_isub (pc := 333) dX12_go_333 ?_
    refine y_putI (pc := 334) dX12_go_334 qRX12_115 okl0 (fun h79 eh79 nxh79 => ?_)
    have hwp := hwp h79 eh79
    have hex := hex.tr nxh79.1
    have hnn := nxh79.2.1.trans hnn
    have hzz := nxh79.2.2.trans hzz
    have hx215 := hx215.tr nxh79.1
    have hn215 := nxh79.2.1.trans hn215
    have hz215 := nxh79.2.2.trans hz215
    have okl0 := okl0.ex nxh79.1
    refine x_aload_n (pc := 337) dX12_go_337 rfl ?_
    refine x_dup (pc := 338) dX12_go_338 rfl ?_
    refine x_getI (pc := 339) dX12_go_339 qRX12_89 okl0 (by decide) ?_
    refine x_iconst (v := 1) (pc := 342) dX12_go_342 (by decide) ?_
    refine x_iadd (pc := 343) dX12_go_343 ?_
    refine y_putI (pc := 344) dX12_go_344 qRX12_89 okl0 (fun h80 eh80 nxh80 => ?_)
    have hwp := hwp h80 eh80
    have hex := hex.tr nxh80.1
    have hnn := nxh80.2.1.trans hnn
    have hzz := nxh80.2.2.trans hzz
    have hx215 := hx215.tr nxh80.1
    have hn215 := nxh80.2.1.trans hn215
    have hz215 := nxh80.2.2.trans hz215
    have okl0 := okl0.ex nxh80.1
    refine x_goto (tgt := 215) (pc := 347) dX12_go_347 (by decide) ?_
    refine x_sub [0, 1, 2] rfl ?_
    exact hbk215 _ hwp ⟨hx215, hn215, hz215⟩
def wp_X12_go_272 (l0 : Nat) (l2 : Int32) (l4 : Int32) (s0 : Int32) (bk215 : Int32 × PH → Prop) (h : PH) (Q : PH → Prop) : Prop := ((6 ≤ ((qI h l0 5) - (qI h l0 6)) → (wp_X12_go_307 l0 l2 s0 l4 bk215 h Q)) ∧ (¬ (6 ≤ ((qI h l0 5) - (qI h l0 6))) → (∀ h76, h76 = qsJ h l0 12 (((27 * (qJ h l0 12)) + l4.toInt64) - 96) → (wp_X12_go_307 l0 l2 s0 l4 bk215 h76 Q))))
set_option maxHeartbeats 4000000 in
set_option maxRecDepth 100000 in
theorem sg_X12_go_272 (G : GT) (d : Nat) (h0 : PH) (l0 : Nat) (l2 : Int32) (l4 : Int32) (s0 : Int32) (h : PH) (Q : PH → Prop) (hb215 : PH) (bk215 : Int32 × PH → Prop) (hbk215 : ∀ s2, bk215 s2 → E_X12_go_215 G d h0 hb215 l0 l2 Q s2) (hx215 : qEx hb215 h) (hn215 : qn h = qn hb215) (hz215 : qz h = qz hb215) (hex : qEx h0 h) (hnn : qn h = qn h0 + 0) (hzz : qz h = qz h0 + 0) (okl0 : qOK h 11 l0) (hwp : wp_X12_go_272 l0 l2 l4 s0 bk215 h Q) : Ex G (qrm (1 + d) 0 0) mX12_go (qn h0) (qz h0) (ZN G h0 0 0 (qqv Q)) 272 [(0, .ref l0), (2, .int l2), (4, .int l4)] [.int s0] h := by
  unfold wp_X12_go_272 at hwp
  refine x_istore_n (lv2 := [(3, .int s0), (0, .ref l0), (2, .int l2), (4, .int l4)]) (pc := 272) dX12_go_272 (by decide) rfl ?_
  refine x_aload_n (pc := 273) dX12_go_273 rfl ?_
  refine x_getI (pc := 274) dX12_go_274 qRX12_89 okl0 (by decide) ?_
  refine x_aload_n (pc := 277) dX12_go_277 rfl ?_
  refine x_getI (pc := 278) dX12_go_278 qRX12_92 okl0 (by decide) ?_
  refine x_isub (pc := 281) dX12_go_281 ?_
  refine x_bipush (v := 6) (pc := 282) dX12_go_282 (by decide) ?_
  refine x_icmp_ge (tgt := 307) (pc := 284) dX12_go_284 (by decide) (fun c75 => ?_) (fun c75 => ?_)
  · have hwp := hwp.1 c75
    refine x_sub [1, 2, 0, 3] rfl ?_
    exact sg_X12_go_307 G d h0 l0 l2 s0 l4 h Q hb215 bk215 hbk215 hx215 hn215 hz215 hex hnn hzz okl0 hwp
  · have hwp := hwp.2 c75
    refine x_aload_n (pc := 287) dX12_go_287 rfl ?_
    refine x_ldc2 (v := 27) (pc := 288) dX12_go_288 kRX12_122 ?_
    refine x_aload_n (pc := 291) dX12_go_291 rfl ?_
    refine x_getJ (pc := 292) dX12_go_292 qRX12_111 okl0 ?_
    refine x_lmul (pc := 295) dX12_go_295 ?_
    refine x_iload (pc := 296) dX12_go_296 rfl ?_
    refine x_i2l (pc := 298) dX12_go_298 ?_
    refine x_ladd (pc := 299) dX12_go_299 ?_
    refine x_ldc2 (v := 96) (pc := 300) dX12_go_300 kRX12_124 ?_
    refine x_lsub (pc := 303) dX12_go_303 ?_
    refine y_putJ (pc := 304) dX12_go_304 qRX12_111 okl0 (fun h76 eh76 nxh76 => ?_)
    have hwp := hwp h76 eh76
    have hex := hex.tr nxh76.1
    have hnn := nxh76.2.1.trans hnn
    have hzz := nxh76.2.2.trans hzz
    have hx215 := hx215.tr nxh76.1
    have hn215 := nxh76.2.1.trans hn215
    have hz215 := nxh76.2.2.trans hz215
    have okl0 := okl0.ex nxh76.1
    refine x_sub [1, 2, 0, 3] rfl ?_
    exact sg_X12_go_307 G d h0 l0 l2 s0 l4 h76 Q hb215 bk215 hbk215 hx215 hn215 hz215 hex hnn hzz okl0 hwp
def wp_X12_go_243 (l0 : Nat) (l2 : Int32) (l3 : Int32) (bk215 : Int32 × PH → Prop) (h : PH) (Q : PH → Prop) : Prop := (∃ b62, qR h l0 1 = some b62 ∧ (vp_in (qI h l0 5) (qL h b62) ∧ ∀ v65 : Int32, v65 = qI h b62 (qI h l0 5).toNatClampNeg → ((l3 = 0 → (wp_X12_go_272 l0 l2 v65 0 bk215 h Q)) ∧ (¬ (l3 = 0) → (wp_X12_isLetter v65 h (fun r68 h67 => ((¬ r68 = l2 → (wp_X12_go_272 l0 l2 v65 0 bk215 h67 Q)) ∧ (r68 = l2 → (wp_X12_go_272 l0 l2 v65 1 bk215 h67 Q)))))))))
set_option maxHeartbeats 4000000 in
set_option maxRecDepth 100000 in
theorem sg_X12_go_243 (G : GT) (d : Nat) (h0 : PH) (l0 : Nat) (l2 : Int32) (l3 : Int32) (h : PH) (Q : PH → Prop) (hb215 : PH) (bk215 : Int32 × PH → Prop) (hbk215 : ∀ s2, bk215 s2 → E_X12_go_215 G d h0 hb215 l0 l2 Q s2) (hx215 : qEx hb215 h) (hn215 : qn h = qn hb215) (hz215 : qz h = qz hb215) (hex : qEx h0 h) (hnn : qn h = qn h0 + 0) (hzz : qz h = qz h0 + 0) (okl0 : qOK h 11 l0) (hwp : wp_X12_go_243 l0 l2 l3 bk215 h Q) : Ex G (qrm (1 + d) 0 0) mX12_go (qn h0) (qz h0) (ZN G h0 0 0 (qqv Q)) 243 [(0, .ref l0), (2, .int l2), (3, .int l3)] [] h := by
  unfold wp_X12_go_243 at hwp
  refine x_aload_n (pc := 243) dX12_go_243 rfl ?_
  obtain ⟨b62, e63, hwp⟩ := hwp
  refine x_getR (pc := 244) dX12_go_244 qRX12_7 okl0 e63 (fun okb62 => ?_)
  refine x_aload_n (pc := 247) dX12_go_247 rfl ?_
  refine x_getI (pc := 248) dX12_go_248 qRX12_89 okl0 (by decide) ?_
  obtain ⟨i64, hwp⟩ := hwp
  refine x_iaload (pc := 251) dX12_go_251 okb62 i64 ?_
  refine x_nmI (fun v65 ev65 => ?_)
  have hwp := hwp v65 ev65
  refine x_istore (lv2 := [(4, .int v65), (0, .ref l0), (2, .int l2), (3, .int l3)]) (pc := 252) dX12_go_252 (by decide) rfl ?_
  refine x_iload_n (pc := 254) dX12_go_254 rfl ?_
  refine x_if_eq (tgt := 271) (pc := 255) dX12_go_255 (by decide) (fun c66 => ?_) (fun c66 => ?_)
  · have hwp := hwp.1 c66
    refine x_iconst (v := 0) (pc := 271) dX12_go_271 (by decide) ?_
    refine x_sub [1, 2, 0] rfl ?_
    exact sg_X12_go_272 G d h0 l0 l2 v65 0 h Q hb215 bk215 hbk215 hx215 hn215 hz215 hex hnn hzz okl0 hwp
  · have hwp := hwp.2 c66
    refine x_iload (pc := 258) dX12_go_258 rfl ?_
    refine x_invS (As := [.int v65]) (st := []) (pc := 260) dX12_go_260 lRX12_101 fX12_isLetter sX12_isLetter rfl (Nat.le_of_ble_eq_true rfl) (q_R (by omega) (by decide)) (q_C hnn hzz (by decide) (by decide)) (sn_X12_isLetter G (d + 0) v65 h _  hwp) (k_b (fun r68 h67 hwp zbr68 cxh67 => ?_))
    have hex := hex.tr cxh67.1
    have hnn : qn h67 = qn h0 + 0 := by have := cxh67.2.1; omega
    have hzz : qz h67 = qz h0 + 0 := by have := cxh67.2.2; omega
    have hx215 := hx215.tr cxh67.1
    have hn215 : qn h67 = qn hb215 := by have := cxh67.2.1; omega
    have hz215 : qz h67 = qz hb215 := by have := cxh67.2.2; omega
    have okl0 := okl0.ex cxh67.1
    have okb62 := okb62.ex cxh67.1
    refine x_iload_n (pc := 263) dX12_go_263 rfl ?_
    refine x_icmp_ne (tgt := 271) (pc := 264) dX12_go_264 (by decide) (fun c69 => ?_) (fun c69 => ?_)
    · have hwp := hwp.1 c69
      refine x_iconst (v := 0) (pc := 271) dX12_go_271 (by decide) ?_
      refine x_sub [1, 2, 0] rfl ?_
      exact sg_X12_go_272 G d h0 l0 l2 v65 0 h67 Q hb215 bk215 hbk215 hx215 hn215 hz215 hex hnn hzz okl0 hwp
    · have hwp := hwp.2 c69
      refine x_iconst (v := 1) (pc := 267) dX12_go_267 (by decide) ?_
      refine x_goto (tgt := 272) (pc := 268) dX12_go_268 (by decide) ?_
      refine x_sub [1, 2, 0] rfl ?_
      exact sg_X12_go_272 G d h0 l0 l2 v65 1 h67 Q hb215 bk215 hbk215 hx215 hn215 hz215 hex hnn hzz okl0 hwp
def wp_X12_go_374 (l2 : Int32) (s0 : Int32) (s1 : Int32) (s2 : Nat)  (h : PH) (Q : PH → Prop) : Prop := ((s1 ≤ s0 → ((l2 = 0 → (∀ h72, h72 = qsI h s2 7 3 → Q h72)) ∧ (¬ (l2 = 0) → (∀ h73, h73 = qsI h s2 7 2 → Q h73)))) ∧ (¬ (s1 ≤ s0) → (∀ h74, h74 = qsI h s2 7 1 → Q h74)))
set_option maxHeartbeats 4000000 in
set_option maxRecDepth 100000 in
theorem sg_X12_go_374 (G : GT) (d : Nat) (h0 : PH) (l2 : Int32) (s0 : Int32) (s1 : Int32) (s2 : Nat) (h : PH) (Q : PH → Prop) (hex : qEx h0 h) (hnn : qn h = qn h0 + 0) (hzz : qz h = qz h0 + 0) (oks2 : qOK h 11 s2) (hwp : wp_X12_go_374 l2 s0 s1 s2 h Q) : Ex G (qrm (1 + d) 0 0) mX12_go (qn h0) (qz h0) (ZN G h0 0 0 (qqv Q)) 374 [(2, .int l2)] [.int s0, .int s1, .ref s2] h := by
  unfold wp_X12_go_374 at hwp
  refine x_icmp_le (tgt := 381) (pc := 374) dX12_go_374 (by decide) (fun c70 => ?_) (fun c70 => ?_)
  · have hwp := hwp.1 c70
    refine x_iload_n (pc := 381) dX12_go_381 rfl ?_
    refine x_if_eq (tgt := 389) (pc := 382) dX12_go_382 (by decide) (fun c71 => ?_) (fun c71 => ?_)
    · have hwp := hwp.1 c71
      refine x_iconst (v := 3) (pc := 389) dX12_go_389 (by decide) ?_
      refine y_putI (pc := 390) dX12_go_390 qRX12_98 oks2 (fun h72 eh72 nxh72 => ?_)
      have hwp := hwp h72 eh72
      have hex := hex.tr nxh72.1
      have hnn := nxh72.2.1.trans hnn
      have hzz := nxh72.2.2.trans hzz
      have oks2 := oks2.ex nxh72.1
      exact x_vret (pc := 393) dX12_go_393 rfl hex hnn hzz ⟨rfl, hwp⟩
    · have hwp := hwp.2 c71
      refine x_iconst (v := 2) (pc := 385) dX12_go_385 (by decide) ?_
      refine x_goto (tgt := 390) (pc := 386) dX12_go_386 (by decide) ?_
      refine y_putI (pc := 390) dX12_go_390 qRX12_98 oks2 (fun h73 eh73 nxh73 => ?_)
      have hwp := hwp h73 eh73
      have hex := hex.tr nxh73.1
      have hnn := nxh73.2.1.trans hnn
      have hzz := nxh73.2.2.trans hzz
      have oks2 := oks2.ex nxh73.1
      exact x_vret (pc := 393) dX12_go_393 rfl hex hnn hzz ⟨rfl, hwp⟩
  · have hwp := hwp.2 c70
    refine x_iconst (v := 1) (pc := 377) dX12_go_377 (by decide) ?_
    refine x_goto (tgt := 390) (pc := 378) dX12_go_378 (by decide) ?_
    refine y_putI (pc := 390) dX12_go_390 qRX12_98 oks2 (fun h74 eh74 nxh74 => ?_)
    have hwp := hwp h74 eh74
    have hex := hex.tr nxh74.1
    have hnn := nxh74.2.1.trans hnn
    have hzz := nxh74.2.2.trans hzz
    have oks2 := oks2.ex nxh74.1
    exact x_vret (pc := 393) dX12_go_393 rfl hex hnn hzz ⟨rfl, hwp⟩
def wb_X12_go_215 (l0 : Nat) (l2 : Int32)  (Q : PH → Prop) (bk215 : Int32 × PH → Prop) (l3 : Int32) (h : PH) : Prop := (wp_X12_byteAt l0 (qI h l0 5) h (fun r47 h46 => (wp_X12_isLetter r47 h46 (fun r49 h48 => ((¬ r49 = 0 → (wp_X12_go_243 l0 l2 l3 bk215 h48 Q)) ∧ (r49 = 0 → (wp_X12_byteAt l0 (qI h48 l0 5) h48 (fun r52 h51 => (wp_X12_isDigit r52 h51 (fun r54 h53 => ((r54 = 0 → ((l3 = 0 → (∀ h57, h57 = qsI h53 l0 7 1 → Q h57)) ∧ (¬ (l3 = 0) → ((l2 = 0 → (wp_X12_go_374 l2 3 ((qI h53 l0 5) - (qI h53 l0 6)) l0 h53 Q)) ∧ (¬ (l2 = 0) → (wp_X12_go_374 l2 6 ((qI h53 l0 5) - (qI h53 l0 6)) l0 h53 Q)))))) ∧ (¬ (r54 = 0) → (wp_X12_go_243 l0 l2 l3 bk215 h53 Q)))))))))))))
def wp_X12_go_215 (l0 : Nat) (l2 : Int32)  (Q : PH → Prop) (bk215 : Int32 × PH → Prop) (s : Int32 × PH) : Prop := wb_X12_go_215 l0 l2 Q bk215 s.1 s.2
set_option maxHeartbeats 4000000 in
set_option maxRecDepth 100000 in
theorem bd_X12_go_215 (G : GT) (d : Nat) (h0 hb : PH) (l0 : Nat) (l2 : Int32) (Q : PH → Prop)  (hex : qEx h0 hb) (hnn : qn hb = qn h0 + 0) (hzz : qz hb = qz h0 + 0) (okl0 : qOK hb 11 l0) (bk215 : Int32 × PH → Prop) (hbk215 : ∀ s2, bk215 s2 → E_X12_go_215 G d h0 hb l0 l2 Q s2) (l3 : Int32) (h : PH) (hwp : wb_X12_go_215 l0 l2 Q bk215 l3 h) (hx215 : qEx hb h) (hn215 : qn h = qn hb) (hz215 : qz h = qz hb) : Ex G (qrm (1 + d) 0 0) mX12_go (qn h0) (qz h0) (ZN G h0 0 0 (qqv Q)) 215 [(0, .ref l0), (2, .int l2), (3, .int l3)] [] h := by
  unfold wb_X12_go_215 at hwp
  have hex := hex.tr hx215
  have hnn := hn215.trans hnn
  have hzz := hz215.trans hzz
  have okl0 := okl0.ex hx215
  refine x_aload_n (pc := 215) dX12_go_215 rfl ?_
  refine x_aload_n (pc := 216) dX12_go_216 rfl ?_
  refine x_getI (pc := 217) dX12_go_217 qRX12_89 okl0 (by decide) ?_
  refine x_invV (As := [.int (qI h l0 5)]) (st := []) (pc := 220) dX12_go_220 lRX12_118 fX12_byteAt vX12_byteAt okl0 rfl (Nat.le_of_ble_eq_true rfl) (q_R (by omega) (by decide)) (q_C hnn hzz (by decide) (by decide)) (sn_X12_byteAt G (d + 0) l0 (qI h l0 5) h _ okl0 hwp) (k_i (fun r47 h46 hwp cxh46 => ?_))
  have hex := hex.tr cxh46.1
  have hnn : qn h46 = qn h0 + 0 := by have := cxh46.2.1; omega
  have hzz : qz h46 = qz h0 + 0 := by have := cxh46.2.2; omega
  have hx215 := hx215.tr cxh46.1
  have hn215 : qn h46 = qn hb := by have := cxh46.2.1; omega
  have hz215 : qz h46 = qz hb := by have := cxh46.2.2; omega
  have okl0 := okl0.ex cxh46.1
  refine x_invS (As := [.int r47]) (st := []) (pc := 223) dX12_go_223 lRX12_101 fX12_isLetter sX12_isLetter rfl (Nat.le_of_ble_eq_true rfl) (q_R (by omega) (by decide)) (q_C hnn hzz (by decide) (by decide)) (sn_X12_isLetter G (d + 0) r47 h46 _  hwp) (k_b (fun r49 h48 hwp zbr49 cxh48 => ?_))
  have hex := hex.tr cxh48.1
  have hnn : qn h48 = qn h0 + 0 := by have := cxh48.2.1; omega
  have hzz : qz h48 = qz h0 + 0 := by have := cxh48.2.2; omega
  have hx215 := hx215.tr cxh48.1
  have hn215 : qn h48 = qn hb := by have := cxh48.2.1; omega
  have hz215 : qz h48 = qz hb := by have := cxh48.2.2; omega
  have okl0 := okl0.ex cxh48.1
  refine x_if_ne (tgt := 243) (pc := 226) dX12_go_226 (by decide) (fun c50 => ?_) (fun c50 => ?_)
  · have hwp := hwp.1 c50
    refine x_sub [0, 1, 2] rfl ?_
    exact sg_X12_go_243 G d h0 l0 l2 l3 h48 Q hb bk215 hbk215 hx215 hn215 hz215 hex hnn hzz okl0 hwp
  · have hwp := hwp.2 c50
    refine x_aload_n (pc := 229) dX12_go_229 rfl ?_
    refine x_aload_n (pc := 230) dX12_go_230 rfl ?_
    refine x_getI (pc := 231) dX12_go_231 qRX12_89 okl0 (by decide) ?_
    refine x_invV (As := [.int (qI h48 l0 5)]) (st := []) (pc := 234) dX12_go_234 lRX12_118 fX12_byteAt vX12_byteAt okl0 rfl (Nat.le_of_ble_eq_true rfl) (q_R (by omega) (by decide)) (q_C hnn hzz (by decide) (by decide)) (sn_X12_byteAt G (d + 0) l0 (qI h48 l0 5) h48 _ okl0 hwp) (k_i (fun r52 h51 hwp cxh51 => ?_))
    have hex := hex.tr cxh51.1
    have hnn : qn h51 = qn h0 + 0 := by have := cxh51.2.1; omega
    have hzz : qz h51 = qz h0 + 0 := by have := cxh51.2.2; omega
    have hx215 := hx215.tr cxh51.1
    have hn215 : qn h51 = qn hb := by have := cxh51.2.1; omega
    have hz215 : qz h51 = qz hb := by have := cxh51.2.2; omega
    have okl0 := okl0.ex cxh51.1
    refine x_invS (As := [.int r52]) (st := []) (pc := 237) dX12_go_237 lRX12_105 fX12_isDigit sX12_isDigit rfl (Nat.le_of_ble_eq_true rfl) (q_R (by omega) (by decide)) (q_C hnn hzz (by decide) (by decide)) (sn_X12_isDigit G (d + 0) r52 h51 _  hwp) (k_b (fun r54 h53 hwp zbr54 cxh53 => ?_))
    have hex := hex.tr cxh53.1
    have hnn : qn h53 = qn h0 + 0 := by have := cxh53.2.1; omega
    have hzz : qz h53 = qz h0 + 0 := by have := cxh53.2.2; omega
    have hx215 := hx215.tr cxh53.1
    have hn215 : qn h53 = qn hb := by have := cxh53.2.1; omega
    have hz215 : qz h53 = qz hb := by have := cxh53.2.2; omega
    have okl0 := okl0.ex cxh53.1
    refine x_if_eq (tgt := 350) (pc := 240) dX12_go_240 (by decide) (fun c55 => ?_) (fun c55 => ?_)
    · have hwp := hwp.1 c55
      refine x_aload_n (pc := 350) dX12_go_350 rfl ?_
      refine x_iload_n (pc := 351) dX12_go_351 rfl ?_
      refine x_if_eq (tgt := 377) (pc := 352) dX12_go_352 (by decide) (fun c56 => ?_) (fun c56 => ?_)
      · have hwp := hwp.1 c56
        refine x_iconst (v := 1) (pc := 377) dX12_go_377 (by decide) ?_
        refine x_goto (tgt := 390) (pc := 378) dX12_go_378 (by decide) ?_
        refine y_putI (pc := 390) dX12_go_390 qRX12_98 okl0 (fun h57 eh57 nxh57 => ?_)
        have hwp := hwp h57 eh57
        have hex := hex.tr nxh57.1
        have hnn := nxh57.2.1.trans hnn
        have hzz := nxh57.2.2.trans hzz
        have hx215 := hx215.tr nxh57.1
        have hn215 := nxh57.2.1.trans hn215
        have hz215 := nxh57.2.2.trans hz215
        have okl0 := okl0.ex nxh57.1
        exact x_vret (pc := 393) dX12_go_393 rfl hex hnn hzz ⟨rfl, hwp⟩
      · have hwp := hwp.2 c56
        refine x_aload_n (pc := 355) dX12_go_355 rfl ?_
        refine x_getI (pc := 356) dX12_go_356 qRX12_89 okl0 (by decide) ?_
        refine x_aload_n (pc := 359) dX12_go_359 rfl ?_
        refine x_getI (pc := 360) dX12_go_360 qRX12_92 okl0 (by decide) ?_
        refine x_isub (pc := 363) dX12_go_363 ?_
        refine x_iload_n (pc := 364) dX12_go_364 rfl ?_
        refine x_if_eq (tgt := 373) (pc := 365) dX12_go_365 (by decide) (fun c58 => ?_) (fun c58 => ?_)
        · have hwp := hwp.1 c58
          refine x_iconst (v := 3) (pc := 373) dX12_go_373 (by decide) ?_
          refine x_sub [1] rfl ?_
          exact sg_X12_go_374 G d h0 l2 3 ((qI h53 l0 5) - (qI h53 l0 6)) l0 h53 Q hex hnn hzz okl0 hwp
        · have hwp := hwp.2 c58
          refine x_bipush (v := 6) (pc := 368) dX12_go_368 (by decide) ?_
          refine x_goto (tgt := 374) (pc := 370) dX12_go_370 (by decide) ?_
          refine x_sub [1] rfl ?_
          exact sg_X12_go_374 G d h0 l2 6 ((qI h53 l0 5) - (qI h53 l0 6)) l0 h53 Q hex hnn hzz okl0 hwp
    · have hwp := hwp.2 c55
      refine x_sub [0, 1, 2] rfl ?_
      exact sg_X12_go_243 G d h0 l0 l2 l3 h53 Q hb bk215 hbk215 hx215 hn215 hz215 hex hnn hzz okl0 hwp
theorem lp_X12_go_215 (G : GT) (d : Nat) (h0 hb : PH) (l0 : Nat) (l2 : Int32) (Q : PH → Prop)  (hex : qEx h0 hb) (hnn : qn hb = qn h0 + 0) (hzz : qz hb = qz h0 + 0) (okl0 : qOK hb 11 l0) {s : Int32 × PH} (hwp : qLoop (wp_X12_go_215 l0 l2 Q) s) : E_X12_go_215 G d h0 hb l0 l2 Q s :=
  qLoop.use (E := E_X12_go_215 G d h0 hb l0 l2 Q) (fun back s hbk hw hx => bd_X12_go_215 G d h0 hb l0 l2 Q hex hnn hzz okl0 back hbk s.1 s.2 hw hx.1 hx.2.1 hx.2.2) hwp
def wp_X12_go_96 (l0 : Nat)  (h : PH) (Q : PH → Prop) : Prop := (((qI h l0 5) < (qI h l0 3) → (∃ b18, qR h l0 1 = some b18 ∧ (vp_in (qI h l0 5) (qL h b18) ∧ ∀ v21 : Int32, v21 = qI h b18 (qI h l0 5).toNatClampNeg → (wp_X12_isLetter v21 h (fun r23 h22 => ((¬ r23 = 0 → (wp_X12_isLetter v21 h22 (fun r26 h25 => (∀ h27, h27 = qsJ h25 l0 12 0 → (∀ h28, h28 = qsI h27 l0 8 0 → (qLoop (wp_X12_go_215 l0 r26 Q) (1, h28))))))) ∧ (r23 = 0 → (wp_X12_isDigit v21 h22 (fun r30 h29 => ((¬ r30 = 0 → (wp_X12_isLetter v21 h29 (fun r33 h32 => (∀ h34, h34 = qsJ h32 l0 12 0 → (∀ h35, h35 = qsI h34 l0 8 0 → (qLoop (wp_X12_go_215 l0 r33 Q) (1, h35))))))) ∧ (r30 = 0 → ((v21 = 59 → (wp_X12_go_174 l0 v21 l0 h29 Q)) ∧ (¬ (v21 = 59) → ((v21 = 60 → (wp_X12_go_174 l0 v21 l0 h29 Q)) ∧ (¬ (v21 = 60) → ((v21 = 61 → (wp_X12_go_174 l0 v21 l0 h29 Q)) ∧ (¬ (v21 = 61) → ((v21 = 62 → (wp_X12_go_174 l0 v21 l0 h29 Q)) ∧ (¬ (v21 = 62) → ((v21 = 40 → (wp_X12_go_174 l0 v21 l0 h29 Q)) ∧ (¬ (v21 = 40) → ((¬ v21 = 41 → (∀ h42, h42 = qsI h29 l0 7 1 → (∀ h43, h43 = qsI h42 l0 9 v21 → (∀ h44, h44 = qsI h43 l0 5 ((qI h43 l0 5) + 1) → Q h44)))) ∧ (v21 = 41 → (wp_X12_go_174 l0 v21 l0 h29 Q)))))))))))))))))))))))) ∧ (¬ ((qI h l0 5) < (qI h l0 3)) → (∀ h45, h45 = qsI h l0 7 0 → Q h45)))
set_option maxHeartbeats 4000000 in
set_option maxRecDepth 100000 in
theorem sg_X12_go_96 (G : GT) (d : Nat) (h0 : PH) (l0 : Nat) (h : PH) (Q : PH → Prop) (hex : qEx h0 h) (hnn : qn h = qn h0 + 0) (hzz : qz h = qz h0 + 0) (okl0 : qOK h 11 l0) (hwp : wp_X12_go_96 l0 h Q) : Ex G (qrm (1 + d) 0 0) mX12_go (qn h0) (qz h0) (ZN G h0 0 0 (qqv Q)) 96 [(0, .ref l0)] [] h := by
  unfold wp_X12_go_96 at hwp
  refine x_aload_n (pc := 96) dX12_go_96 rfl ?_
  refine x_getI (pc := 97) dX12_go_97 qRX12_89 okl0 (by decide) ?_
  refine x_aload_n (pc := 100) dX12_go_100 rfl ?_
  refine x_getI (pc := 101) dX12_go_101 qRX12_86 okl0 (by decide) ?_
  refine x_icmp_lt (tgt := 113) (pc := 104) dX12_go_104 (by decide) (fun c17 => ?_) (fun c17 => ?_)
  · have hwp := hwp.1 c17
    refine x_aload_n (pc := 113) dX12_go_113 rfl ?_
    obtain ⟨b18, e19, hwp⟩ := hwp
    refine x_getR (pc := 114) dX12_go_114 qRX12_7 okl0 e19 (fun okb18 => ?_)
    refine x_aload_n (pc := 117) dX12_go_117 rfl ?_
    refine x_getI (pc := 118) dX12_go_118 qRX12_89 okl0 (by decide) ?_
    obtain ⟨i20, hwp⟩ := hwp
    refine x_iaload (pc := 121) dX12_go_121 okb18 i20 ?_
    refine x_nmI (fun v21 ev21 => ?_)
    have hwp := hwp v21 ev21
    refine x_istore_n (lv2 := [(1, .int v21), (0, .ref l0)]) (pc := 122) dX12_go_122 (by decide) rfl ?_
    refine x_iload_n (pc := 123) dX12_go_123 rfl ?_
    refine x_invS (As := [.int v21]) (st := []) (pc := 124) dX12_go_124 lRX12_101 fX12_isLetter sX12_isLetter rfl (Nat.le_of_ble_eq_true rfl) (q_R (by omega) (by decide)) (q_C hnn hzz (by decide) (by decide)) (sn_X12_isLetter G (d + 0) v21 h _  hwp) (k_b (fun r23 h22 hwp zbr23 cxh22 => ?_))
    have hex := hex.tr cxh22.1
    have hnn : qn h22 = qn h0 + 0 := by have := cxh22.2.1; omega
    have hzz : qz h22 = qz h0 + 0 := by have := cxh22.2.2; omega
    have okl0 := okl0.ex cxh22.1
    have okb18 := okb18.ex cxh22.1
    refine x_if_ne (tgt := 198) (pc := 127) dX12_go_127 (by decide) (fun c24 => ?_) (fun c24 => ?_)
    · have hwp := hwp.1 c24
      refine x_iload_n (pc := 198) dX12_go_198 rfl ?_
      refine x_invS (As := [.int v21]) (st := []) (pc := 199) dX12_go_199 lRX12_101 fX12_isLetter sX12_isLetter rfl (Nat.le_of_ble_eq_true rfl) (q_R (by omega) (by decide)) (q_C hnn hzz (by decide) (by decide)) (sn_X12_isLetter G (d + 0) v21 h22 _  hwp) (k_b (fun r26 h25 hwp zbr26 cxh25 => ?_))
      have hex := hex.tr cxh25.1
      have hnn : qn h25 = qn h0 + 0 := by have := cxh25.2.1; omega
      have hzz : qz h25 = qz h0 + 0 := by have := cxh25.2.2; omega
      have okl0 := okl0.ex cxh25.1
      have okb18 := okb18.ex cxh25.1
      refine x_istore_n (lv2 := [(2, .int r26), (1, .int v21), (0, .ref l0)]) (pc := 202) dX12_go_202 (by decide) rfl ?_
      refine x_iconst (v := 1) (pc := 203) dX12_go_203 (by decide) ?_
      refine x_istore_n (lv2 := [(3, .int 1), (2, .int r26), (1, .int v21), (0, .ref l0)]) (pc := 204) dX12_go_204 (by decide) rfl ?_
      refine x_aload_n (pc := 205) dX12_go_205 rfl ?_
      refine x_lconst (v := 0) (pc := 206) dX12_go_206 (by decide) ?_
      refine y_putJ (pc := 207) dX12_go_207 qRX12_111 okl0 (fun h27 eh27 nxh27 => ?_)
      have hwp := hwp h27 eh27
      have hex := hex.tr nxh27.1
      have hnn := nxh27.2.1.trans hnn
      have hzz := nxh27.2.2.trans hzz
      have okl0 := okl0.ex nxh27.1
      have okb18 := okb18.ex nxh27.1
      refine x_aload_n (pc := 210) dX12_go_210 rfl ?_
      refine x_iconst (v := 0) (pc := 211) dX12_go_211 (by decide) ?_
      refine y_putI (pc := 212) dX12_go_212 qRX12_115 okl0 (fun h28 eh28 nxh28 => ?_)
      have hwp := hwp h28 eh28
      have hex := hex.tr nxh28.1
      have hnn := nxh28.2.1.trans hnn
      have hzz := nxh28.2.2.trans hzz
      have okl0 := okl0.ex nxh28.1
      have okb18 := okb18.ex nxh28.1
      refine x_sub [3, 1, 0] rfl ?_
      exact lp_X12_go_215 G d h0 h28 l0 r26 Q hex hnn hzz okl0 hwp ⟨qEx.rf _, rfl, rfl⟩
    · have hwp := hwp.2 c24
      refine x_iload_n (pc := 130) dX12_go_130 rfl ?_
      refine x_invS (As := [.int v21]) (st := []) (pc := 131) dX12_go_131 lRX12_105 fX12_isDigit sX12_isDigit rfl (Nat.le_of_ble_eq_true rfl) (q_R (by omega) (by decide)) (q_C hnn hzz (by decide) (by decide)) (sn_X12_isDigit G (d + 0) v21 h22 _  hwp) (k_b (fun r30 h29 hwp zbr30 cxh29 => ?_))
      have hex := hex.tr cxh29.1
      have hnn : qn h29 = qn h0 + 0 := by have := cxh29.2.1; omega
      have hzz : qz h29 = qz h0 + 0 := by have := cxh29.2.2; omega
      have okl0 := okl0.ex cxh29.1
      have okb18 := okb18.ex cxh29.1
      refine x_if_ne (tgt := 198) (pc := 134) dX12_go_134 (by decide) (fun c31 => ?_) (fun c31 => ?_)
      · have hwp := hwp.1 c31
        refine x_iload_n (pc := 198) dX12_go_198 rfl ?_
        refine x_invS (As := [.int v21]) (st := []) (pc := 199) dX12_go_199 lRX12_101 fX12_isLetter sX12_isLetter rfl (Nat.le_of_ble_eq_true rfl) (q_R (by omega) (by decide)) (q_C hnn hzz (by decide) (by decide)) (sn_X12_isLetter G (d + 0) v21 h29 _  hwp) (k_b (fun r33 h32 hwp zbr33 cxh32 => ?_))
        have hex := hex.tr cxh32.1
        have hnn : qn h32 = qn h0 + 0 := by have := cxh32.2.1; omega
        have hzz : qz h32 = qz h0 + 0 := by have := cxh32.2.2; omega
        have okl0 := okl0.ex cxh32.1
        have okb18 := okb18.ex cxh32.1
        refine x_istore_n (lv2 := [(2, .int r33), (1, .int v21), (0, .ref l0)]) (pc := 202) dX12_go_202 (by decide) rfl ?_
        refine x_iconst (v := 1) (pc := 203) dX12_go_203 (by decide) ?_
        refine x_istore_n (lv2 := [(3, .int 1), (2, .int r33), (1, .int v21), (0, .ref l0)]) (pc := 204) dX12_go_204 (by decide) rfl ?_
        refine x_aload_n (pc := 205) dX12_go_205 rfl ?_
        refine x_lconst (v := 0) (pc := 206) dX12_go_206 (by decide) ?_
        refine y_putJ (pc := 207) dX12_go_207 qRX12_111 okl0 (fun h34 eh34 nxh34 => ?_)
        have hwp := hwp h34 eh34
        have hex := hex.tr nxh34.1
        have hnn := nxh34.2.1.trans hnn
        have hzz := nxh34.2.2.trans hzz
        have okl0 := okl0.ex nxh34.1
        have okb18 := okb18.ex nxh34.1
        refine x_aload_n (pc := 210) dX12_go_210 rfl ?_
        refine x_iconst (v := 0) (pc := 211) dX12_go_211 (by decide) ?_
        refine y_putI (pc := 212) dX12_go_212 qRX12_115 okl0 (fun h35 eh35 nxh35 => ?_)
        have hwp := hwp h35 eh35
        have hex := hex.tr nxh35.1
        have hnn := nxh35.2.1.trans hnn
        have hzz := nxh35.2.2.trans hzz
        have okl0 := okl0.ex nxh35.1
        have okb18 := okb18.ex nxh35.1
        refine x_sub [3, 1, 0] rfl ?_
        exact lp_X12_go_215 G d h0 h35 l0 r33 Q hex hnn hzz okl0 hwp ⟨qEx.rf _, rfl, rfl⟩
      · have hwp := hwp.2 c31
        refine x_aload_n (pc := 137) dX12_go_137 rfl ?_
        refine x_iload_n (pc := 138) dX12_go_138 rfl ?_
        refine x_bipush (v := 59) (pc := 139) dX12_go_139 (by decide) ?_
        refine x_icmp_eq (tgt := 174) (pc := 141) dX12_go_141 (by decide) (fun c36 => ?_) (fun c36 => ?_)
        · have hwp := hwp.1 c36
          refine x_sub [1, 0] rfl ?_
          exact sg_X12_go_174 G d h0 l0 v21 l0 h29 Q hex hnn hzz okl0 okl0 hwp
        · have hwp := hwp.2 c36
          refine x_iload_n (pc := 144) dX12_go_144 rfl ?_
          refine x_bipush (v := 60) (pc := 145) dX12_go_145 (by decide) ?_
          refine x_icmp_eq (tgt := 174) (pc := 147) dX12_go_147 (by decide) (fun c37 => ?_) (fun c37 => ?_)
          · have hwp := hwp.1 c37
            refine x_sub [1, 0] rfl ?_
            exact sg_X12_go_174 G d h0 l0 v21 l0 h29 Q hex hnn hzz okl0 okl0 hwp
          · have hwp := hwp.2 c37
            refine x_iload_n (pc := 150) dX12_go_150 rfl ?_
            refine x_bipush (v := 61) (pc := 151) dX12_go_151 (by decide) ?_
            refine x_icmp_eq (tgt := 174) (pc := 153) dX12_go_153 (by decide) (fun c38 => ?_) (fun c38 => ?_)
            · have hwp := hwp.1 c38
              refine x_sub [1, 0] rfl ?_
              exact sg_X12_go_174 G d h0 l0 v21 l0 h29 Q hex hnn hzz okl0 okl0 hwp
            · have hwp := hwp.2 c38
              refine x_iload_n (pc := 156) dX12_go_156 rfl ?_
              refine x_bipush (v := 62) (pc := 157) dX12_go_157 (by decide) ?_
              refine x_icmp_eq (tgt := 174) (pc := 159) dX12_go_159 (by decide) (fun c39 => ?_) (fun c39 => ?_)
              · have hwp := hwp.1 c39
                refine x_sub [1, 0] rfl ?_
                exact sg_X12_go_174 G d h0 l0 v21 l0 h29 Q hex hnn hzz okl0 okl0 hwp
              · have hwp := hwp.2 c39
                refine x_iload_n (pc := 162) dX12_go_162 rfl ?_
                refine x_bipush (v := 40) (pc := 163) dX12_go_163 (by decide) ?_
                refine x_icmp_eq (tgt := 174) (pc := 165) dX12_go_165 (by decide) (fun c40 => ?_) (fun c40 => ?_)
                · have hwp := hwp.1 c40
                  refine x_sub [1, 0] rfl ?_
                  exact sg_X12_go_174 G d h0 l0 v21 l0 h29 Q hex hnn hzz okl0 okl0 hwp
                · have hwp := hwp.2 c40
                  refine x_iload_n (pc := 168) dX12_go_168 rfl ?_
                  refine x_bipush (v := 41) (pc := 169) dX12_go_169 (by decide) ?_
                  refine x_icmp_ne (tgt := 178) (pc := 171) dX12_go_171 (by decide) (fun c41 => ?_) (fun c41 => ?_)
                  · have hwp := hwp.1 c41
                    refine x_iconst (v := 1) (pc := 178) dX12_go_178 (by decide) ?_
                    refine y_putI (pc := 179) dX12_go_179 qRX12_98 okl0 (fun h42 eh42 nxh42 => ?_)
                    have hwp := hwp h42 eh42
                    have hex := hex.tr nxh42.1
                    have hnn := nxh42.2.1.trans hnn
                    have hzz := nxh42.2.2.trans hzz
                    have okl0 := okl0.ex nxh42.1
                    have okb18 := okb18.ex nxh42.1
                    refine x_aload_n (pc := 182) dX12_go_182 rfl ?_
                    refine x_iload_n (pc := 183) dX12_go_183 rfl ?_
                    refine y_putI (pc := 184) dX12_go_184 qRX12_108 okl0 (fun h43 eh43 nxh43 => ?_)
                    have hwp := hwp h43 eh43
                    have hex := hex.tr nxh43.1
                    have hnn := nxh43.2.1.trans hnn
                    have hzz := nxh43.2.2.trans hzz
                    have okl0 := okl0.ex nxh43.1
                    have okb18 := okb18.ex nxh43.1
                    refine x_aload_n (pc := 187) dX12_go_187 rfl ?_
                    refine x_dup (pc := 188) dX12_go_188 rfl ?_
                    refine x_getI (pc := 189) dX12_go_189 qRX12_89 okl0 (by decide) ?_
                    refine x_iconst (v := 1) (pc := 192) dX12_go_192 (by decide) ?_
                    refine x_iadd (pc := 193) dX12_go_193 ?_
                    refine y_putI (pc := 194) dX12_go_194 qRX12_89 okl0 (fun h44 eh44 nxh44 => ?_)
                    have hwp := hwp h44 eh44
                    have hex := hex.tr nxh44.1
                    have hnn := nxh44.2.1.trans hnn
                    have hzz := nxh44.2.2.trans hzz
                    have okl0 := okl0.ex nxh44.1
                    have okb18 := okb18.ex nxh44.1
                    exact x_vret (pc := 197) dX12_go_197 rfl hex hnn hzz ⟨rfl, hwp⟩
                  · have hwp := hwp.2 c41
                    refine x_sub [1, 0] rfl ?_
                    exact sg_X12_go_174 G d h0 l0 v21 l0 h29 Q hex hnn hzz okl0 okl0 hwp
  · have hwp := hwp.2 c17
    refine x_aload_n (pc := 107) dX12_go_107 rfl ?_
    refine x_iconst (v := 0) (pc := 108) dX12_go_108 (by decide) ?_
    refine y_putI (pc := 109) dX12_go_109 qRX12_98 okl0 (fun h45 eh45 nxh45 => ?_)
    have hwp := hwp h45 eh45
    have hex := hex.tr nxh45.1
    have hnn := nxh45.2.1.trans hnn
    have hzz := nxh45.2.2.trans hzz
    have okl0 := okl0.ex nxh45.1
    exact x_vret (pc := 112) dX12_go_112 rfl hex hnn hzz ⟨rfl, hwp⟩
def wp_X12_go_52 (l0 : Nat)  (h : PH) (Q : PH → Prop) : Prop := (∀ h12, h12 = qsI h l0 6 (qI h l0 5) → (((qI h12 l0 3) ≤ (qI h12 l0 4) → (wp_X12_go_96 l0 h12 Q)) ∧ (¬ ((qI h12 l0 3) ≤ (qI h12 l0 4)) → (((qI h12 l0 6) < (qI h12 l0 4) → (wp_X12_go_96 l0 h12 Q)) ∧ (¬ ((qI h12 l0 6) < (qI h12 l0 4)) → (∀ h15, h15 = qsI h12 l0 6 (qI h12 l0 4) → (∀ h16, h16 = qsI h15 l0 7 1 → Q h16)))))))
set_option maxHeartbeats 4000000 in
set_option maxRecDepth 100000 in
theorem sg_X12_go_52 (G : GT) (d : Nat) (h0 : PH) (l0 : Nat) (h : PH) (Q : PH → Prop) (hex : qEx h0 h) (hnn : qn h = qn h0 + 0) (hzz : qz h = qz h0 + 0) (okl0 : qOK h 11 l0) (hwp : wp_X12_go_52 l0 h Q) : Ex G (qrm (1 + d) 0 0) mX12_go (qn h0) (qz h0) (ZN G h0 0 0 (qqv Q)) 52 [(0, .ref l0)] [] h := by
  unfold wp_X12_go_52 at hwp
  refine x_aload_n (pc := 52) dX12_go_52 rfl ?_
  refine x_aload_n (pc := 53) dX12_go_53 rfl ?_
  refine x_getI (pc := 54) dX12_go_54 qRX12_89 okl0 (by decide) ?_
  refine y_putI (pc := 57) dX12_go_57 qRX12_92 okl0 (fun h12 eh12 nxh12 => ?_)
  have hwp := hwp h12 eh12
  have hex := hex.tr nxh12.1
  have hnn := nxh12.2.1.trans hnn
  have hzz := nxh12.2.2.trans hzz
  have okl0 := okl0.ex nxh12.1
  refine x_aload_n (pc := 60) dX12_go_60 rfl ?_
  refine x_getI (pc := 61) dX12_go_61 qRX12_86 okl0 (by decide) ?_
  refine x_aload_n (pc := 64) dX12_go_64 rfl ?_
  refine x_getI (pc := 65) dX12_go_65 qRX12_95 okl0 (by decide) ?_
  refine x_icmp_le (tgt := 96) (pc := 68) dX12_go_68 (by decide) (fun c13 => ?_) (fun c13 => ?_)
  · have hwp := hwp.1 c13
    refine x_sub [0] rfl ?_
    exact sg_X12_go_96 G d h0 l0 h12 Q hex hnn hzz okl0 hwp
  · have hwp := hwp.2 c13
    refine x_aload_n (pc := 71) dX12_go_71 rfl ?_
    refine x_getI (pc := 72) dX12_go_72 qRX12_92 okl0 (by decide) ?_
    refine x_aload_n (pc := 75) dX12_go_75 rfl ?_
    refine x_getI (pc := 76) dX12_go_76 qRX12_95 okl0 (by decide) ?_
    refine x_icmp_lt (tgt := 96) (pc := 79) dX12_go_79 (by decide) (fun c14 => ?_) (fun c14 => ?_)
    · have hwp := hwp.1 c14
      refine x_sub [0] rfl ?_
      exact sg_X12_go_96 G d h0 l0 h12 Q hex hnn hzz okl0 hwp
    · have hwp := hwp.2 c14
      refine x_aload_n (pc := 82) dX12_go_82 rfl ?_
      refine x_aload_n (pc := 83) dX12_go_83 rfl ?_
      refine x_getI (pc := 84) dX12_go_84 qRX12_95 okl0 (by decide) ?_
      refine y_putI (pc := 87) dX12_go_87 qRX12_92 okl0 (fun h15 eh15 nxh15 => ?_)
      have hwp := hwp h15 eh15
      have hex := hex.tr nxh15.1
      have hnn := nxh15.2.1.trans hnn
      have hzz := nxh15.2.2.trans hzz
      have okl0 := okl0.ex nxh15.1
      refine x_aload_n (pc := 90) dX12_go_90 rfl ?_
      refine x_iconst (v := 1) (pc := 91) dX12_go_91 (by decide) ?_
      refine y_putI (pc := 92) dX12_go_92 qRX12_98 okl0 (fun h16 eh16 nxh16 => ?_)
      have hwp := hwp h16 eh16
      have hex := hex.tr nxh16.1
      have hnn := nxh16.2.1.trans hnn
      have hzz := nxh16.2.2.trans hzz
      have okl0 := okl0.ex nxh16.1
      exact x_vret (pc := 95) dX12_go_95 rfl hex hnn hzz ⟨rfl, hwp⟩
def wb_X12_go_0 (l0 : Nat)  (Q : PH → Prop) (bk0 : PH → Prop)  (h : PH) : Prop := (((qI h l0 3) ≤ (qI h l0 5) → (wp_X12_go_52 l0 h Q)) ∧ (¬ ((qI h l0 3) ≤ (qI h l0 5)) → (∃ b2, qR h l0 1 = some b2 ∧ (vp_in (qI h l0 5) (qL h b2) ∧ (((qI h b2 (qI h l0 5).toNatClampNeg) = 32 → (∀ h6, h6 = qsI h l0 5 ((qI h l0 5) + 1) → bk0 h6)) ∧ (¬ ((qI h b2 (qI h l0 5).toNatClampNeg) = 32) → (∃ b7, qR h l0 1 = some b7 ∧ (vp_in (qI h l0 5) (qL h b7) ∧ ((¬ (qI h b7 (qI h l0 5).toNatClampNeg) = 10 → (wp_X12_go_52 l0 h Q)) ∧ ((qI h b7 (qI h l0 5).toNatClampNeg) = 10 → (∀ h11, h11 = qsI h l0 5 ((qI h l0 5) + 1) → bk0 h11)))))))))))
def wp_X12_go_0 (l0 : Nat)  (Q : PH → Prop) (bk0 : PH → Prop) (s : PH) : Prop := wb_X12_go_0 l0 Q bk0 s
set_option maxHeartbeats 4000000 in
set_option maxRecDepth 100000 in
theorem bd_X12_go_0 (G : GT) (d : Nat) (h0 hb : PH) (l0 : Nat) (Q : PH → Prop)  (hex : qEx h0 hb) (hnn : qn hb = qn h0 + 0) (hzz : qz hb = qz h0 + 0) (okl0 : qOK hb 11 l0) (bk0 : PH → Prop) (hbk0 : ∀ s2, bk0 s2 → E_X12_go_0 G d h0 hb l0 Q s2)  (h : PH) (hwp : wb_X12_go_0 l0 Q bk0 h) (hx0 : qEx hb h) (hn0 : qn h = qn hb) (hz0 : qz h = qz hb) : Ex G (qrm (1 + d) 0 0) mX12_go (qn h0) (qz h0) (ZN G h0 0 0 (qqv Q)) 0 [(0, .ref l0)] [] h := by
  unfold wb_X12_go_0 at hwp
  have hex := hex.tr hx0
  have hnn := hn0.trans hnn
  have hzz := hz0.trans hzz
  have okl0 := okl0.ex hx0
  refine x_aload_n (pc := 0) dX12_go_0 rfl ?_
  refine x_getI (pc := 1) dX12_go_1 qRX12_89 okl0 (by decide) ?_
  refine x_aload_n (pc := 4) dX12_go_4 rfl ?_
  refine x_getI (pc := 5) dX12_go_5 qRX12_86 okl0 (by decide) ?_
  refine x_icmp_ge (tgt := 52) (pc := 8) dX12_go_8 (by decide) (fun c1 => ?_) (fun c1 => ?_)
  · have hwp := hwp.1 c1
    refine x_sub [0] rfl ?_
    exact sg_X12_go_52 G d h0 l0 h Q hex hnn hzz okl0 hwp
  · have hwp := hwp.2 c1
    refine x_aload_n (pc := 11) dX12_go_11 rfl ?_
    obtain ⟨b2, e3, hwp⟩ := hwp
    refine x_getR (pc := 12) dX12_go_12 qRX12_7 okl0 e3 (fun okb2 => ?_)
    refine x_aload_n (pc := 15) dX12_go_15 rfl ?_
    refine x_getI (pc := 16) dX12_go_16 qRX12_89 okl0 (by decide) ?_
    obtain ⟨i4, hwp⟩ := hwp
    refine x_iaload (pc := 19) dX12_go_19 okb2 i4 ?_
    refine x_bipush (v := 32) (pc := 20) dX12_go_20 (by decide) ?_
    refine x_icmp_eq (tgt := 39) (pc := 22) dX12_go_22 (by decide) (fun c5 => ?_) (fun c5 => ?_)
    · have hwp := hwp.1 c5
      refine x_aload_n (pc := 39) dX12_go_39 rfl ?_
      refine x_dup (pc := 40) dX12_go_40 rfl ?_
      refine x_getI (pc := 41) dX12_go_41 qRX12_89 okl0 (by decide) ?_
      refine x_iconst (v := 1) (pc := 44) dX12_go_44 (by decide) ?_
      refine x_iadd (pc := 45) dX12_go_45 ?_
      refine y_putI (pc := 46) dX12_go_46 qRX12_89 okl0 (fun h6 eh6 nxh6 => ?_)
      have hwp := hwp h6 eh6
      have hex := hex.tr nxh6.1
      have hnn := nxh6.2.1.trans hnn
      have hzz := nxh6.2.2.trans hzz
      have hx0 := hx0.tr nxh6.1
      have hn0 := nxh6.2.1.trans hn0
      have hz0 := nxh6.2.2.trans hz0
      have okl0 := okl0.ex nxh6.1
      have okb2 := okb2.ex nxh6.1
      refine x_goto (tgt := 0) (pc := 49) dX12_go_49 (by decide) ?_
      refine x_sub [0] rfl ?_
      exact hbk0 _ hwp ⟨hx0, hn0, hz0⟩
    · have hwp := hwp.2 c5
      refine x_aload_n (pc := 25) dX12_go_25 rfl ?_
      obtain ⟨b7, e8, hwp⟩ := hwp
      refine x_getR (pc := 26) dX12_go_26 qRX12_7 okl0 e8 (fun okb7 => ?_)
      refine x_aload_n (pc := 29) dX12_go_29 rfl ?_
      refine x_getI (pc := 30) dX12_go_30 qRX12_89 okl0 (by decide) ?_
      obtain ⟨i9, hwp⟩ := hwp
      refine x_iaload (pc := 33) dX12_go_33 okb7 i9 ?_
      refine x_bipush (v := 10) (pc := 34) dX12_go_34 (by decide) ?_
      refine x_icmp_ne (tgt := 52) (pc := 36) dX12_go_36 (by decide) (fun c10 => ?_) (fun c10 => ?_)
      · have hwp := hwp.1 c10
        refine x_sub [0] rfl ?_
        exact sg_X12_go_52 G d h0 l0 h Q hex hnn hzz okl0 hwp
      · have hwp := hwp.2 c10
        refine x_aload_n (pc := 39) dX12_go_39 rfl ?_
        refine x_dup (pc := 40) dX12_go_40 rfl ?_
        refine x_getI (pc := 41) dX12_go_41 qRX12_89 okl0 (by decide) ?_
        refine x_iconst (v := 1) (pc := 44) dX12_go_44 (by decide) ?_
        refine x_iadd (pc := 45) dX12_go_45 ?_
        refine y_putI (pc := 46) dX12_go_46 qRX12_89 okl0 (fun h11 eh11 nxh11 => ?_)
        have hwp := hwp h11 eh11
        have hex := hex.tr nxh11.1
        have hnn := nxh11.2.1.trans hnn
        have hzz := nxh11.2.2.trans hzz
        have hx0 := hx0.tr nxh11.1
        have hn0 := nxh11.2.1.trans hn0
        have hz0 := nxh11.2.2.trans hz0
        have okl0 := okl0.ex nxh11.1
        have okb2 := okb2.ex nxh11.1
        have okb7 := okb7.ex nxh11.1
        refine x_goto (tgt := 0) (pc := 49) dX12_go_49 (by decide) ?_
        refine x_sub [0] rfl ?_
        exact hbk0 _ hwp ⟨hx0, hn0, hz0⟩
theorem lp_X12_go_0 (G : GT) (d : Nat) (h0 hb : PH) (l0 : Nat) (Q : PH → Prop)  (hex : qEx h0 hb) (hnn : qn hb = qn h0 + 0) (hzz : qz hb = qz h0 + 0) (okl0 : qOK hb 11 l0) {s : PH} (hwp : qLoop (wp_X12_go_0 l0 Q) s) : E_X12_go_0 G d h0 hb l0 Q s :=
  qLoop.use (E := E_X12_go_0 G d h0 hb l0 Q) (fun back s hbk hw hx => bd_X12_go_0 G d h0 hb l0 Q hex hnn hzz okl0 back hbk s hw hx.1 hx.2.1 hx.2.2) hwp
def wp_X12_go (l0 : Nat) (h : PH) (Q : PH → Prop) : Prop := (qLoop (wp_X12_go_0 l0 Q) h)
set_option maxHeartbeats 4000000 in
set_option maxRecDepth 100000 in
theorem sn_X12_go (G : GT) (d : Nat) (l0 : Nat) (h : PH) (Q : PH → Prop) (okl0 : qOK h 11 l0) (hwp : wp_X12_go l0 h Q) : Mt G (1 + d) 0 0 mX12_go [.ref l0] h (qqv Q) := by
  unfold wp_X12_go at hwp
  refine Mt.of (by decide) rfl (Nat.le_of_ble_eq_true rfl) ?_
  have hex := qEx.rf h
  have hnn : qn h = qn h + 0 := rfl
  have hzz : qz h = qz h + 0 := rfl
  refine x_lvE (lv2 := [(0, .ref l0)]) rfl ?_
  refine x_sub [0] rfl ?_
  exact lp_X12_go_0 G d h h l0 Q hex hnn hzz okl0 hwp ⟨qEx.rf _, rfl, rfl⟩

theorem dX12_spelt_0 : decode cX12_spelt 0 = .ok (.ldc2_w 122, 3) := by decide +kernel
theorem dX12_spelt_3 : decode cX12_spelt 3 = .ok (.iload_n 0, 1) := by decide +kernel
theorem dX12_spelt_4 : decode cX12_spelt 4 = .ok (.i2l, 1) := by decide +kernel
theorem dX12_spelt_5 : decode cX12_spelt 5 = .ok (.ldc2_w 124, 3) := by decide +kernel
theorem dX12_spelt_8 : decode cX12_spelt 8 = .ok (.lsub, 1) := by decide +kernel
theorem dX12_spelt_9 : decode cX12_spelt 9 = .ok (.lmul, 1) := by decide +kernel
theorem dX12_spelt_10 : decode cX12_spelt 10 = .ok (.iload_n 1, 1) := by decide +kernel
theorem dX12_spelt_11 : decode cX12_spelt 11 = .ok (.i2l, 1) := by decide +kernel
theorem dX12_spelt_12 : decode cX12_spelt 12 = .ok (.ladd, 1) := by decide +kernel
theorem dX12_spelt_13 : decode cX12_spelt 13 = .ok (.ldc2_w 124, 3) := by decide +kernel
theorem dX12_spelt_16 : decode cX12_spelt 16 = .ok (.lsub, 1) := by decide +kernel
theorem dX12_spelt_17 : decode cX12_spelt 17 = .ok (.lstore 5, 2) := by decide +kernel
theorem dX12_spelt_19 : decode cX12_spelt 19 = .ok (.iload_n 2, 1) := by decide +kernel
theorem dX12_spelt_20 : decode cX12_spelt 20 = .ok (.ifCond .le 18, 3) := by decide +kernel
theorem dX12_spelt_23 : decode cX12_spelt 23 = .ok (.ldc2_w 122, 3) := by decide +kernel
theorem dX12_spelt_26 : decode cX12_spelt 26 = .ok (.lload 5, 2) := by decide +kernel
theorem dX12_spelt_28 : decode cX12_spelt 28 = .ok (.lmul, 1) := by decide +kernel
theorem dX12_spelt_29 : decode cX12_spelt 29 = .ok (.iload_n 2, 1) := by decide +kernel
theorem dX12_spelt_30 : decode cX12_spelt 30 = .ok (.i2l, 1) := by decide +kernel
theorem dX12_spelt_31 : decode cX12_spelt 31 = .ok (.ladd, 1) := by decide +kernel
theorem dX12_spelt_32 : decode cX12_spelt 32 = .ok (.ldc2_w 124, 3) := by decide +kernel
theorem dX12_spelt_35 : decode cX12_spelt 35 = .ok (.lsub, 1) := by decide +kernel
theorem dX12_spelt_36 : decode cX12_spelt 36 = .ok (.lstore 5, 2) := by decide +kernel
theorem dX12_spelt_38 : decode cX12_spelt 38 = .ok (.iload_n 3, 1) := by decide +kernel
theorem dX12_spelt_39 : decode cX12_spelt 39 = .ok (.ifCond .le 18, 3) := by decide +kernel
theorem dX12_spelt_42 : decode cX12_spelt 42 = .ok (.ldc2_w 122, 3) := by decide +kernel
theorem dX12_spelt_45 : decode cX12_spelt 45 = .ok (.lload 5, 2) := by decide +kernel
theorem dX12_spelt_47 : decode cX12_spelt 47 = .ok (.lmul, 1) := by decide +kernel
theorem dX12_spelt_48 : decode cX12_spelt 48 = .ok (.iload_n 3, 1) := by decide +kernel
theorem dX12_spelt_49 : decode cX12_spelt 49 = .ok (.i2l, 1) := by decide +kernel
theorem dX12_spelt_50 : decode cX12_spelt 50 = .ok (.ladd, 1) := by decide +kernel
theorem dX12_spelt_51 : decode cX12_spelt 51 = .ok (.ldc2_w 124, 3) := by decide +kernel
theorem dX12_spelt_54 : decode cX12_spelt 54 = .ok (.lsub, 1) := by decide +kernel
theorem dX12_spelt_55 : decode cX12_spelt 55 = .ok (.lstore 5, 2) := by decide +kernel
theorem dX12_spelt_57 : decode cX12_spelt 57 = .ok (.iload 4, 2) := by decide +kernel
theorem dX12_spelt_59 : decode cX12_spelt 59 = .ok (.ifCond .le 20, 3) := by decide +kernel
theorem dX12_spelt_62 : decode cX12_spelt 62 = .ok (.ldc2_w 122, 3) := by decide +kernel
theorem dX12_spelt_65 : decode cX12_spelt 65 = .ok (.lload 5, 2) := by decide +kernel
theorem dX12_spelt_67 : decode cX12_spelt 67 = .ok (.lmul, 1) := by decide +kernel
theorem dX12_spelt_68 : decode cX12_spelt 68 = .ok (.iload 4, 2) := by decide +kernel
theorem dX12_spelt_70 : decode cX12_spelt 70 = .ok (.i2l, 1) := by decide +kernel
theorem dX12_spelt_71 : decode cX12_spelt 71 = .ok (.ladd, 1) := by decide +kernel
theorem dX12_spelt_72 : decode cX12_spelt 72 = .ok (.ldc2_w 124, 3) := by decide +kernel
theorem dX12_spelt_75 : decode cX12_spelt 75 = .ok (.lsub, 1) := by decide +kernel
theorem dX12_spelt_76 : decode cX12_spelt 76 = .ok (.goto 5, 3) := by decide +kernel
theorem dX12_spelt_79 : decode cX12_spelt 79 = .ok (.lload 5, 2) := by decide +kernel
theorem dX12_spelt_81 : decode cX12_spelt 81 = .ok (.lreturn, 1) := by decide +kernel
def wp_X12_spelt_57 (l4 : Int32) (l5 : Int64)  (h : PH) (Q : Int64 → PH → Prop) : Prop := ((l4 ≤ 0 → Q l5 h) ∧ (¬ (l4 ≤ 0) → Q (((27 * l5) + l4.toInt64) - 96) h))
set_option maxHeartbeats 4000000 in
set_option maxRecDepth 100000 in
theorem sg_X12_spelt_57 (G : GT) (d : Nat) (h0 : PH) (l4 : Int32) (l5 : Int64) (h : PH) (Q : Int64 → PH → Prop) (hex : qEx h0 h) (hnn : qn h = qn h0 + 0) (hzz : qz h = qz h0 + 0)  (hwp : wp_X12_spelt_57 l4 l5 h Q) : Ex G (qrm (0 + d) 0 0) mX12_spelt (qn h0) (qz h0) (ZN G h0 0 0 (qqj Q)) 57 [(4, .int l4), (5, .long l5)] [] h := by
  unfold wp_X12_spelt_57 at hwp
  refine x_iload (pc := 57) dX12_spelt_57 rfl ?_
  refine x_if_le (tgt := 79) (pc := 59) dX12_spelt_59 (by decide) (fun c6 => ?_) (fun c6 => ?_)
  · have hwp := hwp.1 c6
    refine x_lload (pc := 79) dX12_spelt_79 rfl ?_
    exact x_lret (pc := 81) dX12_spelt_81 rfl hex hnn hzz ⟨_, rfl, hwp⟩
  · have hwp := hwp.2 c6
    refine x_ldc2 (v := 27) (pc := 62) dX12_spelt_62 kRX12_122 ?_
    refine x_lload (pc := 65) dX12_spelt_65 rfl ?_
    refine x_lmul (pc := 67) dX12_spelt_67 ?_
    refine x_iload (pc := 68) dX12_spelt_68 rfl ?_
    refine x_i2l (pc := 70) dX12_spelt_70 ?_
    refine x_ladd (pc := 71) dX12_spelt_71 ?_
    refine x_ldc2 (v := 96) (pc := 72) dX12_spelt_72 kRX12_124 ?_
    refine x_lsub (pc := 75) dX12_spelt_75 ?_
    refine x_goto (tgt := 81) (pc := 76) dX12_spelt_76 (by decide) ?_
    exact x_lret (pc := 81) dX12_spelt_81 rfl hex hnn hzz ⟨_, rfl, hwp⟩
def wp_X12_spelt_38 (l3 : Int32) (l4 : Int32) (l5 : Int64)  (h : PH) (Q : Int64 → PH → Prop) : Prop := ((l3 ≤ 0 → (wp_X12_spelt_57 l4 l5 h Q)) ∧ (¬ (l3 ≤ 0) → ∀ v5 : Int64, v5 = ((27 * l5) + l3.toInt64) - 96 → (wp_X12_spelt_57 l4 v5 h Q)))
set_option maxHeartbeats 4000000 in
set_option maxRecDepth 100000 in
theorem sg_X12_spelt_38 (G : GT) (d : Nat) (h0 : PH) (l3 : Int32) (l4 : Int32) (l5 : Int64) (h : PH) (Q : Int64 → PH → Prop) (hex : qEx h0 h) (hnn : qn h = qn h0 + 0) (hzz : qz h = qz h0 + 0)  (hwp : wp_X12_spelt_38 l3 l4 l5 h Q) : Ex G (qrm (0 + d) 0 0) mX12_spelt (qn h0) (qz h0) (ZN G h0 0 0 (qqj Q)) 38 [(3, .int l3), (4, .int l4), (5, .long l5)] [] h := by
  unfold wp_X12_spelt_38 at hwp
  refine x_iload_n (pc := 38) dX12_spelt_38 rfl ?_
  refine x_if_le (tgt := 57) (pc := 39) dX12_spelt_39 (by decide) (fun c4 => ?_) (fun c4 => ?_)
  · have hwp := hwp.1 c4
    refine x_sub [1, 2] rfl ?_
    exact sg_X12_spelt_57 G d h0 l4 l5 h Q hex hnn hzz hwp
  · have hwp := hwp.2 c4
    refine x_ldc2 (v := 27) (pc := 42) dX12_spelt_42 kRX12_122 ?_
    refine x_lload (pc := 45) dX12_spelt_45 rfl ?_
    refine x_lmul (pc := 47) dX12_spelt_47 ?_
    refine x_iload_n (pc := 48) dX12_spelt_48 rfl ?_
    refine x_i2l (pc := 49) dX12_spelt_49 ?_
    refine x_ladd (pc := 50) dX12_spelt_50 ?_
    refine x_ldc2 (v := 96) (pc := 51) dX12_spelt_51 kRX12_124 ?_
    refine x_lsub (pc := 54) dX12_spelt_54 ?_
    refine x_nmJ (fun v5 ev5 => ?_)
    have hwp := hwp v5 ev5
    refine x_lstore (lv2 := [(5, .long v5), (3, .int l3), (4, .int l4)]) (pc := 55) dX12_spelt_55 (by decide) rfl ?_
    refine x_sub [2, 0] rfl ?_
    exact sg_X12_spelt_57 G d h0 l4 v5 h Q hex hnn hzz hwp
def wp_X12_spelt (l0 : Int32) (l1 : Int32) (l2 : Int32) (l3 : Int32) (l4 : Int32) (h : PH) (Q : Int64 → PH → Prop) : Prop := ∀ v1 : Int64, v1 = ((27 * (l0.toInt64 - 96)) + l1.toInt64) - 96 → ((l2 ≤ 0 → (wp_X12_spelt_38 l3 l4 v1 h Q)) ∧ (¬ (l2 ≤ 0) → ∀ v3 : Int64, v3 = ((27 * v1) + l2.toInt64) - 96 → (wp_X12_spelt_38 l3 l4 v3 h Q)))
set_option maxHeartbeats 4000000 in
set_option maxRecDepth 100000 in
theorem sn_X12_spelt (G : GT) (d : Nat) (l0 : Int32) (l1 : Int32) (l2 : Int32) (l3 : Int32) (l4 : Int32) (h : PH) (Q : Int64 → PH → Prop)  (hwp : wp_X12_spelt l0 l1 l2 l3 l4 h Q) : Mt G (0 + d) 0 0 mX12_spelt [.int l0, .int l1, .int l2, .int l3, .int l4] h (qqj Q) := by
  unfold wp_X12_spelt at hwp
  refine Mt.of (by decide) rfl (Nat.le_of_ble_eq_true rfl) ?_
  have hex := qEx.rf h
  have hnn : qn h = qn h + 0 := rfl
  have hzz : qz h = qz h + 0 := rfl
  refine x_lvE (lv2 := [(0, .int l0), (1, .int l1), (2, .int l2), (3, .int l3), (4, .int l4)]) rfl ?_
  refine x_ldc2 (v := 27) (pc := 0) dX12_spelt_0 kRX12_122 ?_
  refine x_iload_n (pc := 3) dX12_spelt_3 rfl ?_
  refine x_i2l (pc := 4) dX12_spelt_4 ?_
  refine x_ldc2 (v := 96) (pc := 5) dX12_spelt_5 kRX12_124 ?_
  refine x_lsub (pc := 8) dX12_spelt_8 ?_
  refine x_lmul (pc := 9) dX12_spelt_9 ?_
  refine x_iload_n (pc := 10) dX12_spelt_10 rfl ?_
  refine x_i2l (pc := 11) dX12_spelt_11 ?_
  refine x_ladd (pc := 12) dX12_spelt_12 ?_
  refine x_ldc2 (v := 96) (pc := 13) dX12_spelt_13 kRX12_124 ?_
  refine x_lsub (pc := 16) dX12_spelt_16 ?_
  refine x_nmJ (fun v1 ev1 => ?_)
  have hwp := hwp v1 ev1
  refine x_lstore (lv2 := [(5, .long v1), (0, .int l0), (1, .int l1), (2, .int l2), (3, .int l3), (4, .int l4)]) (pc := 17) dX12_spelt_17 (by decide) rfl ?_
  refine x_iload_n (pc := 19) dX12_spelt_19 rfl ?_
  refine x_if_le (tgt := 38) (pc := 20) dX12_spelt_20 (by decide) (fun c2 => ?_) (fun c2 => ?_)
  · have hwp := hwp.1 c2
    refine x_sub [4, 5, 0] rfl ?_
    exact sg_X12_spelt_38 G d h l3 l4 v1 h Q hex hnn hzz hwp
  · have hwp := hwp.2 c2
    refine x_ldc2 (v := 27) (pc := 23) dX12_spelt_23 kRX12_122 ?_
    refine x_lload (pc := 26) dX12_spelt_26 rfl ?_
    refine x_lmul (pc := 28) dX12_spelt_28 ?_
    refine x_iload_n (pc := 29) dX12_spelt_29 rfl ?_
    refine x_i2l (pc := 30) dX12_spelt_30 ?_
    refine x_ladd (pc := 31) dX12_spelt_31 ?_
    refine x_ldc2 (v := 96) (pc := 32) dX12_spelt_32 kRX12_124 ?_
    refine x_lsub (pc := 35) dX12_spelt_35 ?_
    refine x_nmJ (fun v3 ev3 => ?_)
    have hwp := hwp v3 ev3
    refine x_lstore (lv2 := [(5, .long v3), (0, .int l0), (1, .int l1), (2, .int l2), (3, .int l3), (4, .int l4)]) (pc := 36) dX12_spelt_36 (by decide) rfl ?_
    refine x_sub [4, 5, 0] rfl ?_
    exact sg_X12_spelt_38 G d h l3 l4 v3 h Q hex hnn hzz hwp

theorem dX12_six_0 : decode cX12_six 0 = .ok (.ldc2_w 122, 3) := by decide +kernel
theorem dX12_six_3 : decode cX12_six 3 = .ok (.iload_n 0, 1) := by decide +kernel
theorem dX12_six_4 : decode cX12_six 4 = .ok (.iload_n 1, 1) := by decide +kernel
theorem dX12_six_5 : decode cX12_six 5 = .ok (.iload_n 2, 1) := by decide +kernel
theorem dX12_six_6 : decode cX12_six 6 = .ok (.iload_n 3, 1) := by decide +kernel
theorem dX12_six_7 : decode cX12_six 7 = .ok (.iload 4, 2) := by decide +kernel
theorem dX12_six_9 : decode cX12_six 9 = .ok (.invokestatic 126, 3) := by decide +kernel
theorem dX12_six_12 : decode cX12_six 12 = .ok (.lmul, 1) := by decide +kernel
theorem dX12_six_13 : decode cX12_six 13 = .ok (.iload 5, 2) := by decide +kernel
theorem dX12_six_15 : decode cX12_six 15 = .ok (.i2l, 1) := by decide +kernel
theorem dX12_six_16 : decode cX12_six 16 = .ok (.ladd, 1) := by decide +kernel
theorem dX12_six_17 : decode cX12_six 17 = .ok (.ldc2_w 124, 3) := by decide +kernel
theorem dX12_six_20 : decode cX12_six 20 = .ok (.lsub, 1) := by decide +kernel
theorem dX12_six_21 : decode cX12_six 21 = .ok (.lreturn, 1) := by decide +kernel
def wp_X12_six (l0 : Int32) (l1 : Int32) (l2 : Int32) (l3 : Int32) (l4 : Int32) (l5 : Int32) (h : PH) (Q : Int64 → PH → Prop) : Prop := (wp_X12_spelt l0 l1 l2 l3 l4 h (fun r2 h1 => Q (((27 * r2) + l5.toInt64) - 96) h1))
set_option maxHeartbeats 4000000 in
set_option maxRecDepth 100000 in
theorem sn_X12_six (G : GT) (d : Nat) (l0 : Int32) (l1 : Int32) (l2 : Int32) (l3 : Int32) (l4 : Int32) (l5 : Int32) (h : PH) (Q : Int64 → PH → Prop)  (hwp : wp_X12_six l0 l1 l2 l3 l4 l5 h Q) : Mt G (1 + d) 0 0 mX12_six [.int l0, .int l1, .int l2, .int l3, .int l4, .int l5] h (qqj Q) := by
  unfold wp_X12_six at hwp
  refine Mt.of (by decide) rfl (Nat.le_of_ble_eq_true rfl) ?_
  have hex := qEx.rf h
  have hnn : qn h = qn h + 0 := rfl
  have hzz : qz h = qz h + 0 := rfl
  refine x_lvE (lv2 := [(0, .int l0), (1, .int l1), (2, .int l2), (3, .int l3), (4, .int l4), (5, .int l5)]) rfl ?_
  refine x_ldc2 (v := 27) (pc := 0) dX12_six_0 kRX12_122 ?_
  refine x_iload_n (pc := 3) dX12_six_3 rfl ?_
  refine x_iload_n (pc := 4) dX12_six_4 rfl ?_
  refine x_iload_n (pc := 5) dX12_six_5 rfl ?_
  refine x_iload_n (pc := 6) dX12_six_6 rfl ?_
  refine x_iload (pc := 7) dX12_six_7 rfl ?_
  refine x_invS (As := [.int l0, .int l1, .int l2, .int l3, .int l4]) (st := [.long 27]) (pc := 9) dX12_six_9 lRX12_126 fX12_spelt sX12_spelt rfl (Nat.le_of_ble_eq_true rfl) (q_R (by omega) (by decide)) (q_C hnn hzz (by decide) (by decide)) (sn_X12_spelt G (d + 0) l0 l1 l2 l3 l4 h _  hwp) (k_j (fun r2 h1 hwp cxh1 => ?_))
  have hex := hex.tr cxh1.1
  have hnn : qn h1 = qn h + 0 := by have := cxh1.2.1; omega
  have hzz : qz h1 = qz h + 0 := by have := cxh1.2.2; omega
  refine x_lmul (pc := 12) dX12_six_12 ?_
  refine x_iload (pc := 13) dX12_six_13 rfl ?_
  refine x_i2l (pc := 15) dX12_six_15 ?_
  refine x_ladd (pc := 16) dX12_six_16 ?_
  refine x_ldc2 (v := 96) (pc := 17) dX12_six_17 kRX12_124 ?_
  refine x_lsub (pc := 20) dX12_six_20 ?_
  exact x_lret (pc := 21) dX12_six_21 rfl hex hnn hzz ⟨_, rfl, hwp⟩

theorem dX12_isKey_0 : decode cX12_isKey 0 = .ok (.aload_n 0, 1) := by decide +kernel
theorem dX12_isKey_1 : decode cX12_isKey 1 = .ok (.getfield 98, 3) := by decide +kernel
theorem dX12_isKey_4 : decode cX12_isKey 4 = .ok (.iconst 2, 1) := by decide +kernel
theorem dX12_isKey_5 : decode cX12_isKey 5 = .ok (.if_icmp .ne 16, 3) := by decide +kernel
theorem dX12_isKey_8 : decode cX12_isKey 8 = .ok (.aload_n 0, 1) := by decide +kernel
theorem dX12_isKey_9 : decode cX12_isKey 9 = .ok (.getfield 111, 3) := by decide +kernel
theorem dX12_isKey_12 : decode cX12_isKey 12 = .ok (.lload_n 1, 1) := by decide +kernel
theorem dX12_isKey_13 : decode cX12_isKey 13 = .ok (.lcmp, 1) := by decide +kernel
theorem dX12_isKey_14 : decode cX12_isKey 14 = .ok (.ifCond .ne 7, 3) := by decide +kernel
theorem dX12_isKey_17 : decode cX12_isKey 17 = .ok (.iconst 1, 1) := by decide +kernel
theorem dX12_isKey_18 : decode cX12_isKey 18 = .ok (.goto 4, 3) := by decide +kernel
theorem dX12_isKey_21 : decode cX12_isKey 21 = .ok (.iconst 0, 1) := by decide +kernel
theorem dX12_isKey_22 : decode cX12_isKey 22 = .ok (.ireturn, 1) := by decide +kernel
def wp_X12_isKey (l0 : Nat) (l1 : Int64) (h : PH) (Q : Int32 → PH → Prop) : Prop := ((¬ (qI h l0 7) = 2 → Q 0 h) ∧ ((qI h l0 7) = 2 → ((¬ (lg_cmp (qJ h l0 12) l1) = 0 → Q 0 h) ∧ ((lg_cmp (qJ h l0 12) l1) = 0 → Q 1 h))))
set_option maxHeartbeats 4000000 in
set_option maxRecDepth 100000 in
theorem sn_X12_isKey (G : GT) (d : Nat) (l0 : Nat) (l1 : Int64) (h : PH) (Q : Int32 → PH → Prop) (okl0 : qOK h 11 l0) (hwp : wp_X12_isKey l0 l1 h Q) : Mt G (0 + d) 0 0 mX12_isKey [.ref l0, .long l1] h (qqb Q) := by
  unfold wp_X12_isKey at hwp
  refine Mt.of (by decide) rfl (Nat.le_of_ble_eq_true rfl) ?_
  have hex := qEx.rf h
  have hnn : qn h = qn h + 0 := rfl
  have hzz : qz h = qz h + 0 := rfl
  refine x_lvE (lv2 := [(0, .ref l0), (1, .long l1)]) rfl ?_
  refine x_aload_n (pc := 0) dX12_isKey_0 rfl ?_
  refine x_getI (pc := 1) dX12_isKey_1 qRX12_98 okl0 (by decide) ?_
  refine x_iconst (v := 2) (pc := 4) dX12_isKey_4 (by decide) ?_
  refine x_icmp_ne (tgt := 21) (pc := 5) dX12_isKey_5 (by decide) (fun c1 => ?_) (fun c1 => ?_)
  · have hwp := hwp.1 c1
    refine x_iconst (v := 0) (pc := 21) dX12_isKey_21 (by decide) ?_
    exact x_zret (pc := 22) dX12_isKey_22 rfl hex hnn hzz (by decide) ⟨_, rfl, by decide, hwp⟩
  · have hwp := hwp.2 c1
    refine x_aload_n (pc := 8) dX12_isKey_8 rfl ?_
    refine x_getJ (pc := 9) dX12_isKey_9 qRX12_111 okl0 ?_
    refine x_lload_n (pc := 12) dX12_isKey_12 rfl ?_
    refine x_lcmp (pc := 13) dX12_isKey_13 ?_
    refine x_if_ne (tgt := 21) (pc := 14) dX12_isKey_14 (by decide) (fun c2 => ?_) (fun c2 => ?_)
    · have hwp := hwp.1 c2
      refine x_iconst (v := 0) (pc := 21) dX12_isKey_21 (by decide) ?_
      exact x_zret (pc := 22) dX12_isKey_22 rfl hex hnn hzz (by decide) ⟨_, rfl, by decide, hwp⟩
    · have hwp := hwp.2 c2
      refine x_iconst (v := 1) (pc := 17) dX12_isKey_17 (by decide) ?_
      refine x_goto (tgt := 22) (pc := 18) dX12_isKey_18 (by decide) ?_
      exact x_zret (pc := 22) dX12_isKey_22 rfl hex hnn hzz (by decide) ⟨_, rfl, by decide, hwp⟩

theorem dX12_isSign_0 : decode cX12_isSign 0 = .ok (.aload_n 0, 1) := by decide +kernel
theorem dX12_isSign_1 : decode cX12_isSign 1 = .ok (.getfield 98, 3) := by decide +kernel
theorem dX12_isSign_4 : decode cX12_isSign 4 = .ok (.iconst 4, 1) := by decide +kernel
theorem dX12_isSign_5 : decode cX12_isSign 5 = .ok (.if_icmp .ne 15, 3) := by decide +kernel
theorem dX12_isSign_8 : decode cX12_isSign 8 = .ok (.aload_n 0, 1) := by decide +kernel
theorem dX12_isSign_9 : decode cX12_isSign 9 = .ok (.getfield 108, 3) := by decide +kernel
theorem dX12_isSign_12 : decode cX12_isSign 12 = .ok (.iload_n 1, 1) := by decide +kernel
theorem dX12_isSign_13 : decode cX12_isSign 13 = .ok (.if_icmp .ne 7, 3) := by decide +kernel
theorem dX12_isSign_16 : decode cX12_isSign 16 = .ok (.iconst 1, 1) := by decide +kernel
theorem dX12_isSign_17 : decode cX12_isSign 17 = .ok (.goto 4, 3) := by decide +kernel
theorem dX12_isSign_20 : decode cX12_isSign 20 = .ok (.iconst 0, 1) := by decide +kernel
theorem dX12_isSign_21 : decode cX12_isSign 21 = .ok (.ireturn, 1) := by decide +kernel
def wp_X12_isSign (l0 : Nat) (l1 : Int32) (h : PH) (Q : Int32 → PH → Prop) : Prop := ((¬ (qI h l0 7) = 4 → Q 0 h) ∧ ((qI h l0 7) = 4 → ((¬ (qI h l0 9) = l1 → Q 0 h) ∧ ((qI h l0 9) = l1 → Q 1 h))))
set_option maxHeartbeats 4000000 in
set_option maxRecDepth 100000 in
theorem sn_X12_isSign (G : GT) (d : Nat) (l0 : Nat) (l1 : Int32) (h : PH) (Q : Int32 → PH → Prop) (okl0 : qOK h 11 l0) (hwp : wp_X12_isSign l0 l1 h Q) : Mt G (0 + d) 0 0 mX12_isSign [.ref l0, .int l1] h (qqb Q) := by
  unfold wp_X12_isSign at hwp
  refine Mt.of (by decide) rfl (Nat.le_of_ble_eq_true rfl) ?_
  have hex := qEx.rf h
  have hnn : qn h = qn h + 0 := rfl
  have hzz : qz h = qz h + 0 := rfl
  refine x_lvE (lv2 := [(0, .ref l0), (1, .int l1)]) rfl ?_
  refine x_aload_n (pc := 0) dX12_isSign_0 rfl ?_
  refine x_getI (pc := 1) dX12_isSign_1 qRX12_98 okl0 (by decide) ?_
  refine x_iconst (v := 4) (pc := 4) dX12_isSign_4 (by decide) ?_
  refine x_icmp_ne (tgt := 20) (pc := 5) dX12_isSign_5 (by decide) (fun c1 => ?_) (fun c1 => ?_)
  · have hwp := hwp.1 c1
    refine x_iconst (v := 0) (pc := 20) dX12_isSign_20 (by decide) ?_
    exact x_zret (pc := 21) dX12_isSign_21 rfl hex hnn hzz (by decide) ⟨_, rfl, by decide, hwp⟩
  · have hwp := hwp.2 c1
    refine x_aload_n (pc := 8) dX12_isSign_8 rfl ?_
    refine x_getI (pc := 9) dX12_isSign_9 qRX12_108 okl0 (by decide) ?_
    refine x_iload_n (pc := 12) dX12_isSign_12 rfl ?_
    refine x_icmp_ne (tgt := 20) (pc := 13) dX12_isSign_13 (by decide) (fun c2 => ?_) (fun c2 => ?_)
    · have hwp := hwp.1 c2
      refine x_iconst (v := 0) (pc := 20) dX12_isSign_20 (by decide) ?_
      exact x_zret (pc := 21) dX12_isSign_21 rfl hex hnn hzz (by decide) ⟨_, rfl, by decide, hwp⟩
    · have hwp := hwp.2 c2
      refine x_iconst (v := 1) (pc := 16) dX12_isSign_16 (by decide) ?_
      refine x_goto (tgt := 21) (pc := 17) dX12_isSign_17 (by decide) ?_
      exact x_zret (pc := 21) dX12_isSign_21 rfl hex hnn hzz (by decide) ⟨_, rfl, by decide, hwp⟩

theorem dX12_bad_0 : decode cX12_bad 0 = .ok (.aload_n 0, 1) := by decide +kernel
theorem dX12_bad_1 : decode cX12_bad 1 = .ok (.aload_n 0, 1) := by decide +kernel
theorem dX12_bad_2 : decode cX12_bad 2 = .ok (.getfield 98, 3) := by decide +kernel
theorem dX12_bad_5 : decode cX12_bad 5 = .ok (.iconst 1, 1) := by decide +kernel
theorem dX12_bad_6 : decode cX12_bad 6 = .ok (.if_icmp .ne 7, 3) := by decide +kernel
theorem dX12_bad_9 : decode cX12_bad 9 = .ok (.iconst 1, 1) := by decide +kernel
theorem dX12_bad_10 : decode cX12_bad 10 = .ok (.goto 4, 3) := by decide +kernel
theorem dX12_bad_13 : decode cX12_bad 13 = .ok (.iload_n 1, 1) := by decide +kernel
theorem dX12_bad_14 : decode cX12_bad 14 = .ok (.putfield 130, 3) := by decide +kernel
theorem dX12_bad_17 : decode cX12_bad 17 = .ok (.aload_n 0, 1) := by decide +kernel
theorem dX12_bad_18 : decode cX12_bad 18 = .ok (.aload_n 0, 1) := by decide +kernel
theorem dX12_bad_19 : decode cX12_bad 19 = .ok (.getfield 92, 3) := by decide +kernel
theorem dX12_bad_22 : decode cX12_bad 22 = .ok (.putfield 133, 3) := by decide +kernel
theorem dX12_bad_25 : decode cX12_bad 25 = .ok (.iconst 0, 1) := by decide +kernel
theorem dX12_bad_26 : decode cX12_bad 26 = .ok (.ireturn, 1) := by decide +kernel
def wp_X12_bad (l0 : Nat) (l1 : Int32) (h : PH) (Q : Int32 → PH → Prop) : Prop := ((¬ (qI h l0 7) = 1 → (∀ h2, h2 = qsI h l0 10 l1 → (∀ h3, h3 = qsI h2 l0 11 (qI h2 l0 6) → Q 0 h3))) ∧ ((qI h l0 7) = 1 → (∀ h4, h4 = qsI h l0 10 1 → (∀ h5, h5 = qsI h4 l0 11 (qI h4 l0 6) → Q 0 h5))))
set_option maxHeartbeats 4000000 in
set_option maxRecDepth 100000 in
theorem sn_X12_bad (G : GT) (d : Nat) (l0 : Nat) (l1 : Int32) (h : PH) (Q : Int32 → PH → Prop) (okl0 : qOK h 11 l0) (hwp : wp_X12_bad l0 l1 h Q) : Mt G (0 + d) 0 0 mX12_bad [.ref l0, .int l1] h (qqb Q) := by
  unfold wp_X12_bad at hwp
  refine Mt.of (by decide) rfl (Nat.le_of_ble_eq_true rfl) ?_
  have hex := qEx.rf h
  have hnn : qn h = qn h + 0 := rfl
  have hzz : qz h = qz h + 0 := rfl
  refine x_lvE (lv2 := [(0, .ref l0), (1, .int l1)]) rfl ?_
  refine x_aload_n (pc := 0) dX12_bad_0 rfl ?_
  refine x_aload_n (pc := 1) dX12_bad_1 rfl ?_
  refine x_getI (pc := 2) dX12_bad_2 qRX12_98 okl0 (by decide) ?_
  refine x_iconst (v := 1) (pc := 5) dX12_bad_5 (by decide) ?_
  refine x_icmp_ne (tgt := 13) (pc := 6) dX12_bad_6 (by decide) (fun c1 => ?_) (fun c1 => ?_)
  · have hwp := hwp.1 c1
    refine x_iload_n (pc := 13) dX12_bad_13 rfl ?_
    refine y_putI (pc := 14) dX12_bad_14 qRX12_130 okl0 (fun h2 eh2 nxh2 => ?_)
    have hwp := hwp h2 eh2
    have hex := hex.tr nxh2.1
    have hnn := nxh2.2.1.trans hnn
    have hzz := nxh2.2.2.trans hzz
    have okl0 := okl0.ex nxh2.1
    refine x_aload_n (pc := 17) dX12_bad_17 rfl ?_
    refine x_aload_n (pc := 18) dX12_bad_18 rfl ?_
    refine x_getI (pc := 19) dX12_bad_19 qRX12_92 okl0 (by decide) ?_
    refine y_putI (pc := 22) dX12_bad_22 qRX12_133 okl0 (fun h3 eh3 nxh3 => ?_)
    have hwp := hwp h3 eh3
    have hex := hex.tr nxh3.1
    have hnn := nxh3.2.1.trans hnn
    have hzz := nxh3.2.2.trans hzz
    have okl0 := okl0.ex nxh3.1
    refine x_iconst (v := 0) (pc := 25) dX12_bad_25 (by decide) ?_
    exact x_zret (pc := 26) dX12_bad_26 rfl hex hnn hzz (by decide) ⟨_, rfl, by decide, hwp⟩
  · have hwp := hwp.2 c1
    refine x_iconst (v := 1) (pc := 9) dX12_bad_9 (by decide) ?_
    refine x_goto (tgt := 14) (pc := 10) dX12_bad_10 (by decide) ?_
    refine y_putI (pc := 14) dX12_bad_14 qRX12_130 okl0 (fun h4 eh4 nxh4 => ?_)
    have hwp := hwp h4 eh4
    have hex := hex.tr nxh4.1
    have hnn := nxh4.2.1.trans hnn
    have hzz := nxh4.2.2.trans hzz
    have okl0 := okl0.ex nxh4.1
    refine x_aload_n (pc := 17) dX12_bad_17 rfl ?_
    refine x_aload_n (pc := 18) dX12_bad_18 rfl ?_
    refine x_getI (pc := 19) dX12_bad_19 qRX12_92 okl0 (by decide) ?_
    refine y_putI (pc := 22) dX12_bad_22 qRX12_133 okl0 (fun h5 eh5 nxh5 => ?_)
    have hwp := hwp h5 eh5
    have hex := hex.tr nxh5.1
    have hnn := nxh5.2.1.trans hnn
    have hzz := nxh5.2.2.trans hzz
    have okl0 := okl0.ex nxh5.1
    refine x_iconst (v := 0) (pc := 25) dX12_bad_25 (by decide) ?_
    exact x_zret (pc := 26) dX12_bad_26 rfl hex hnn hzz (by decide) ⟨_, rfl, by decide, hwp⟩

theorem dX12_readNumber_0 : decode cX12_readNumber 0 = .ok (.aload_n 0, 1) := by decide +kernel
theorem dX12_readNumber_1 : decode cX12_readNumber 1 = .ok (.getfield 98, 3) := by decide +kernel
theorem dX12_readNumber_4 : decode cX12_readNumber 4 = .ok (.iconst 3, 1) := by decide +kernel
theorem dX12_readNumber_5 : decode cX12_readNumber 5 = .ok (.if_icmp .eq 9, 3) := by decide +kernel
theorem dX12_readNumber_8 : decode cX12_readNumber 8 = .ok (.aload_n 0, 1) := by decide +kernel
theorem dX12_readNumber_9 : decode cX12_readNumber 9 = .ok (.iconst 1, 1) := by decide +kernel
theorem dX12_readNumber_10 : decode cX12_readNumber 10 = .ok (.invokevirtual 136, 3) := by decide +kernel
theorem dX12_readNumber_13 : decode cX12_readNumber 13 = .ok (.ireturn, 1) := by decide +kernel
theorem dX12_readNumber_14 : decode cX12_readNumber 14 = .ok (.aload_n 0, 1) := by decide +kernel
theorem dX12_readNumber_15 : decode cX12_readNumber 15 = .ok (.getfield 115, 3) := by decide +kernel
theorem dX12_readNumber_18 : decode cX12_readNumber 18 = .ok (.iload_n 1, 1) := by decide +kernel
theorem dX12_readNumber_19 : decode cX12_readNumber 19 = .ok (.iload_n 2, 1) := by decide +kernel
theorem dX12_readNumber_20 : decode cX12_readNumber 20 = .ok (.invokestatic 139, 3) := by decide +kernel
theorem dX12_readNumber_23 : decode cX12_readNumber 23 = .ok (.ifCond .ne 9, 3) := by decide +kernel
theorem dX12_readNumber_26 : decode cX12_readNumber 26 = .ok (.aload_n 0, 1) := by decide +kernel
theorem dX12_readNumber_27 : decode cX12_readNumber 27 = .ok (.iconst 2, 1) := by decide +kernel
theorem dX12_readNumber_28 : decode cX12_readNumber 28 = .ok (.invokevirtual 136, 3) := by decide +kernel
theorem dX12_readNumber_31 : decode cX12_readNumber 31 = .ok (.ireturn, 1) := by decide +kernel
theorem dX12_readNumber_32 : decode cX12_readNumber 32 = .ok (.aload_n 0, 1) := by decide +kernel
theorem dX12_readNumber_33 : decode cX12_readNumber 33 = .ok (.aload_n 0, 1) := by decide +kernel
theorem dX12_readNumber_34 : decode cX12_readNumber 34 = .ok (.getfield 115, 3) := by decide +kernel
theorem dX12_readNumber_37 : decode cX12_readNumber 37 = .ok (.putfield 143, 3) := by decide +kernel
theorem dX12_readNumber_40 : decode cX12_readNumber 40 = .ok (.aload_n 0, 1) := by decide +kernel
theorem dX12_readNumber_41 : decode cX12_readNumber 41 = .ok (.invokevirtual 146, 3) := by decide +kernel
theorem dX12_readNumber_44 : decode cX12_readNumber 44 = .ok (.iconst 1, 1) := by decide +kernel
theorem dX12_readNumber_45 : decode cX12_readNumber 45 = .ok (.ireturn, 1) := by decide +kernel
def wp_X12_readNumber (l0 : Nat) (l1 : Int32) (l2 : Int32) (h : PH) (Q : Int32 → PH → Prop) : Prop := (((qI h l0 7) = 3 → (wp_X12_isIn (qI h l0 8) l1 l2 h (fun r3 h2 => ((¬ r3 = 0 → (∀ h5, h5 = qsI h2 l0 13 (qI h2 l0 8) → (wp_X12_go l0 h5 (fun h6 => Q 1 h6)))) ∧ (r3 = 0 → (wp_X12_bad l0 2 h2 (fun r9 h8 => ((r9 = 0 ∨ r9 = 1) ∧ Q r9 h8)))))))) ∧ (¬ ((qI h l0 7) = 3) → (wp_X12_bad l0 1 h (fun r12 h11 => ((r12 = 0 ∨ r12 = 1) ∧ Q r12 h11)))))
set_option maxHeartbeats 4000000 in
set_option maxRecDepth 100000 in
theorem sn_X12_readNumber (G : GT) (d : Nat) (l0 : Nat) (l1 : Int32) (l2 : Int32) (h : PH) (Q : Int32 → PH → Prop) (okl0 : qOK h 11 l0) (hwp : wp_X12_readNumber l0 l1 l2 h Q) : Mt G (2 + d) 0 0 mX12_readNumber [.ref l0, .int l1, .int l2] h (qqb Q) := by
  unfold wp_X12_readNumber at hwp
  refine Mt.of (by decide) rfl (Nat.le_of_ble_eq_true rfl) ?_
  have hex := qEx.rf h
  have hnn : qn h = qn h + 0 := rfl
  have hzz : qz h = qz h + 0 := rfl
  refine x_lvE (lv2 := [(0, .ref l0), (1, .int l1), (2, .int l2)]) rfl ?_
  refine x_aload_n (pc := 0) dX12_readNumber_0 rfl ?_
  refine x_getI (pc := 1) dX12_readNumber_1 qRX12_98 okl0 (by decide) ?_
  refine x_iconst (v := 3) (pc := 4) dX12_readNumber_4 (by decide) ?_
  refine x_icmp_eq (tgt := 14) (pc := 5) dX12_readNumber_5 (by decide) (fun c1 => ?_) (fun c1 => ?_)
  · have hwp := hwp.1 c1
    refine x_aload_n (pc := 14) dX12_readNumber_14 rfl ?_
    refine x_getI (pc := 15) dX12_readNumber_15 qRX12_115 okl0 (by decide) ?_
    refine x_iload_n (pc := 18) dX12_readNumber_18 rfl ?_
    refine x_iload_n (pc := 19) dX12_readNumber_19 rfl ?_
    refine x_invS (As := [.int (qI h l0 8), .int l1, .int l2]) (st := []) (pc := 20) dX12_readNumber_20 lRX12_139 fX12_isIn sX12_isIn rfl (Nat.le_of_ble_eq_true rfl) (q_R (by omega) (by decide)) (q_C hnn hzz (by decide) (by decide)) (sn_X12_isIn G (d + 1) (qI h l0 8) l1 l2 h _  hwp) (k_b (fun r3 h2 hwp zbr3 cxh2 => ?_))
    have hex := hex.tr cxh2.1
    have hnn : qn h2 = qn h + 0 := by have := cxh2.2.1; omega
    have hzz : qz h2 = qz h + 0 := by have := cxh2.2.2; omega
    have okl0 := okl0.ex cxh2.1
    refine x_if_ne (tgt := 32) (pc := 23) dX12_readNumber_23 (by decide) (fun c4 => ?_) (fun c4 => ?_)
    · have hwp := hwp.1 c4
      refine x_aload_n (pc := 32) dX12_readNumber_32 rfl ?_
      refine x_aload_n (pc := 33) dX12_readNumber_33 rfl ?_
      refine x_getI (pc := 34) dX12_readNumber_34 qRX12_115 okl0 (by decide) ?_
      refine y_putI (pc := 37) dX12_readNumber_37 qRX12_143 okl0 (fun h5 eh5 nxh5 => ?_)
      have hwp := hwp h5 eh5
      have hex := hex.tr nxh5.1
      have hnn := nxh5.2.1.trans hnn
      have hzz := nxh5.2.2.trans hzz
      have okl0 := okl0.ex nxh5.1
      refine x_aload_n (pc := 40) dX12_readNumber_40 rfl ?_
      refine x_invV (As := []) (st := []) (pc := 41) dX12_readNumber_41 lRX12_146 fX12_go vX12_go okl0 rfl (Nat.le_of_ble_eq_true rfl) (q_R (by omega) (by decide)) (q_C hnn hzz (by decide) (by decide)) (sn_X12_go G (d + 0) l0 h5 _ okl0 hwp) (k_v (fun h6 hwp cxh6 => ?_))
      have hex := hex.tr cxh6.1
      have hnn : qn h6 = qn h + 0 := by have := cxh6.2.1; omega
      have hzz : qz h6 = qz h + 0 := by have := cxh6.2.2; omega
      have okl0 := okl0.ex cxh6.1
      refine x_iconst (v := 1) (pc := 44) dX12_readNumber_44 (by decide) ?_
      exact x_zret (pc := 45) dX12_readNumber_45 rfl hex hnn hzz (by decide) ⟨_, rfl, by decide, hwp⟩
    · have hwp := hwp.2 c4
      refine x_aload_n (pc := 26) dX12_readNumber_26 rfl ?_
      refine x_iconst (v := 2) (pc := 27) dX12_readNumber_27 (by decide) ?_
      refine x_invV (As := [.int 2]) (st := []) (pc := 28) dX12_readNumber_28 lRX12_136 fX12_bad vX12_bad okl0 rfl (Nat.le_of_ble_eq_true rfl) (q_R (by omega) (by decide)) (q_C hnn hzz (by decide) (by decide)) (sn_X12_bad G (d + 1) l0 2 h2 _ okl0 hwp) (k_b (fun r9 h8 hwp zbr9 cxh8 => ?_))
      have hex := hex.tr cxh8.1
      have hnn : qn h8 = qn h + 0 := by have := cxh8.2.1; omega
      have hzz : qz h8 = qz h + 0 := by have := cxh8.2.2; omega
      have okl0 := okl0.ex cxh8.1
      exact x_zret (pc := 31) dX12_readNumber_31 rfl hex hnn hzz hwp.1 ⟨_, rfl, hwp.1, hwp.2⟩
  · have hwp := hwp.2 c1
    refine x_aload_n (pc := 8) dX12_readNumber_8 rfl ?_
    refine x_iconst (v := 1) (pc := 9) dX12_readNumber_9 (by decide) ?_
    refine x_invV (As := [.int 1]) (st := []) (pc := 10) dX12_readNumber_10 lRX12_136 fX12_bad vX12_bad okl0 rfl (Nat.le_of_ble_eq_true rfl) (q_R (by omega) (by decide)) (q_C hnn hzz (by decide) (by decide)) (sn_X12_bad G (d + 1) l0 1 h _ okl0 hwp) (k_b (fun r12 h11 hwp zbr12 cxh11 => ?_))
    have hex := hex.tr cxh11.1
    have hnn : qn h11 = qn h + 0 := by have := cxh11.2.1; omega
    have hzz : qz h11 = qz h + 0 := by have := cxh11.2.2; omega
    have okl0 := okl0.ex cxh11.1
    exact x_zret (pc := 13) dX12_readNumber_13 rfl hex hnn hzz hwp.1 ⟨_, rfl, hwp.1, hwp.2⟩

theorem dX12_readKey_0 : decode cX12_readKey 0 = .ok (.aload_n 0, 1) := by decide +kernel
theorem dX12_readKey_1 : decode cX12_readKey 1 = .ok (.lload_n 1, 1) := by decide +kernel
theorem dX12_readKey_2 : decode cX12_readKey 2 = .ok (.invokevirtual 149, 3) := by decide +kernel
theorem dX12_readKey_5 : decode cX12_readKey 5 = .ok (.ifCond .ne 9, 3) := by decide +kernel
theorem dX12_readKey_8 : decode cX12_readKey 8 = .ok (.aload_n 0, 1) := by decide +kernel
theorem dX12_readKey_9 : decode cX12_readKey 9 = .ok (.iconst 1, 1) := by decide +kernel
theorem dX12_readKey_10 : decode cX12_readKey 10 = .ok (.invokevirtual 136, 3) := by decide +kernel
theorem dX12_readKey_13 : decode cX12_readKey 13 = .ok (.ireturn, 1) := by decide +kernel
theorem dX12_readKey_14 : decode cX12_readKey 14 = .ok (.aload_n 0, 1) := by decide +kernel
theorem dX12_readKey_15 : decode cX12_readKey 15 = .ok (.invokevirtual 146, 3) := by decide +kernel
theorem dX12_readKey_18 : decode cX12_readKey 18 = .ok (.iconst 1, 1) := by decide +kernel
theorem dX12_readKey_19 : decode cX12_readKey 19 = .ok (.ireturn, 1) := by decide +kernel
def wp_X12_readKey (l0 : Nat) (l1 : Int64) (h : PH) (Q : Int32 → PH → Prop) : Prop := (wp_X12_isKey l0 l1 h (fun r2 h1 => ((¬ r2 = 0 → (wp_X12_go l0 h1 (fun h4 => Q 1 h4))) ∧ (r2 = 0 → (wp_X12_bad l0 1 h1 (fun r7 h6 => ((r7 = 0 ∨ r7 = 1) ∧ Q r7 h6)))))))
set_option maxHeartbeats 4000000 in
set_option maxRecDepth 100000 in
theorem sn_X12_readKey (G : GT) (d : Nat) (l0 : Nat) (l1 : Int64) (h : PH) (Q : Int32 → PH → Prop) (okl0 : qOK h 11 l0) (hwp : wp_X12_readKey l0 l1 h Q) : Mt G (2 + d) 0 0 mX12_readKey [.ref l0, .long l1] h (qqb Q) := by
  unfold wp_X12_readKey at hwp
  refine Mt.of (by decide) rfl (Nat.le_of_ble_eq_true rfl) ?_
  have hex := qEx.rf h
  have hnn : qn h = qn h + 0 := rfl
  have hzz : qz h = qz h + 0 := rfl
  refine x_lvE (lv2 := [(0, .ref l0), (1, .long l1)]) rfl ?_
  refine x_aload_n (pc := 0) dX12_readKey_0 rfl ?_
  refine x_lload_n (pc := 1) dX12_readKey_1 rfl ?_
  refine x_invV (As := [.long l1]) (st := []) (pc := 2) dX12_readKey_2 lRX12_149 fX12_isKey vX12_isKey okl0 rfl (Nat.le_of_ble_eq_true rfl) (q_R (by omega) (by decide)) (q_C hnn hzz (by decide) (by decide)) (sn_X12_isKey G (d + 1) l0 l1 h _ okl0 hwp) (k_b (fun r2 h1 hwp zbr2 cxh1 => ?_))
  have hex := hex.tr cxh1.1
  have hnn : qn h1 = qn h + 0 := by have := cxh1.2.1; omega
  have hzz : qz h1 = qz h + 0 := by have := cxh1.2.2; omega
  have okl0 := okl0.ex cxh1.1
  refine x_if_ne (tgt := 14) (pc := 5) dX12_readKey_5 (by decide) (fun c3 => ?_) (fun c3 => ?_)
  · have hwp := hwp.1 c3
    refine x_aload_n (pc := 14) dX12_readKey_14 rfl ?_
    refine x_invV (As := []) (st := []) (pc := 15) dX12_readKey_15 lRX12_146 fX12_go vX12_go okl0 rfl (Nat.le_of_ble_eq_true rfl) (q_R (by omega) (by decide)) (q_C hnn hzz (by decide) (by decide)) (sn_X12_go G (d + 0) l0 h1 _ okl0 hwp) (k_v (fun h4 hwp cxh4 => ?_))
    have hex := hex.tr cxh4.1
    have hnn : qn h4 = qn h + 0 := by have := cxh4.2.1; omega
    have hzz : qz h4 = qz h + 0 := by have := cxh4.2.2; omega
    have okl0 := okl0.ex cxh4.1
    refine x_iconst (v := 1) (pc := 18) dX12_readKey_18 (by decide) ?_
    exact x_zret (pc := 19) dX12_readKey_19 rfl hex hnn hzz (by decide) ⟨_, rfl, by decide, hwp⟩
  · have hwp := hwp.2 c3
    refine x_aload_n (pc := 8) dX12_readKey_8 rfl ?_
    refine x_iconst (v := 1) (pc := 9) dX12_readKey_9 (by decide) ?_
    refine x_invV (As := [.int 1]) (st := []) (pc := 10) dX12_readKey_10 lRX12_136 fX12_bad vX12_bad okl0 rfl (Nat.le_of_ble_eq_true rfl) (q_R (by omega) (by decide)) (q_C hnn hzz (by decide) (by decide)) (sn_X12_bad G (d + 1) l0 1 h1 _ okl0 hwp) (k_b (fun r7 h6 hwp zbr7 cxh6 => ?_))
    have hex := hex.tr cxh6.1
    have hnn : qn h6 = qn h + 0 := by have := cxh6.2.1; omega
    have hzz : qz h6 = qz h + 0 := by have := cxh6.2.2; omega
    have okl0 := okl0.ex cxh6.1
    exact x_zret (pc := 13) dX12_readKey_13 rfl hex hnn hzz hwp.1 ⟨_, rfl, hwp.1, hwp.2⟩

theorem dX12_readEnd_0 : decode cX12_readEnd 0 = .ok (.aload_n 0, 1) := by decide +kernel
theorem dX12_readEnd_1 : decode cX12_readEnd 1 = .ok (.bipush 59, 2) := by decide +kernel
theorem dX12_readEnd_3 : decode cX12_readEnd 3 = .ok (.invokevirtual 153, 3) := by decide +kernel
theorem dX12_readEnd_6 : decode cX12_readEnd 6 = .ok (.ifCond .ne 9, 3) := by decide +kernel
theorem dX12_readEnd_9 : decode cX12_readEnd 9 = .ok (.aload_n 0, 1) := by decide +kernel
theorem dX12_readEnd_10 : decode cX12_readEnd 10 = .ok (.iconst 1, 1) := by decide +kernel
theorem dX12_readEnd_11 : decode cX12_readEnd 11 = .ok (.invokevirtual 136, 3) := by decide +kernel
theorem dX12_readEnd_14 : decode cX12_readEnd 14 = .ok (.ireturn, 1) := by decide +kernel
theorem dX12_readEnd_15 : decode cX12_readEnd 15 = .ok (.aload_n 0, 1) := by decide +kernel
theorem dX12_readEnd_16 : decode cX12_readEnd 16 = .ok (.invokevirtual 146, 3) := by decide +kernel
theorem dX12_readEnd_19 : decode cX12_readEnd 19 = .ok (.iconst 1, 1) := by decide +kernel
theorem dX12_readEnd_20 : decode cX12_readEnd 20 = .ok (.ireturn, 1) := by decide +kernel
def wp_X12_readEnd (l0 : Nat) (h : PH) (Q : Int32 → PH → Prop) : Prop := (wp_X12_isSign l0 59 h (fun r2 h1 => ((¬ r2 = 0 → (wp_X12_go l0 h1 (fun h4 => Q 1 h4))) ∧ (r2 = 0 → (wp_X12_bad l0 1 h1 (fun r7 h6 => ((r7 = 0 ∨ r7 = 1) ∧ Q r7 h6)))))))
set_option maxHeartbeats 4000000 in
set_option maxRecDepth 100000 in
theorem sn_X12_readEnd (G : GT) (d : Nat) (l0 : Nat) (h : PH) (Q : Int32 → PH → Prop) (okl0 : qOK h 11 l0) (hwp : wp_X12_readEnd l0 h Q) : Mt G (2 + d) 0 0 mX12_readEnd [.ref l0] h (qqb Q) := by
  unfold wp_X12_readEnd at hwp
  refine Mt.of (by decide) rfl (Nat.le_of_ble_eq_true rfl) ?_
  have hex := qEx.rf h
  have hnn : qn h = qn h + 0 := rfl
  have hzz : qz h = qz h + 0 := rfl
  refine x_lvE (lv2 := [(0, .ref l0)]) rfl ?_
  refine x_aload_n (pc := 0) dX12_readEnd_0 rfl ?_
  refine x_bipush (v := 59) (pc := 1) dX12_readEnd_1 (by decide) ?_
  refine x_invV (As := [.int 59]) (st := []) (pc := 3) dX12_readEnd_3 lRX12_153 fX12_isSign vX12_isSign okl0 rfl (Nat.le_of_ble_eq_true rfl) (q_R (by omega) (by decide)) (q_C hnn hzz (by decide) (by decide)) (sn_X12_isSign G (d + 1) l0 59 h _ okl0 hwp) (k_b (fun r2 h1 hwp zbr2 cxh1 => ?_))
  have hex := hex.tr cxh1.1
  have hnn : qn h1 = qn h + 0 := by have := cxh1.2.1; omega
  have hzz : qz h1 = qz h + 0 := by have := cxh1.2.2; omega
  have okl0 := okl0.ex cxh1.1
  refine x_if_ne (tgt := 15) (pc := 6) dX12_readEnd_6 (by decide) (fun c3 => ?_) (fun c3 => ?_)
  · have hwp := hwp.1 c3
    refine x_aload_n (pc := 15) dX12_readEnd_15 rfl ?_
    refine x_invV (As := []) (st := []) (pc := 16) dX12_readEnd_16 lRX12_146 fX12_go vX12_go okl0 rfl (Nat.le_of_ble_eq_true rfl) (q_R (by omega) (by decide)) (q_C hnn hzz (by decide) (by decide)) (sn_X12_go G (d + 0) l0 h1 _ okl0 hwp) (k_v (fun h4 hwp cxh4 => ?_))
    have hex := hex.tr cxh4.1
    have hnn : qn h4 = qn h + 0 := by have := cxh4.2.1; omega
    have hzz : qz h4 = qz h + 0 := by have := cxh4.2.2; omega
    have okl0 := okl0.ex cxh4.1
    refine x_iconst (v := 1) (pc := 19) dX12_readEnd_19 (by decide) ?_
    exact x_zret (pc := 20) dX12_readEnd_20 rfl hex hnn hzz (by decide) ⟨_, rfl, by decide, hwp⟩
  · have hwp := hwp.2 c3
    refine x_aload_n (pc := 9) dX12_readEnd_9 rfl ?_
    refine x_iconst (v := 1) (pc := 10) dX12_readEnd_10 (by decide) ?_
    refine x_invV (As := [.int 1]) (st := []) (pc := 11) dX12_readEnd_11 lRX12_136 fX12_bad vX12_bad okl0 rfl (Nat.le_of_ble_eq_true rfl) (q_R (by omega) (by decide)) (q_C hnn hzz (by decide) (by decide)) (sn_X12_bad G (d + 1) l0 1 h1 _ okl0 hwp) (k_b (fun r7 h6 hwp zbr7 cxh6 => ?_))
    have hex := hex.tr cxh6.1
    have hnn : qn h6 = qn h + 0 := by have := cxh6.2.1; omega
    have hzz : qz h6 = qz h + 0 := by have := cxh6.2.2; omega
    have okl0 := okl0.ex cxh6.1
    exact x_zret (pc := 14) dX12_readEnd_14 rfl hex hnn hzz hwp.1 ⟨_, rfl, hwp.1, hwp.2⟩

theorem dX12_readTo_0 : decode cX12_readTo 0 = .ok (.aload_n 0, 1) := by decide +kernel
theorem dX12_readTo_1 : decode cX12_readTo 1 = .ok (.bipush 116, 2) := by decide +kernel
theorem dX12_readTo_3 : decode cX12_readTo 3 = .ok (.bipush 111, 2) := by decide +kernel
theorem dX12_readTo_5 : decode cX12_readTo 5 = .ok (.iconst 0, 1) := by decide +kernel
theorem dX12_readTo_6 : decode cX12_readTo 6 = .ok (.iconst 0, 1) := by decide +kernel
theorem dX12_readTo_7 : decode cX12_readTo 7 = .ok (.iconst 0, 1) := by decide +kernel
theorem dX12_readTo_8 : decode cX12_readTo 8 = .ok (.invokestatic 126, 3) := by decide +kernel
theorem dX12_readTo_11 : decode cX12_readTo 11 = .ok (.invokevirtual 156, 3) := by decide +kernel
theorem dX12_readTo_14 : decode cX12_readTo 14 = .ok (.ireturn, 1) := by decide +kernel
def wp_X12_readTo (l0 : Nat) (h : PH) (Q : Int32 → PH → Prop) : Prop := (wp_X12_spelt 116 111 0 0 0 h (fun r2 h1 => (wp_X12_readKey l0 r2 h1 (fun r4 h3 => ((r4 = 0 ∨ r4 = 1) ∧ Q r4 h3)))))
set_option maxHeartbeats 4000000 in
set_option maxRecDepth 100000 in
theorem sn_X12_readTo (G : GT) (d : Nat) (l0 : Nat) (h : PH) (Q : Int32 → PH → Prop) (okl0 : qOK h 11 l0) (hwp : wp_X12_readTo l0 h Q) : Mt G (3 + d) 0 0 mX12_readTo [.ref l0] h (qqb Q) := by
  unfold wp_X12_readTo at hwp
  refine Mt.of (by decide) rfl (Nat.le_of_ble_eq_true rfl) ?_
  have hex := qEx.rf h
  have hnn : qn h = qn h + 0 := rfl
  have hzz : qz h = qz h + 0 := rfl
  refine x_lvE (lv2 := [(0, .ref l0)]) rfl ?_
  refine x_aload_n (pc := 0) dX12_readTo_0 rfl ?_
  refine x_bipush (v := 116) (pc := 1) dX12_readTo_1 (by decide) ?_
  refine x_bipush (v := 111) (pc := 3) dX12_readTo_3 (by decide) ?_
  refine x_iconst (v := 0) (pc := 5) dX12_readTo_5 (by decide) ?_
  refine x_iconst (v := 0) (pc := 6) dX12_readTo_6 (by decide) ?_
  refine x_iconst (v := 0) (pc := 7) dX12_readTo_7 (by decide) ?_
  refine x_invS (As := [.int 116, .int 111, .int 0, .int 0, .int 0]) (st := [.ref l0]) (pc := 8) dX12_readTo_8 lRX12_126 fX12_spelt sX12_spelt rfl (Nat.le_of_ble_eq_true rfl) (q_R (by omega) (by decide)) (q_C hnn hzz (by decide) (by decide)) (sn_X12_spelt G (d + 2) 116 111 0 0 0 h _  hwp) (k_j (fun r2 h1 hwp cxh1 => ?_))
  have hex := hex.tr cxh1.1
  have hnn : qn h1 = qn h + 0 := by have := cxh1.2.1; omega
  have hzz : qz h1 = qz h + 0 := by have := cxh1.2.2; omega
  have okl0 := okl0.ex cxh1.1
  refine x_invV (As := [.long r2]) (st := []) (pc := 11) dX12_readTo_11 lRX12_156 fX12_readKey vX12_readKey okl0 rfl (Nat.le_of_ble_eq_true rfl) (q_R (by omega) (by decide)) (q_C hnn hzz (by decide) (by decide)) (sn_X12_readKey G (d + 0) l0 r2 h1 _ okl0 hwp) (k_b (fun r4 h3 hwp zbr4 cxh3 => ?_))
  have hex := hex.tr cxh3.1
  have hnn : qn h3 = qn h + 0 := by have := cxh3.2.1; omega
  have hzz : qz h3 = qz h + 0 := by have := cxh3.2.2; omega
  have okl0 := okl0.ex cxh3.1
  exact x_zret (pc := 14) dX12_readTo_14 rfl hex hnn hzz hwp.1 ⟨_, rfl, hwp.1, hwp.2⟩

theorem dX12_readFrom_0 : decode cX12_readFrom 0 = .ok (.aload_n 0, 1) := by decide +kernel
theorem dX12_readFrom_1 : decode cX12_readFrom 1 = .ok (.bipush 102, 2) := by decide +kernel
theorem dX12_readFrom_3 : decode cX12_readFrom 3 = .ok (.bipush 114, 2) := by decide +kernel
theorem dX12_readFrom_5 : decode cX12_readFrom 5 = .ok (.bipush 111, 2) := by decide +kernel
theorem dX12_readFrom_7 : decode cX12_readFrom 7 = .ok (.bipush 109, 2) := by decide +kernel
theorem dX12_readFrom_9 : decode cX12_readFrom 9 = .ok (.iconst 0, 1) := by decide +kernel
theorem dX12_readFrom_10 : decode cX12_readFrom 10 = .ok (.invokestatic 126, 3) := by decide +kernel
theorem dX12_readFrom_13 : decode cX12_readFrom 13 = .ok (.invokevirtual 156, 3) := by decide +kernel
theorem dX12_readFrom_16 : decode cX12_readFrom 16 = .ok (.ireturn, 1) := by decide +kernel
def wp_X12_readFrom (l0 : Nat) (h : PH) (Q : Int32 → PH → Prop) : Prop := (wp_X12_spelt 102 114 111 109 0 h (fun r2 h1 => (wp_X12_readKey l0 r2 h1 (fun r4 h3 => ((r4 = 0 ∨ r4 = 1) ∧ Q r4 h3)))))
set_option maxHeartbeats 4000000 in
set_option maxRecDepth 100000 in
theorem sn_X12_readFrom (G : GT) (d : Nat) (l0 : Nat) (h : PH) (Q : Int32 → PH → Prop) (okl0 : qOK h 11 l0) (hwp : wp_X12_readFrom l0 h Q) : Mt G (3 + d) 0 0 mX12_readFrom [.ref l0] h (qqb Q) := by
  unfold wp_X12_readFrom at hwp
  refine Mt.of (by decide) rfl (Nat.le_of_ble_eq_true rfl) ?_
  have hex := qEx.rf h
  have hnn : qn h = qn h + 0 := rfl
  have hzz : qz h = qz h + 0 := rfl
  refine x_lvE (lv2 := [(0, .ref l0)]) rfl ?_
  refine x_aload_n (pc := 0) dX12_readFrom_0 rfl ?_
  refine x_bipush (v := 102) (pc := 1) dX12_readFrom_1 (by decide) ?_
  refine x_bipush (v := 114) (pc := 3) dX12_readFrom_3 (by decide) ?_
  refine x_bipush (v := 111) (pc := 5) dX12_readFrom_5 (by decide) ?_
  refine x_bipush (v := 109) (pc := 7) dX12_readFrom_7 (by decide) ?_
  refine x_iconst (v := 0) (pc := 9) dX12_readFrom_9 (by decide) ?_
  refine x_invS (As := [.int 102, .int 114, .int 111, .int 109, .int 0]) (st := [.ref l0]) (pc := 10) dX12_readFrom_10 lRX12_126 fX12_spelt sX12_spelt rfl (Nat.le_of_ble_eq_true rfl) (q_R (by omega) (by decide)) (q_C hnn hzz (by decide) (by decide)) (sn_X12_spelt G (d + 2) 102 114 111 109 0 h _  hwp) (k_j (fun r2 h1 hwp cxh1 => ?_))
  have hex := hex.tr cxh1.1
  have hnn : qn h1 = qn h + 0 := by have := cxh1.2.1; omega
  have hzz : qz h1 = qz h + 0 := by have := cxh1.2.2; omega
  have okl0 := okl0.ex cxh1.1
  refine x_invV (As := [.long r2]) (st := []) (pc := 13) dX12_readFrom_13 lRX12_156 fX12_readKey vX12_readKey okl0 rfl (Nat.le_of_ble_eq_true rfl) (q_R (by omega) (by decide)) (q_C hnn hzz (by decide) (by decide)) (sn_X12_readKey G (d + 0) l0 r2 h1 _ okl0 hwp) (k_b (fun r4 h3 hwp zbr4 cxh3 => ?_))
  have hex := hex.tr cxh3.1
  have hnn : qn h3 = qn h + 0 := by have := cxh3.2.1; omega
  have hzz : qz h3 = qz h + 0 := by have := cxh3.2.2; omega
  have okl0 := okl0.ex cxh3.1
  exact x_zret (pc := 16) dX12_readFrom_16 rfl hex hnn hzz hwp.1 ⟨_, rfl, hwp.1, hwp.2⟩

theorem dX12_isTurn_0 : decode cX12_isTurn 0 = .ok (.aload_n 0, 1) := by decide +kernel
theorem dX12_isTurn_1 : decode cX12_isTurn 1 = .ok (.bipush 116, 2) := by decide +kernel
theorem dX12_isTurn_3 : decode cX12_isTurn 3 = .ok (.bipush 117, 2) := by decide +kernel
theorem dX12_isTurn_5 : decode cX12_isTurn 5 = .ok (.bipush 114, 2) := by decide +kernel
theorem dX12_isTurn_7 : decode cX12_isTurn 7 = .ok (.bipush 110, 2) := by decide +kernel
theorem dX12_isTurn_9 : decode cX12_isTurn 9 = .ok (.iconst 0, 1) := by decide +kernel
theorem dX12_isTurn_10 : decode cX12_isTurn 10 = .ok (.invokestatic 126, 3) := by decide +kernel
theorem dX12_isTurn_13 : decode cX12_isTurn 13 = .ok (.invokevirtual 149, 3) := by decide +kernel
theorem dX12_isTurn_16 : decode cX12_isTurn 16 = .ok (.ireturn, 1) := by decide +kernel
def wp_X12_isTurn (l0 : Nat) (h : PH) (Q : Int32 → PH → Prop) : Prop := (wp_X12_spelt 116 117 114 110 0 h (fun r2 h1 => (wp_X12_isKey l0 r2 h1 (fun r4 h3 => ((r4 = 0 ∨ r4 = 1) ∧ Q r4 h3)))))
set_option maxHeartbeats 4000000 in
set_option maxRecDepth 100000 in
theorem sn_X12_isTurn (G : GT) (d : Nat) (l0 : Nat) (h : PH) (Q : Int32 → PH → Prop) (okl0 : qOK h 11 l0) (hwp : wp_X12_isTurn l0 h Q) : Mt G (1 + d) 0 0 mX12_isTurn [.ref l0] h (qqb Q) := by
  unfold wp_X12_isTurn at hwp
  refine Mt.of (by decide) rfl (Nat.le_of_ble_eq_true rfl) ?_
  have hex := qEx.rf h
  have hnn : qn h = qn h + 0 := rfl
  have hzz : qz h = qz h + 0 := rfl
  refine x_lvE (lv2 := [(0, .ref l0)]) rfl ?_
  refine x_aload_n (pc := 0) dX12_isTurn_0 rfl ?_
  refine x_bipush (v := 116) (pc := 1) dX12_isTurn_1 (by decide) ?_
  refine x_bipush (v := 117) (pc := 3) dX12_isTurn_3 (by decide) ?_
  refine x_bipush (v := 114) (pc := 5) dX12_isTurn_5 (by decide) ?_
  refine x_bipush (v := 110) (pc := 7) dX12_isTurn_7 (by decide) ?_
  refine x_iconst (v := 0) (pc := 9) dX12_isTurn_9 (by decide) ?_
  refine x_invS (As := [.int 116, .int 117, .int 114, .int 110, .int 0]) (st := [.ref l0]) (pc := 10) dX12_isTurn_10 lRX12_126 fX12_spelt sX12_spelt rfl (Nat.le_of_ble_eq_true rfl) (q_R (by omega) (by decide)) (q_C hnn hzz (by decide) (by decide)) (sn_X12_spelt G (d + 0) 116 117 114 110 0 h _  hwp) (k_j (fun r2 h1 hwp cxh1 => ?_))
  have hex := hex.tr cxh1.1
  have hnn : qn h1 = qn h + 0 := by have := cxh1.2.1; omega
  have hzz : qz h1 = qz h + 0 := by have := cxh1.2.2; omega
  have okl0 := okl0.ex cxh1.1
  refine x_invV (As := [.long r2]) (st := []) (pc := 13) dX12_isTurn_13 lRX12_149 fX12_isKey vX12_isKey okl0 rfl (Nat.le_of_ble_eq_true rfl) (q_R (by omega) (by decide)) (q_C hnn hzz (by decide) (by decide)) (sn_X12_isKey G (d + 0) l0 r2 h1 _ okl0 hwp) (k_b (fun r4 h3 hwp zbr4 cxh3 => ?_))
  have hex := hex.tr cxh3.1
  have hnn : qn h3 = qn h + 0 := by have := cxh3.2.1; omega
  have hzz : qz h3 = qz h + 0 := by have := cxh3.2.2; omega
  have okl0 := okl0.ex cxh3.1
  exact x_zret (pc := 16) dX12_isTurn_16 rfl hex hnn hzz hwp.1 ⟨_, rfl, hwp.1, hwp.2⟩

theorem dX12_isRub_0 : decode cX12_isRub 0 = .ok (.aload_n 0, 1) := by decide +kernel
theorem dX12_isRub_1 : decode cX12_isRub 1 = .ok (.bipush 114, 2) := by decide +kernel
theorem dX12_isRub_3 : decode cX12_isRub 3 = .ok (.bipush 117, 2) := by decide +kernel
theorem dX12_isRub_5 : decode cX12_isRub 5 = .ok (.bipush 98, 2) := by decide +kernel
theorem dX12_isRub_7 : decode cX12_isRub 7 = .ok (.iconst 0, 1) := by decide +kernel
theorem dX12_isRub_8 : decode cX12_isRub 8 = .ok (.iconst 0, 1) := by decide +kernel
theorem dX12_isRub_9 : decode cX12_isRub 9 = .ok (.invokestatic 126, 3) := by decide +kernel
theorem dX12_isRub_12 : decode cX12_isRub 12 = .ok (.invokevirtual 149, 3) := by decide +kernel
theorem dX12_isRub_15 : decode cX12_isRub 15 = .ok (.ireturn, 1) := by decide +kernel
def wp_X12_isRub (l0 : Nat) (h : PH) (Q : Int32 → PH → Prop) : Prop := (wp_X12_spelt 114 117 98 0 0 h (fun r2 h1 => (wp_X12_isKey l0 r2 h1 (fun r4 h3 => ((r4 = 0 ∨ r4 = 1) ∧ Q r4 h3)))))
set_option maxHeartbeats 4000000 in
set_option maxRecDepth 100000 in
theorem sn_X12_isRub (G : GT) (d : Nat) (l0 : Nat) (h : PH) (Q : Int32 → PH → Prop) (okl0 : qOK h 11 l0) (hwp : wp_X12_isRub l0 h Q) : Mt G (1 + d) 0 0 mX12_isRub [.ref l0] h (qqb Q) := by
  unfold wp_X12_isRub at hwp
  refine Mt.of (by decide) rfl (Nat.le_of_ble_eq_true rfl) ?_
  have hex := qEx.rf h
  have hnn : qn h = qn h + 0 := rfl
  have hzz : qz h = qz h + 0 := rfl
  refine x_lvE (lv2 := [(0, .ref l0)]) rfl ?_
  refine x_aload_n (pc := 0) dX12_isRub_0 rfl ?_
  refine x_bipush (v := 114) (pc := 1) dX12_isRub_1 (by decide) ?_
  refine x_bipush (v := 117) (pc := 3) dX12_isRub_3 (by decide) ?_
  refine x_bipush (v := 98) (pc := 5) dX12_isRub_5 (by decide) ?_
  refine x_iconst (v := 0) (pc := 7) dX12_isRub_7 (by decide) ?_
  refine x_iconst (v := 0) (pc := 8) dX12_isRub_8 (by decide) ?_
  refine x_invS (As := [.int 114, .int 117, .int 98, .int 0, .int 0]) (st := [.ref l0]) (pc := 9) dX12_isRub_9 lRX12_126 fX12_spelt sX12_spelt rfl (Nat.le_of_ble_eq_true rfl) (q_R (by omega) (by decide)) (q_C hnn hzz (by decide) (by decide)) (sn_X12_spelt G (d + 0) 114 117 98 0 0 h _  hwp) (k_j (fun r2 h1 hwp cxh1 => ?_))
  have hex := hex.tr cxh1.1
  have hnn : qn h1 = qn h + 0 := by have := cxh1.2.1; omega
  have hzz : qz h1 = qz h + 0 := by have := cxh1.2.2; omega
  have okl0 := okl0.ex cxh1.1
  refine x_invV (As := [.long r2]) (st := []) (pc := 12) dX12_isRub_12 lRX12_149 fX12_isKey vX12_isKey okl0 rfl (Nat.le_of_ble_eq_true rfl) (q_R (by omega) (by decide)) (q_C hnn hzz (by decide) (by decide)) (sn_X12_isKey G (d + 0) l0 r2 h1 _ okl0 hwp) (k_b (fun r4 h3 hwp zbr4 cxh3 => ?_))
  have hex := hex.tr cxh3.1
  have hnn : qn h3 = qn h + 0 := by have := cxh3.2.1; omega
  have hzz : qz h3 = qz h + 0 := by have := cxh3.2.2; omega
  have okl0 := okl0.ex cxh3.1
  exact x_zret (pc := 15) dX12_isRub_15 rfl hex hnn hzz hwp.1 ⟨_, rfl, hwp.1, hwp.2⟩

theorem dX12_isOut_0 : decode cX12_isOut 0 = .ok (.aload_n 0, 1) := by decide +kernel
theorem dX12_isOut_1 : decode cX12_isOut 1 = .ok (.bipush 111, 2) := by decide +kernel
theorem dX12_isOut_3 : decode cX12_isOut 3 = .ok (.bipush 117, 2) := by decide +kernel
theorem dX12_isOut_5 : decode cX12_isOut 5 = .ok (.bipush 116, 2) := by decide +kernel
theorem dX12_isOut_7 : decode cX12_isOut 7 = .ok (.iconst 0, 1) := by decide +kernel
theorem dX12_isOut_8 : decode cX12_isOut 8 = .ok (.iconst 0, 1) := by decide +kernel
theorem dX12_isOut_9 : decode cX12_isOut 9 = .ok (.invokestatic 126, 3) := by decide +kernel
theorem dX12_isOut_12 : decode cX12_isOut 12 = .ok (.invokevirtual 149, 3) := by decide +kernel
theorem dX12_isOut_15 : decode cX12_isOut 15 = .ok (.ireturn, 1) := by decide +kernel
def wp_X12_isOut (l0 : Nat) (h : PH) (Q : Int32 → PH → Prop) : Prop := (wp_X12_spelt 111 117 116 0 0 h (fun r2 h1 => (wp_X12_isKey l0 r2 h1 (fun r4 h3 => ((r4 = 0 ∨ r4 = 1) ∧ Q r4 h3)))))
set_option maxHeartbeats 4000000 in
set_option maxRecDepth 100000 in
theorem sn_X12_isOut (G : GT) (d : Nat) (l0 : Nat) (h : PH) (Q : Int32 → PH → Prop) (okl0 : qOK h 11 l0) (hwp : wp_X12_isOut l0 h Q) : Mt G (1 + d) 0 0 mX12_isOut [.ref l0] h (qqb Q) := by
  unfold wp_X12_isOut at hwp
  refine Mt.of (by decide) rfl (Nat.le_of_ble_eq_true rfl) ?_
  have hex := qEx.rf h
  have hnn : qn h = qn h + 0 := rfl
  have hzz : qz h = qz h + 0 := rfl
  refine x_lvE (lv2 := [(0, .ref l0)]) rfl ?_
  refine x_aload_n (pc := 0) dX12_isOut_0 rfl ?_
  refine x_bipush (v := 111) (pc := 1) dX12_isOut_1 (by decide) ?_
  refine x_bipush (v := 117) (pc := 3) dX12_isOut_3 (by decide) ?_
  refine x_bipush (v := 116) (pc := 5) dX12_isOut_5 (by decide) ?_
  refine x_iconst (v := 0) (pc := 7) dX12_isOut_7 (by decide) ?_
  refine x_iconst (v := 0) (pc := 8) dX12_isOut_8 (by decide) ?_
  refine x_invS (As := [.int 111, .int 117, .int 116, .int 0, .int 0]) (st := [.ref l0]) (pc := 9) dX12_isOut_9 lRX12_126 fX12_spelt sX12_spelt rfl (Nat.le_of_ble_eq_true rfl) (q_R (by omega) (by decide)) (q_C hnn hzz (by decide) (by decide)) (sn_X12_spelt G (d + 0) 111 117 116 0 0 h _  hwp) (k_j (fun r2 h1 hwp cxh1 => ?_))
  have hex := hex.tr cxh1.1
  have hnn : qn h1 = qn h + 0 := by have := cxh1.2.1; omega
  have hzz : qz h1 = qz h + 0 := by have := cxh1.2.2; omega
  have okl0 := okl0.ex cxh1.1
  refine x_invV (As := [.long r2]) (st := []) (pc := 12) dX12_isOut_12 lRX12_149 fX12_isKey vX12_isKey okl0 rfl (Nat.le_of_ble_eq_true rfl) (q_R (by omega) (by decide)) (q_C hnn hzz (by decide) (by decide)) (sn_X12_isKey G (d + 0) l0 r2 h1 _ okl0 hwp) (k_b (fun r4 h3 hwp zbr4 cxh3 => ?_))
  have hex := hex.tr cxh3.1
  have hnn : qn h3 = qn h + 0 := by have := cxh3.2.1; omega
  have hzz : qz h3 = qz h + 0 := by have := cxh3.2.2; omega
  have okl0 := okl0.ex cxh3.1
  exact x_zret (pc := 15) dX12_isOut_15 rfl hex hnn hzz hwp.1 ⟨_, rfl, hwp.1, hwp.2⟩

theorem dX12_isShut_0 : decode cX12_isShut 0 = .ok (.aload_n 0, 1) := by decide +kernel
theorem dX12_isShut_1 : decode cX12_isShut 1 = .ok (.bipush 115, 2) := by decide +kernel
theorem dX12_isShut_3 : decode cX12_isShut 3 = .ok (.bipush 104, 2) := by decide +kernel
theorem dX12_isShut_5 : decode cX12_isShut 5 = .ok (.bipush 117, 2) := by decide +kernel
theorem dX12_isShut_7 : decode cX12_isShut 7 = .ok (.bipush 116, 2) := by decide +kernel
theorem dX12_isShut_9 : decode cX12_isShut 9 = .ok (.iconst 0, 1) := by decide +kernel
theorem dX12_isShut_10 : decode cX12_isShut 10 = .ok (.invokestatic 126, 3) := by decide +kernel
theorem dX12_isShut_13 : decode cX12_isShut 13 = .ok (.invokevirtual 149, 3) := by decide +kernel
theorem dX12_isShut_16 : decode cX12_isShut 16 = .ok (.ireturn, 1) := by decide +kernel
def wp_X12_isShut (l0 : Nat) (h : PH) (Q : Int32 → PH → Prop) : Prop := (wp_X12_spelt 115 104 117 116 0 h (fun r2 h1 => (wp_X12_isKey l0 r2 h1 (fun r4 h3 => ((r4 = 0 ∨ r4 = 1) ∧ Q r4 h3)))))
set_option maxHeartbeats 4000000 in
set_option maxRecDepth 100000 in
theorem sn_X12_isShut (G : GT) (d : Nat) (l0 : Nat) (h : PH) (Q : Int32 → PH → Prop) (okl0 : qOK h 11 l0) (hwp : wp_X12_isShut l0 h Q) : Mt G (1 + d) 0 0 mX12_isShut [.ref l0] h (qqb Q) := by
  unfold wp_X12_isShut at hwp
  refine Mt.of (by decide) rfl (Nat.le_of_ble_eq_true rfl) ?_
  have hex := qEx.rf h
  have hnn : qn h = qn h + 0 := rfl
  have hzz : qz h = qz h + 0 := rfl
  refine x_lvE (lv2 := [(0, .ref l0)]) rfl ?_
  refine x_aload_n (pc := 0) dX12_isShut_0 rfl ?_
  refine x_bipush (v := 115) (pc := 1) dX12_isShut_1 (by decide) ?_
  refine x_bipush (v := 104) (pc := 3) dX12_isShut_3 (by decide) ?_
  refine x_bipush (v := 117) (pc := 5) dX12_isShut_5 (by decide) ?_
  refine x_bipush (v := 116) (pc := 7) dX12_isShut_7 (by decide) ?_
  refine x_iconst (v := 0) (pc := 9) dX12_isShut_9 (by decide) ?_
  refine x_invS (As := [.int 115, .int 104, .int 117, .int 116, .int 0]) (st := [.ref l0]) (pc := 10) dX12_isShut_10 lRX12_126 fX12_spelt sX12_spelt rfl (Nat.le_of_ble_eq_true rfl) (q_R (by omega) (by decide)) (q_C hnn hzz (by decide) (by decide)) (sn_X12_spelt G (d + 0) 115 104 117 116 0 h _  hwp) (k_j (fun r2 h1 hwp cxh1 => ?_))
  have hex := hex.tr cxh1.1
  have hnn : qn h1 = qn h + 0 := by have := cxh1.2.1; omega
  have hzz : qz h1 = qz h + 0 := by have := cxh1.2.2; omega
  have okl0 := okl0.ex cxh1.1
  refine x_invV (As := [.long r2]) (st := []) (pc := 13) dX12_isShut_13 lRX12_149 fX12_isKey vX12_isKey okl0 rfl (Nat.le_of_ble_eq_true rfl) (q_R (by omega) (by decide)) (q_C hnn hzz (by decide) (by decide)) (sn_X12_isKey G (d + 0) l0 r2 h1 _ okl0 hwp) (k_b (fun r4 h3 hwp zbr4 cxh3 => ?_))
  have hex := hex.tr cxh3.1
  have hnn : qn h3 = qn h + 0 := by have := cxh3.2.1; omega
  have hzz : qz h3 = qz h + 0 := by have := cxh3.2.2; omega
  have okl0 := okl0.ex cxh3.1
  exact x_zret (pc := 16) dX12_isShut_16 rfl hex hnn hzz hwp.1 ⟨_, rfl, hwp.1, hwp.2⟩

theorem dX12_arm_0 : decode cX12_arm 0 = .ok (.bipush 97, 2) := by decide +kernel
theorem dX12_arm_2 : decode cX12_arm 2 = .ok (.bipush 114, 2) := by decide +kernel
theorem dX12_arm_4 : decode cX12_arm 4 = .ok (.bipush 109, 2) := by decide +kernel
theorem dX12_arm_6 : decode cX12_arm 6 = .ok (.iconst 0, 1) := by decide +kernel
theorem dX12_arm_7 : decode cX12_arm 7 = .ok (.iconst 0, 1) := by decide +kernel
theorem dX12_arm_8 : decode cX12_arm 8 = .ok (.invokestatic 126, 3) := by decide +kernel
theorem dX12_arm_11 : decode cX12_arm 11 = .ok (.lreturn, 1) := by decide +kernel
def wp_X12_arm  (h : PH) (Q : Int64 → PH → Prop) : Prop := (wp_X12_spelt 97 114 109 0 0 h (fun r2 h1 => Q r2 h1))
set_option maxHeartbeats 4000000 in
set_option maxRecDepth 100000 in
theorem sn_X12_arm (G : GT) (d : Nat)  (h : PH) (Q : Int64 → PH → Prop)  (hwp : wp_X12_arm h Q) : Mt G (1 + d) 0 0 mX12_arm [] h (qqj Q) := by
  unfold wp_X12_arm at hwp
  refine Mt.of (by decide) rfl (Nat.le_of_ble_eq_true rfl) ?_
  have hex := qEx.rf h
  have hnn : qn h = qn h + 0 := rfl
  have hzz : qz h = qz h + 0 := rfl
  refine x_lvE (lv2 := []) rfl ?_
  refine x_bipush (v := 97) (pc := 0) dX12_arm_0 (by decide) ?_
  refine x_bipush (v := 114) (pc := 2) dX12_arm_2 (by decide) ?_
  refine x_bipush (v := 109) (pc := 4) dX12_arm_4 (by decide) ?_
  refine x_iconst (v := 0) (pc := 6) dX12_arm_6 (by decide) ?_
  refine x_iconst (v := 0) (pc := 7) dX12_arm_7 (by decide) ?_
  refine x_invS (As := [.int 97, .int 114, .int 109, .int 0, .int 0]) (st := []) (pc := 8) dX12_arm_8 lRX12_126 fX12_spelt sX12_spelt rfl (Nat.le_of_ble_eq_true rfl) (q_R (by omega) (by decide)) (q_C hnn hzz (by decide) (by decide)) (sn_X12_spelt G (d + 0) 97 114 109 0 0 h _  hwp) (k_j (fun r2 h1 hwp cxh1 => ?_))
  have hex := hex.tr cxh1.1
  have hnn : qn h1 = qn h + 0 := by have := cxh1.2.1; omega
  have hzz : qz h1 = qz h + 0 := by have := cxh1.2.2; omega
  exact x_lret (pc := 11) dX12_arm_11 rfl hex hnn hzz ⟨_, rfl, hwp⟩

theorem dX12_at_0 : decode cX12_at 0 = .ok (.bipush 97, 2) := by decide +kernel
theorem dX12_at_2 : decode cX12_at 2 = .ok (.bipush 116, 2) := by decide +kernel
theorem dX12_at_4 : decode cX12_at 4 = .ok (.iconst 0, 1) := by decide +kernel
theorem dX12_at_5 : decode cX12_at 5 = .ok (.iconst 0, 1) := by decide +kernel
theorem dX12_at_6 : decode cX12_at 6 = .ok (.iconst 0, 1) := by decide +kernel
theorem dX12_at_7 : decode cX12_at 7 = .ok (.invokestatic 126, 3) := by decide +kernel
theorem dX12_at_10 : decode cX12_at 10 = .ok (.lreturn, 1) := by decide +kernel
def wp_X12_at  (h : PH) (Q : Int64 → PH → Prop) : Prop := (wp_X12_spelt 97 116 0 0 0 h (fun r2 h1 => Q r2 h1))
set_option maxHeartbeats 4000000 in
set_option maxRecDepth 100000 in
theorem sn_X12_at (G : GT) (d : Nat)  (h : PH) (Q : Int64 → PH → Prop)  (hwp : wp_X12_at h Q) : Mt G (1 + d) 0 0 mX12_at [] h (qqj Q) := by
  unfold wp_X12_at at hwp
  refine Mt.of (by decide) rfl (Nat.le_of_ble_eq_true rfl) ?_
  have hex := qEx.rf h
  have hnn : qn h = qn h + 0 := rfl
  have hzz : qz h = qz h + 0 := rfl
  refine x_lvE (lv2 := []) rfl ?_
  refine x_bipush (v := 97) (pc := 0) dX12_at_0 (by decide) ?_
  refine x_bipush (v := 116) (pc := 2) dX12_at_2 (by decide) ?_
  refine x_iconst (v := 0) (pc := 4) dX12_at_4 (by decide) ?_
  refine x_iconst (v := 0) (pc := 5) dX12_at_5 (by decide) ?_
  refine x_iconst (v := 0) (pc := 6) dX12_at_6 (by decide) ?_
  refine x_invS (As := [.int 97, .int 116, .int 0, .int 0, .int 0]) (st := []) (pc := 7) dX12_at_7 lRX12_126 fX12_spelt sX12_spelt rfl (Nat.le_of_ble_eq_true rfl) (q_R (by omega) (by decide)) (q_C hnn hzz (by decide) (by decide)) (sn_X12_spelt G (d + 0) 97 116 0 0 0 h _  hwp) (k_j (fun r2 h1 hwp cxh1 => ?_))
  have hex := hex.tr cxh1.1
  have hnn : qn h1 = qn h + 0 := by have := cxh1.2.1; omega
  have hzz : qz h1 = qz h + 0 := by have := cxh1.2.2; omega
  exact x_lret (pc := 10) dX12_at_10 rfl hex hnn hzz ⟨_, rfl, hwp⟩

theorem dX12_fed_0 : decode cX12_fed 0 = .ok (.bipush 102, 2) := by decide +kernel
theorem dX12_fed_2 : decode cX12_fed 2 = .ok (.bipush 101, 2) := by decide +kernel
theorem dX12_fed_4 : decode cX12_fed 4 = .ok (.bipush 100, 2) := by decide +kernel
theorem dX12_fed_6 : decode cX12_fed 6 = .ok (.iconst 0, 1) := by decide +kernel
theorem dX12_fed_7 : decode cX12_fed 7 = .ok (.iconst 0, 1) := by decide +kernel
theorem dX12_fed_8 : decode cX12_fed 8 = .ok (.invokestatic 126, 3) := by decide +kernel
theorem dX12_fed_11 : decode cX12_fed 11 = .ok (.lreturn, 1) := by decide +kernel
def wp_X12_fed  (h : PH) (Q : Int64 → PH → Prop) : Prop := (wp_X12_spelt 102 101 100 0 0 h (fun r2 h1 => Q r2 h1))
set_option maxHeartbeats 4000000 in
set_option maxRecDepth 100000 in
theorem sn_X12_fed (G : GT) (d : Nat)  (h : PH) (Q : Int64 → PH → Prop)  (hwp : wp_X12_fed h Q) : Mt G (1 + d) 0 0 mX12_fed [] h (qqj Q) := by
  unfold wp_X12_fed at hwp
  refine Mt.of (by decide) rfl (Nat.le_of_ble_eq_true rfl) ?_
  have hex := qEx.rf h
  have hnn : qn h = qn h + 0 := rfl
  have hzz : qz h = qz h + 0 := rfl
  refine x_lvE (lv2 := []) rfl ?_
  refine x_bipush (v := 102) (pc := 0) dX12_fed_0 (by decide) ?_
  refine x_bipush (v := 101) (pc := 2) dX12_fed_2 (by decide) ?_
  refine x_bipush (v := 100) (pc := 4) dX12_fed_4 (by decide) ?_
  refine x_iconst (v := 0) (pc := 6) dX12_fed_6 (by decide) ?_
  refine x_iconst (v := 0) (pc := 7) dX12_fed_7 (by decide) ?_
  refine x_invS (As := [.int 102, .int 101, .int 100, .int 0, .int 0]) (st := []) (pc := 8) dX12_fed_8 lRX12_126 fX12_spelt sX12_spelt rfl (Nat.le_of_ble_eq_true rfl) (q_R (by omega) (by decide)) (q_C hnn hzz (by decide) (by decide)) (sn_X12_spelt G (d + 0) 102 101 100 0 0 h _  hwp) (k_j (fun r2 h1 hwp cxh1 => ?_))
  have hex := hex.tr cxh1.1
  have hnn : qn h1 = qn h + 0 := by have := cxh1.2.1; omega
  have hzz : qz h1 = qz h + 0 := by have := cxh1.2.2; omega
  exact x_lret (pc := 11) dX12_fed_11 rfl hex hnn hzz ⟨_, rfl, hwp⟩

theorem dX12_partAtHand_0 : decode cX12_partAtHand 0 = .ok (.aload_n 0, 1) := by decide +kernel
theorem dX12_partAtHand_1 : decode cX12_partAtHand 1 = .ok (.bipush 119, 2) := by decide +kernel
theorem dX12_partAtHand_3 : decode cX12_partAtHand 3 = .ok (.bipush 101, 2) := by decide +kernel
theorem dX12_partAtHand_5 : decode cX12_partAtHand 5 = .ok (.bipush 105, 2) := by decide +kernel
theorem dX12_partAtHand_7 : decode cX12_partAtHand 7 = .ok (.bipush 103, 2) := by decide +kernel
theorem dX12_partAtHand_9 : decode cX12_partAtHand 9 = .ok (.bipush 104, 2) := by decide +kernel
theorem dX12_partAtHand_11 : decode cX12_partAtHand 11 = .ok (.bipush 116, 2) := by decide +kernel
theorem dX12_partAtHand_13 : decode cX12_partAtHand 13 = .ok (.invokestatic 159, 3) := by decide +kernel
theorem dX12_partAtHand_16 : decode cX12_partAtHand 16 = .ok (.invokevirtual 149, 3) := by decide +kernel
theorem dX12_partAtHand_19 : decode cX12_partAtHand 19 = .ok (.ifCond .eq 5, 3) := by decide +kernel
theorem dX12_partAtHand_22 : decode cX12_partAtHand 22 = .ok (.iconst 0, 1) := by decide +kernel
theorem dX12_partAtHand_23 : decode cX12_partAtHand 23 = .ok (.ireturn, 1) := by decide +kernel
theorem dX12_partAtHand_24 : decode cX12_partAtHand 24 = .ok (.aload_n 0, 1) := by decide +kernel
theorem dX12_partAtHand_25 : decode cX12_partAtHand 25 = .ok (.bipush 102, 2) := by decide +kernel
theorem dX12_partAtHand_27 : decode cX12_partAtHand 27 = .ok (.bipush 108, 2) := by decide +kernel
theorem dX12_partAtHand_29 : decode cX12_partAtHand 29 = .ok (.bipush 111, 2) := by decide +kernel
theorem dX12_partAtHand_31 : decode cX12_partAtHand 31 = .ok (.bipush 97, 2) := by decide +kernel
theorem dX12_partAtHand_33 : decode cX12_partAtHand 33 = .ok (.bipush 116, 2) := by decide +kernel
theorem dX12_partAtHand_35 : decode cX12_partAtHand 35 = .ok (.invokestatic 126, 3) := by decide +kernel
theorem dX12_partAtHand_38 : decode cX12_partAtHand 38 = .ok (.invokevirtual 149, 3) := by decide +kernel
theorem dX12_partAtHand_41 : decode cX12_partAtHand 41 = .ok (.ifCond .eq 5, 3) := by decide +kernel
theorem dX12_partAtHand_44 : decode cX12_partAtHand 44 = .ok (.iconst 1, 1) := by decide +kernel
theorem dX12_partAtHand_45 : decode cX12_partAtHand 45 = .ok (.ireturn, 1) := by decide +kernel
theorem dX12_partAtHand_46 : decode cX12_partAtHand 46 = .ok (.aload_n 0, 1) := by decide +kernel
theorem dX12_partAtHand_47 : decode cX12_partAtHand 47 = .ok (.bipush 109, 2) := by decide +kernel
theorem dX12_partAtHand_49 : decode cX12_partAtHand 49 = .ok (.bipush 97, 2) := by decide +kernel
theorem dX12_partAtHand_51 : decode cX12_partAtHand 51 = .ok (.bipush 103, 2) := by decide +kernel
theorem dX12_partAtHand_53 : decode cX12_partAtHand 53 = .ok (.bipush 110, 2) := by decide +kernel
theorem dX12_partAtHand_55 : decode cX12_partAtHand 55 = .ok (.bipush 101, 2) := by decide +kernel
theorem dX12_partAtHand_57 : decode cX12_partAtHand 57 = .ok (.bipush 116, 2) := by decide +kernel
theorem dX12_partAtHand_59 : decode cX12_partAtHand 59 = .ok (.invokestatic 159, 3) := by decide +kernel
theorem dX12_partAtHand_62 : decode cX12_partAtHand 62 = .ok (.invokevirtual 149, 3) := by decide +kernel
theorem dX12_partAtHand_65 : decode cX12_partAtHand 65 = .ok (.ifCond .eq 5, 3) := by decide +kernel
theorem dX12_partAtHand_68 : decode cX12_partAtHand 68 = .ok (.iconst 2, 1) := by decide +kernel
theorem dX12_partAtHand_69 : decode cX12_partAtHand 69 = .ok (.ireturn, 1) := by decide +kernel
theorem dX12_partAtHand_70 : decode cX12_partAtHand 70 = .ok (.aload_n 0, 1) := by decide +kernel
theorem dX12_partAtHand_71 : decode cX12_partAtHand 71 = .ok (.bipush 115, 2) := by decide +kernel
theorem dX12_partAtHand_73 : decode cX12_partAtHand 73 = .ok (.bipush 112, 2) := by decide +kernel
theorem dX12_partAtHand_75 : decode cX12_partAtHand 75 = .ok (.bipush 114, 2) := by decide +kernel
theorem dX12_partAtHand_77 : decode cX12_partAtHand 77 = .ok (.bipush 105, 2) := by decide +kernel
theorem dX12_partAtHand_79 : decode cX12_partAtHand 79 = .ok (.bipush 110, 2) := by decide +kernel
theorem dX12_partAtHand_81 : decode cX12_partAtHand 81 = .ok (.bipush 103, 2) := by decide +kernel
theorem dX12_partAtHand_83 : decode cX12_partAtHand 83 = .ok (.invokestatic 159, 3) := by decide +kernel
theorem dX12_partAtHand_86 : decode cX12_partAtHand 86 = .ok (.invokevirtual 149, 3) := by decide +kernel
theorem dX12_partAtHand_89 : decode cX12_partAtHand 89 = .ok (.ifCond .eq 5, 3) := by decide +kernel
theorem dX12_partAtHand_92 : decode cX12_partAtHand 92 = .ok (.iconst 3, 1) := by decide +kernel
theorem dX12_partAtHand_93 : decode cX12_partAtHand 93 = .ok (.ireturn, 1) := by decide +kernel
theorem dX12_partAtHand_94 : decode cX12_partAtHand 94 = .ok (.aload_n 0, 1) := by decide +kernel
theorem dX12_partAtHand_95 : decode cX12_partAtHand 95 = .ok (.invokestatic 163, 3) := by decide +kernel
theorem dX12_partAtHand_98 : decode cX12_partAtHand 98 = .ok (.invokevirtual 149, 3) := by decide +kernel
theorem dX12_partAtHand_101 : decode cX12_partAtHand 101 = .ok (.ifCond .eq 7, 3) := by decide +kernel
theorem dX12_partAtHand_104 : decode cX12_partAtHand 104 = .ok (.iconst 4, 1) := by decide +kernel
theorem dX12_partAtHand_105 : decode cX12_partAtHand 105 = .ok (.goto 4, 3) := by decide +kernel
theorem dX12_partAtHand_108 : decode cX12_partAtHand 108 = .ok (.iconst (-1), 1) := by decide +kernel
theorem dX12_partAtHand_109 : decode cX12_partAtHand 109 = .ok (.ireturn, 1) := by decide +kernel
def wp_X12_partAtHand (l0 : Nat) (h : PH) (Q : Int32 → PH → Prop) : Prop := (wp_X12_six 119 101 105 103 104 116 h (fun r2 h1 => (wp_X12_isKey l0 r2 h1 (fun r4 h3 => ((r4 = 0 → (wp_X12_spelt 102 108 111 97 116 h3 (fun r7 h6 => (wp_X12_isKey l0 r7 h6 (fun r9 h8 => ((r9 = 0 → (wp_X12_six 109 97 103 110 101 116 h8 (fun r12 h11 => (wp_X12_isKey l0 r12 h11 (fun r14 h13 => ((r14 = 0 → (wp_X12_six 115 112 114 105 110 103 h13 (fun r17 h16 => (wp_X12_isKey l0 r17 h16 (fun r19 h18 => ((r19 = 0 → (wp_X12_fed h18 (fun r22 h21 => (wp_X12_isKey l0 r22 h21 (fun r24 h23 => ((r24 = 0 → Q (-1) h23) ∧ (¬ (r24 = 0) → Q 4 h23))))))) ∧ (¬ (r19 = 0) → Q 3 h18))))))) ∧ (¬ (r14 = 0) → Q 2 h13))))))) ∧ (¬ (r9 = 0) → Q 1 h8))))))) ∧ (¬ (r4 = 0) → Q 0 h3))))))
set_option maxHeartbeats 4000000 in
set_option maxRecDepth 100000 in
theorem sn_X12_partAtHand (G : GT) (d : Nat) (l0 : Nat) (h : PH) (Q : Int32 → PH → Prop) (okl0 : qOK h 11 l0) (hwp : wp_X12_partAtHand l0 h Q) : Mt G (2 + d) 0 0 mX12_partAtHand [.ref l0] h (qqi Q) := by
  unfold wp_X12_partAtHand at hwp
  refine Mt.of (by decide) rfl (Nat.le_of_ble_eq_true rfl) ?_
  have hex := qEx.rf h
  have hnn : qn h = qn h + 0 := rfl
  have hzz : qz h = qz h + 0 := rfl
  refine x_lvE (lv2 := [(0, .ref l0)]) rfl ?_
  refine x_aload_n (pc := 0) dX12_partAtHand_0 rfl ?_
  refine x_bipush (v := 119) (pc := 1) dX12_partAtHand_1 (by decide) ?_
  refine x_bipush (v := 101) (pc := 3) dX12_partAtHand_3 (by decide) ?_
  refine x_bipush (v := 105) (pc := 5) dX12_partAtHand_5 (by decide) ?_
  refine x_bipush (v := 103) (pc := 7) dX12_partAtHand_7 (by decide) ?_
  refine x_bipush (v := 104) (pc := 9) dX12_partAtHand_9 (by decide) ?_
  refine x_bipush (v := 116) (pc := 11) dX12_partAtHand_11 (by decide) ?_
  refine x_invS (As := [.int 119, .int 101, .int 105, .int 103, .int 104, .int 116]) (st := [.ref l0]) (pc := 13) dX12_partAtHand_13 lRX12_159 fX12_six sX12_six rfl (Nat.le_of_ble_eq_true rfl) (q_R (by omega) (by decide)) (q_C hnn hzz (by decide) (by decide)) (sn_X12_six G (d + 0) 119 101 105 103 104 116 h _  hwp) (k_j (fun r2 h1 hwp cxh1 => ?_))
  have hex := hex.tr cxh1.1
  have hnn : qn h1 = qn h + 0 := by have := cxh1.2.1; omega
  have hzz : qz h1 = qz h + 0 := by have := cxh1.2.2; omega
  have okl0 := okl0.ex cxh1.1
  refine x_invV (As := [.long r2]) (st := []) (pc := 16) dX12_partAtHand_16 lRX12_149 fX12_isKey vX12_isKey okl0 rfl (Nat.le_of_ble_eq_true rfl) (q_R (by omega) (by decide)) (q_C hnn hzz (by decide) (by decide)) (sn_X12_isKey G (d + 1) l0 r2 h1 _ okl0 hwp) (k_b (fun r4 h3 hwp zbr4 cxh3 => ?_))
  have hex := hex.tr cxh3.1
  have hnn : qn h3 = qn h + 0 := by have := cxh3.2.1; omega
  have hzz : qz h3 = qz h + 0 := by have := cxh3.2.2; omega
  have okl0 := okl0.ex cxh3.1
  refine x_if_eq (tgt := 24) (pc := 19) dX12_partAtHand_19 (by decide) (fun c5 => ?_) (fun c5 => ?_)
  · have hwp := hwp.1 c5
    refine x_aload_n (pc := 24) dX12_partAtHand_24 rfl ?_
    refine x_bipush (v := 102) (pc := 25) dX12_partAtHand_25 (by decide) ?_
    refine x_bipush (v := 108) (pc := 27) dX12_partAtHand_27 (by decide) ?_
    refine x_bipush (v := 111) (pc := 29) dX12_partAtHand_29 (by decide) ?_
    refine x_bipush (v := 97) (pc := 31) dX12_partAtHand_31 (by decide) ?_
    refine x_bipush (v := 116) (pc := 33) dX12_partAtHand_33 (by decide) ?_
    refine x_invS (As := [.int 102, .int 108, .int 111, .int 97, .int 116]) (st := [.ref l0]) (pc := 35) dX12_partAtHand_35 lRX12_126 fX12_spelt sX12_spelt rfl (Nat.le_of_ble_eq_true rfl) (q_R (by omega) (by decide)) (q_C hnn hzz (by decide) (by decide)) (sn_X12_spelt G (d + 1) 102 108 111 97 116 h3 _  hwp) (k_j (fun r7 h6 hwp cxh6 => ?_))
    have hex := hex.tr cxh6.1
    have hnn : qn h6 = qn h + 0 := by have := cxh6.2.1; omega
    have hzz : qz h6 = qz h + 0 := by have := cxh6.2.2; omega
    have okl0 := okl0.ex cxh6.1
    refine x_invV (As := [.long r7]) (st := []) (pc := 38) dX12_partAtHand_38 lRX12_149 fX12_isKey vX12_isKey okl0 rfl (Nat.le_of_ble_eq_true rfl) (q_R (by omega) (by decide)) (q_C hnn hzz (by decide) (by decide)) (sn_X12_isKey G (d + 1) l0 r7 h6 _ okl0 hwp) (k_b (fun r9 h8 hwp zbr9 cxh8 => ?_))
    have hex := hex.tr cxh8.1
    have hnn : qn h8 = qn h + 0 := by have := cxh8.2.1; omega
    have hzz : qz h8 = qz h + 0 := by have := cxh8.2.2; omega
    have okl0 := okl0.ex cxh8.1
    refine x_if_eq (tgt := 46) (pc := 41) dX12_partAtHand_41 (by decide) (fun c10 => ?_) (fun c10 => ?_)
    · have hwp := hwp.1 c10
      refine x_aload_n (pc := 46) dX12_partAtHand_46 rfl ?_
      refine x_bipush (v := 109) (pc := 47) dX12_partAtHand_47 (by decide) ?_
      refine x_bipush (v := 97) (pc := 49) dX12_partAtHand_49 (by decide) ?_
      refine x_bipush (v := 103) (pc := 51) dX12_partAtHand_51 (by decide) ?_
      refine x_bipush (v := 110) (pc := 53) dX12_partAtHand_53 (by decide) ?_
      refine x_bipush (v := 101) (pc := 55) dX12_partAtHand_55 (by decide) ?_
      refine x_bipush (v := 116) (pc := 57) dX12_partAtHand_57 (by decide) ?_
      refine x_invS (As := [.int 109, .int 97, .int 103, .int 110, .int 101, .int 116]) (st := [.ref l0]) (pc := 59) dX12_partAtHand_59 lRX12_159 fX12_six sX12_six rfl (Nat.le_of_ble_eq_true rfl) (q_R (by omega) (by decide)) (q_C hnn hzz (by decide) (by decide)) (sn_X12_six G (d + 0) 109 97 103 110 101 116 h8 _  hwp) (k_j (fun r12 h11 hwp cxh11 => ?_))
      have hex := hex.tr cxh11.1
      have hnn : qn h11 = qn h + 0 := by have := cxh11.2.1; omega
      have hzz : qz h11 = qz h + 0 := by have := cxh11.2.2; omega
      have okl0 := okl0.ex cxh11.1
      refine x_invV (As := [.long r12]) (st := []) (pc := 62) dX12_partAtHand_62 lRX12_149 fX12_isKey vX12_isKey okl0 rfl (Nat.le_of_ble_eq_true rfl) (q_R (by omega) (by decide)) (q_C hnn hzz (by decide) (by decide)) (sn_X12_isKey G (d + 1) l0 r12 h11 _ okl0 hwp) (k_b (fun r14 h13 hwp zbr14 cxh13 => ?_))
      have hex := hex.tr cxh13.1
      have hnn : qn h13 = qn h + 0 := by have := cxh13.2.1; omega
      have hzz : qz h13 = qz h + 0 := by have := cxh13.2.2; omega
      have okl0 := okl0.ex cxh13.1
      refine x_if_eq (tgt := 70) (pc := 65) dX12_partAtHand_65 (by decide) (fun c15 => ?_) (fun c15 => ?_)
      · have hwp := hwp.1 c15
        refine x_aload_n (pc := 70) dX12_partAtHand_70 rfl ?_
        refine x_bipush (v := 115) (pc := 71) dX12_partAtHand_71 (by decide) ?_
        refine x_bipush (v := 112) (pc := 73) dX12_partAtHand_73 (by decide) ?_
        refine x_bipush (v := 114) (pc := 75) dX12_partAtHand_75 (by decide) ?_
        refine x_bipush (v := 105) (pc := 77) dX12_partAtHand_77 (by decide) ?_
        refine x_bipush (v := 110) (pc := 79) dX12_partAtHand_79 (by decide) ?_
        refine x_bipush (v := 103) (pc := 81) dX12_partAtHand_81 (by decide) ?_
        refine x_invS (As := [.int 115, .int 112, .int 114, .int 105, .int 110, .int 103]) (st := [.ref l0]) (pc := 83) dX12_partAtHand_83 lRX12_159 fX12_six sX12_six rfl (Nat.le_of_ble_eq_true rfl) (q_R (by omega) (by decide)) (q_C hnn hzz (by decide) (by decide)) (sn_X12_six G (d + 0) 115 112 114 105 110 103 h13 _  hwp) (k_j (fun r17 h16 hwp cxh16 => ?_))
        have hex := hex.tr cxh16.1
        have hnn : qn h16 = qn h + 0 := by have := cxh16.2.1; omega
        have hzz : qz h16 = qz h + 0 := by have := cxh16.2.2; omega
        have okl0 := okl0.ex cxh16.1
        refine x_invV (As := [.long r17]) (st := []) (pc := 86) dX12_partAtHand_86 lRX12_149 fX12_isKey vX12_isKey okl0 rfl (Nat.le_of_ble_eq_true rfl) (q_R (by omega) (by decide)) (q_C hnn hzz (by decide) (by decide)) (sn_X12_isKey G (d + 1) l0 r17 h16 _ okl0 hwp) (k_b (fun r19 h18 hwp zbr19 cxh18 => ?_))
        have hex := hex.tr cxh18.1
        have hnn : qn h18 = qn h + 0 := by have := cxh18.2.1; omega
        have hzz : qz h18 = qz h + 0 := by have := cxh18.2.2; omega
        have okl0 := okl0.ex cxh18.1
        refine x_if_eq (tgt := 94) (pc := 89) dX12_partAtHand_89 (by decide) (fun c20 => ?_) (fun c20 => ?_)
        · have hwp := hwp.1 c20
          refine x_aload_n (pc := 94) dX12_partAtHand_94 rfl ?_
          refine x_invS (As := []) (st := [.ref l0]) (pc := 95) dX12_partAtHand_95 lRX12_163 fX12_fed sX12_fed rfl (Nat.le_of_ble_eq_true rfl) (q_R (by omega) (by decide)) (q_C hnn hzz (by decide) (by decide)) (sn_X12_fed G (d + 0) h18 _  hwp) (k_j (fun r22 h21 hwp cxh21 => ?_))
          have hex := hex.tr cxh21.1
          have hnn : qn h21 = qn h + 0 := by have := cxh21.2.1; omega
          have hzz : qz h21 = qz h + 0 := by have := cxh21.2.2; omega
          have okl0 := okl0.ex cxh21.1
          refine x_invV (As := [.long r22]) (st := []) (pc := 98) dX12_partAtHand_98 lRX12_149 fX12_isKey vX12_isKey okl0 rfl (Nat.le_of_ble_eq_true rfl) (q_R (by omega) (by decide)) (q_C hnn hzz (by decide) (by decide)) (sn_X12_isKey G (d + 1) l0 r22 h21 _ okl0 hwp) (k_b (fun r24 h23 hwp zbr24 cxh23 => ?_))
          have hex := hex.tr cxh23.1
          have hnn : qn h23 = qn h + 0 := by have := cxh23.2.1; omega
          have hzz : qz h23 = qz h + 0 := by have := cxh23.2.2; omega
          have okl0 := okl0.ex cxh23.1
          refine x_if_eq (tgt := 108) (pc := 101) dX12_partAtHand_101 (by decide) (fun c25 => ?_) (fun c25 => ?_)
          · have hwp := hwp.1 c25
            refine x_iconst (v := (-1)) (pc := 108) dX12_partAtHand_108 (by decide) ?_
            exact x_iret (pc := 109) dX12_partAtHand_109 rfl hex hnn hzz ⟨_, rfl, hwp⟩
          · have hwp := hwp.2 c25
            refine x_iconst (v := 4) (pc := 104) dX12_partAtHand_104 (by decide) ?_
            refine x_goto (tgt := 109) (pc := 105) dX12_partAtHand_105 (by decide) ?_
            exact x_iret (pc := 109) dX12_partAtHand_109 rfl hex hnn hzz ⟨_, rfl, hwp⟩
        · have hwp := hwp.2 c20
          refine x_iconst (v := 3) (pc := 92) dX12_partAtHand_92 (by decide) ?_
          exact x_iret (pc := 93) dX12_partAtHand_93 rfl hex hnn hzz ⟨_, rfl, hwp⟩
      · have hwp := hwp.2 c15
        refine x_iconst (v := 2) (pc := 68) dX12_partAtHand_68 (by decide) ?_
        exact x_iret (pc := 69) dX12_partAtHand_69 rfl hex hnn hzz ⟨_, rfl, hwp⟩
    · have hwp := hwp.2 c10
      refine x_iconst (v := 1) (pc := 44) dX12_partAtHand_44 (by decide) ?_
      exact x_iret (pc := 45) dX12_partAtHand_45 rfl hex hnn hzz ⟨_, rfl, hwp⟩
  · have hwp := hwp.2 c5
    refine x_iconst (v := 0) (pc := 22) dX12_partAtHand_22 (by decide) ?_
    exact x_iret (pc := 23) dX12_partAtHand_23 rfl hex hnn hzz ⟨_, rfl, hwp⟩

theorem dX12_isName_0 : decode cX12_isName 0 = .ok (.aload_n 0, 1) := by decide +kernel
theorem dX12_isName_1 : decode cX12_isName 1 = .ok (.getfield 98, 3) := by decide +kernel
theorem dX12_isName_4 : decode cX12_isName 4 = .ok (.iconst 2, 1) := by decide +kernel
theorem dX12_isName_5 : decode cX12_isName 5 = .ok (.if_icmp .ne 39, 3) := by decide +kernel
theorem dX12_isName_8 : decode cX12_isName 8 = .ok (.aload_n 0, 1) := by decide +kernel
theorem dX12_isName_9 : decode cX12_isName 9 = .ok (.invokevirtual 167, 3) := by decide +kernel
theorem dX12_isName_12 : decode cX12_isName 12 = .ok (.iconst (-1), 1) := by decide +kernel
theorem dX12_isName_13 : decode cX12_isName 13 = .ok (.if_icmp .ne 31, 3) := by decide +kernel
theorem dX12_isName_16 : decode cX12_isName 16 = .ok (.aload_n 0, 1) := by decide +kernel
theorem dX12_isName_17 : decode cX12_isName 17 = .ok (.invokevirtual 171, 3) := by decide +kernel
theorem dX12_isName_20 : decode cX12_isName 20 = .ok (.ifCond .ne 24, 3) := by decide +kernel
theorem dX12_isName_23 : decode cX12_isName 23 = .ok (.aload_n 0, 1) := by decide +kernel
theorem dX12_isName_24 : decode cX12_isName 24 = .ok (.invokevirtual 175, 3) := by decide +kernel
theorem dX12_isName_27 : decode cX12_isName 27 = .ok (.ifCond .ne 17, 3) := by decide +kernel
theorem dX12_isName_30 : decode cX12_isName 30 = .ok (.aload_n 0, 1) := by decide +kernel
theorem dX12_isName_31 : decode cX12_isName 31 = .ok (.invokevirtual 178, 3) := by decide +kernel
theorem dX12_isName_34 : decode cX12_isName 34 = .ok (.ifCond .ne 10, 3) := by decide +kernel
theorem dX12_isName_37 : decode cX12_isName 37 = .ok (.aload_n 0, 1) := by decide +kernel
theorem dX12_isName_38 : decode cX12_isName 38 = .ok (.invokevirtual 181, 3) := by decide +kernel
theorem dX12_isName_41 : decode cX12_isName 41 = .ok (.ifCond .eq 5, 3) := by decide +kernel
theorem dX12_isName_44 : decode cX12_isName 44 = .ok (.iconst 0, 1) := by decide +kernel
theorem dX12_isName_45 : decode cX12_isName 45 = .ok (.ireturn, 1) := by decide +kernel
theorem dX12_isName_46 : decode cX12_isName 46 = .ok (.aload_n 0, 1) := by decide +kernel
theorem dX12_isName_47 : decode cX12_isName 47 = .ok (.invokestatic 184, 3) := by decide +kernel
theorem dX12_isName_50 : decode cX12_isName 50 = .ok (.invokevirtual 149, 3) := by decide +kernel
theorem dX12_isName_53 : decode cX12_isName 53 = .ok (.ifCond .ne 53, 3) := by decide +kernel
theorem dX12_isName_56 : decode cX12_isName 56 = .ok (.aload_n 0, 1) := by decide +kernel
theorem dX12_isName_57 : decode cX12_isName 57 = .ok (.bipush 102, 2) := by decide +kernel
theorem dX12_isName_59 : decode cX12_isName 59 = .ok (.bipush 114, 2) := by decide +kernel
theorem dX12_isName_61 : decode cX12_isName 61 = .ok (.bipush 111, 2) := by decide +kernel
theorem dX12_isName_63 : decode cX12_isName 63 = .ok (.bipush 109, 2) := by decide +kernel
theorem dX12_isName_65 : decode cX12_isName 65 = .ok (.iconst 0, 1) := by decide +kernel
theorem dX12_isName_66 : decode cX12_isName 66 = .ok (.invokestatic 126, 3) := by decide +kernel
theorem dX12_isName_69 : decode cX12_isName 69 = .ok (.invokevirtual 149, 3) := by decide +kernel
theorem dX12_isName_72 : decode cX12_isName 72 = .ok (.ifCond .ne 34, 3) := by decide +kernel
theorem dX12_isName_75 : decode cX12_isName 75 = .ok (.aload_n 0, 1) := by decide +kernel
theorem dX12_isName_76 : decode cX12_isName 76 = .ok (.bipush 116, 2) := by decide +kernel
theorem dX12_isName_78 : decode cX12_isName 78 = .ok (.bipush 111, 2) := by decide +kernel
theorem dX12_isName_80 : decode cX12_isName 80 = .ok (.iconst 0, 1) := by decide +kernel
theorem dX12_isName_81 : decode cX12_isName 81 = .ok (.iconst 0, 1) := by decide +kernel
theorem dX12_isName_82 : decode cX12_isName 82 = .ok (.iconst 0, 1) := by decide +kernel
theorem dX12_isName_83 : decode cX12_isName 83 = .ok (.invokestatic 126, 3) := by decide +kernel
theorem dX12_isName_86 : decode cX12_isName 86 = .ok (.invokevirtual 149, 3) := by decide +kernel
theorem dX12_isName_89 : decode cX12_isName 89 = .ok (.ifCond .ne 17, 3) := by decide +kernel
theorem dX12_isName_92 : decode cX12_isName 92 = .ok (.aload_n 0, 1) := by decide +kernel
theorem dX12_isName_93 : decode cX12_isName 93 = .ok (.invokestatic 187, 3) := by decide +kernel
theorem dX12_isName_96 : decode cX12_isName 96 = .ok (.invokevirtual 149, 3) := by decide +kernel
theorem dX12_isName_99 : decode cX12_isName 99 = .ok (.ifCond .ne 7, 3) := by decide +kernel
theorem dX12_isName_102 : decode cX12_isName 102 = .ok (.iconst 1, 1) := by decide +kernel
theorem dX12_isName_103 : decode cX12_isName 103 = .ok (.goto 4, 3) := by decide +kernel
theorem dX12_isName_106 : decode cX12_isName 106 = .ok (.iconst 0, 1) := by decide +kernel
theorem dX12_isName_107 : decode cX12_isName 107 = .ok (.ireturn, 1) := by decide +kernel
def wp_X12_isName (l0 : Nat) (h : PH) (Q : Int32 → PH → Prop) : Prop := ((¬ (qI h l0 7) = 2 → Q 0 h) ∧ ((qI h l0 7) = 2 → (wp_X12_partAtHand l0 h (fun r3 h2 => ((¬ r3 = (-1) → Q 0 h2) ∧ (r3 = (-1) → (wp_X12_isTurn l0 h2 (fun r6 h5 => ((¬ r6 = 0 → Q 0 h5) ∧ (r6 = 0 → (wp_X12_isRub l0 h5 (fun r9 h8 => ((¬ r9 = 0 → Q 0 h8) ∧ (r9 = 0 → (wp_X12_isOut l0 h8 (fun r12 h11 => ((¬ r12 = 0 → Q 0 h11) ∧ (r12 = 0 → (wp_X12_isShut l0 h11 (fun r15 h14 => ((r15 = 0 → (wp_X12_arm h14 (fun r18 h17 => (wp_X12_isKey l0 r18 h17 (fun r20 h19 => ((¬ r20 = 0 → Q 0 h19) ∧ (r20 = 0 → (wp_X12_spelt 102 114 111 109 0 h19 (fun r23 h22 => (wp_X12_isKey l0 r23 h22 (fun r25 h24 => ((¬ r25 = 0 → Q 0 h24) ∧ (r25 = 0 → (wp_X12_spelt 116 111 0 0 0 h24 (fun r28 h27 => (wp_X12_isKey l0 r28 h27 (fun r30 h29 => ((¬ r30 = 0 → Q 0 h29) ∧ (r30 = 0 → (wp_X12_at h29 (fun r33 h32 => (wp_X12_isKey l0 r33 h32 (fun r35 h34 => ((¬ r35 = 0 → Q 0 h34) ∧ (r35 = 0 → Q 1 h34))))))))))))))))))))))))) ∧ (¬ (r15 = 0) → Q 0 h14))))))))))))))))))))))
set_option maxHeartbeats 4000000 in
set_option maxRecDepth 100000 in
theorem sn_X12_isName (G : GT) (d : Nat) (l0 : Nat) (h : PH) (Q : Int32 → PH → Prop) (okl0 : qOK h 11 l0) (hwp : wp_X12_isName l0 h Q) : Mt G (3 + d) 0 0 mX12_isName [.ref l0] h (qqb Q) := by
  unfold wp_X12_isName at hwp
  refine Mt.of (by decide) rfl (Nat.le_of_ble_eq_true rfl) ?_
  have hex := qEx.rf h
  have hnn : qn h = qn h + 0 := rfl
  have hzz : qz h = qz h + 0 := rfl
  refine x_lvE (lv2 := [(0, .ref l0)]) rfl ?_
  refine x_aload_n (pc := 0) dX12_isName_0 rfl ?_
  refine x_getI (pc := 1) dX12_isName_1 qRX12_98 okl0 (by decide) ?_
  refine x_iconst (v := 2) (pc := 4) dX12_isName_4 (by decide) ?_
  refine x_icmp_ne (tgt := 44) (pc := 5) dX12_isName_5 (by decide) (fun c1 => ?_) (fun c1 => ?_)
  · have hwp := hwp.1 c1
    refine x_iconst (v := 0) (pc := 44) dX12_isName_44 (by decide) ?_
    exact x_zret (pc := 45) dX12_isName_45 rfl hex hnn hzz (by decide) ⟨_, rfl, by decide, hwp⟩
  · have hwp := hwp.2 c1
    refine x_aload_n (pc := 8) dX12_isName_8 rfl ?_
    refine x_invV (As := []) (st := []) (pc := 9) dX12_isName_9 lRX12_167 fX12_partAtHand vX12_partAtHand okl0 rfl (Nat.le_of_ble_eq_true rfl) (q_R (by omega) (by decide)) (q_C hnn hzz (by decide) (by decide)) (sn_X12_partAtHand G (d + 0) l0 h _ okl0 hwp) (k_i (fun r3 h2 hwp cxh2 => ?_))
    have hex := hex.tr cxh2.1
    have hnn : qn h2 = qn h + 0 := by have := cxh2.2.1; omega
    have hzz : qz h2 = qz h + 0 := by have := cxh2.2.2; omega
    have okl0 := okl0.ex cxh2.1
    refine x_iconst (v := (-1)) (pc := 12) dX12_isName_12 (by decide) ?_
    refine x_icmp_ne (tgt := 44) (pc := 13) dX12_isName_13 (by decide) (fun c4 => ?_) (fun c4 => ?_)
    · have hwp := hwp.1 c4
      refine x_iconst (v := 0) (pc := 44) dX12_isName_44 (by decide) ?_
      exact x_zret (pc := 45) dX12_isName_45 rfl hex hnn hzz (by decide) ⟨_, rfl, by decide, hwp⟩
    · have hwp := hwp.2 c4
      refine x_aload_n (pc := 16) dX12_isName_16 rfl ?_
      refine x_invV (As := []) (st := []) (pc := 17) dX12_isName_17 lRX12_171 fX12_isTurn vX12_isTurn okl0 rfl (Nat.le_of_ble_eq_true rfl) (q_R (by omega) (by decide)) (q_C hnn hzz (by decide) (by decide)) (sn_X12_isTurn G (d + 1) l0 h2 _ okl0 hwp) (k_b (fun r6 h5 hwp zbr6 cxh5 => ?_))
      have hex := hex.tr cxh5.1
      have hnn : qn h5 = qn h + 0 := by have := cxh5.2.1; omega
      have hzz : qz h5 = qz h + 0 := by have := cxh5.2.2; omega
      have okl0 := okl0.ex cxh5.1
      refine x_if_ne (tgt := 44) (pc := 20) dX12_isName_20 (by decide) (fun c7 => ?_) (fun c7 => ?_)
      · have hwp := hwp.1 c7
        refine x_iconst (v := 0) (pc := 44) dX12_isName_44 (by decide) ?_
        exact x_zret (pc := 45) dX12_isName_45 rfl hex hnn hzz (by decide) ⟨_, rfl, by decide, hwp⟩
      · have hwp := hwp.2 c7
        refine x_aload_n (pc := 23) dX12_isName_23 rfl ?_
        refine x_invV (As := []) (st := []) (pc := 24) dX12_isName_24 lRX12_175 fX12_isRub vX12_isRub okl0 rfl (Nat.le_of_ble_eq_true rfl) (q_R (by omega) (by decide)) (q_C hnn hzz (by decide) (by decide)) (sn_X12_isRub G (d + 1) l0 h5 _ okl0 hwp) (k_b (fun r9 h8 hwp zbr9 cxh8 => ?_))
        have hex := hex.tr cxh8.1
        have hnn : qn h8 = qn h + 0 := by have := cxh8.2.1; omega
        have hzz : qz h8 = qz h + 0 := by have := cxh8.2.2; omega
        have okl0 := okl0.ex cxh8.1
        refine x_if_ne (tgt := 44) (pc := 27) dX12_isName_27 (by decide) (fun c10 => ?_) (fun c10 => ?_)
        · have hwp := hwp.1 c10
          refine x_iconst (v := 0) (pc := 44) dX12_isName_44 (by decide) ?_
          exact x_zret (pc := 45) dX12_isName_45 rfl hex hnn hzz (by decide) ⟨_, rfl, by decide, hwp⟩
        · have hwp := hwp.2 c10
          refine x_aload_n (pc := 30) dX12_isName_30 rfl ?_
          refine x_invV (As := []) (st := []) (pc := 31) dX12_isName_31 lRX12_178 fX12_isOut vX12_isOut okl0 rfl (Nat.le_of_ble_eq_true rfl) (q_R (by omega) (by decide)) (q_C hnn hzz (by decide) (by decide)) (sn_X12_isOut G (d + 1) l0 h8 _ okl0 hwp) (k_b (fun r12 h11 hwp zbr12 cxh11 => ?_))
          have hex := hex.tr cxh11.1
          have hnn : qn h11 = qn h + 0 := by have := cxh11.2.1; omega
          have hzz : qz h11 = qz h + 0 := by have := cxh11.2.2; omega
          have okl0 := okl0.ex cxh11.1
          refine x_if_ne (tgt := 44) (pc := 34) dX12_isName_34 (by decide) (fun c13 => ?_) (fun c13 => ?_)
          · have hwp := hwp.1 c13
            refine x_iconst (v := 0) (pc := 44) dX12_isName_44 (by decide) ?_
            exact x_zret (pc := 45) dX12_isName_45 rfl hex hnn hzz (by decide) ⟨_, rfl, by decide, hwp⟩
          · have hwp := hwp.2 c13
            refine x_aload_n (pc := 37) dX12_isName_37 rfl ?_
            refine x_invV (As := []) (st := []) (pc := 38) dX12_isName_38 lRX12_181 fX12_isShut vX12_isShut okl0 rfl (Nat.le_of_ble_eq_true rfl) (q_R (by omega) (by decide)) (q_C hnn hzz (by decide) (by decide)) (sn_X12_isShut G (d + 1) l0 h11 _ okl0 hwp) (k_b (fun r15 h14 hwp zbr15 cxh14 => ?_))
            have hex := hex.tr cxh14.1
            have hnn : qn h14 = qn h + 0 := by have := cxh14.2.1; omega
            have hzz : qz h14 = qz h + 0 := by have := cxh14.2.2; omega
            have okl0 := okl0.ex cxh14.1
            refine x_if_eq (tgt := 46) (pc := 41) dX12_isName_41 (by decide) (fun c16 => ?_) (fun c16 => ?_)
            · have hwp := hwp.1 c16
              refine x_aload_n (pc := 46) dX12_isName_46 rfl ?_
              refine x_invS (As := []) (st := [.ref l0]) (pc := 47) dX12_isName_47 lRX12_184 fX12_arm sX12_arm rfl (Nat.le_of_ble_eq_true rfl) (q_R (by omega) (by decide)) (q_C hnn hzz (by decide) (by decide)) (sn_X12_arm G (d + 1) h14 _  hwp) (k_j (fun r18 h17 hwp cxh17 => ?_))
              have hex := hex.tr cxh17.1
              have hnn : qn h17 = qn h + 0 := by have := cxh17.2.1; omega
              have hzz : qz h17 = qz h + 0 := by have := cxh17.2.2; omega
              have okl0 := okl0.ex cxh17.1
              refine x_invV (As := [.long r18]) (st := []) (pc := 50) dX12_isName_50 lRX12_149 fX12_isKey vX12_isKey okl0 rfl (Nat.le_of_ble_eq_true rfl) (q_R (by omega) (by decide)) (q_C hnn hzz (by decide) (by decide)) (sn_X12_isKey G (d + 2) l0 r18 h17 _ okl0 hwp) (k_b (fun r20 h19 hwp zbr20 cxh19 => ?_))
              have hex := hex.tr cxh19.1
              have hnn : qn h19 = qn h + 0 := by have := cxh19.2.1; omega
              have hzz : qz h19 = qz h + 0 := by have := cxh19.2.2; omega
              have okl0 := okl0.ex cxh19.1
              refine x_if_ne (tgt := 106) (pc := 53) dX12_isName_53 (by decide) (fun c21 => ?_) (fun c21 => ?_)
              · have hwp := hwp.1 c21
                refine x_iconst (v := 0) (pc := 106) dX12_isName_106 (by decide) ?_
                exact x_zret (pc := 107) dX12_isName_107 rfl hex hnn hzz (by decide) ⟨_, rfl, by decide, hwp⟩
              · have hwp := hwp.2 c21
                refine x_aload_n (pc := 56) dX12_isName_56 rfl ?_
                refine x_bipush (v := 102) (pc := 57) dX12_isName_57 (by decide) ?_
                refine x_bipush (v := 114) (pc := 59) dX12_isName_59 (by decide) ?_
                refine x_bipush (v := 111) (pc := 61) dX12_isName_61 (by decide) ?_
                refine x_bipush (v := 109) (pc := 63) dX12_isName_63 (by decide) ?_
                refine x_iconst (v := 0) (pc := 65) dX12_isName_65 (by decide) ?_
                refine x_invS (As := [.int 102, .int 114, .int 111, .int 109, .int 0]) (st := [.ref l0]) (pc := 66) dX12_isName_66 lRX12_126 fX12_spelt sX12_spelt rfl (Nat.le_of_ble_eq_true rfl) (q_R (by omega) (by decide)) (q_C hnn hzz (by decide) (by decide)) (sn_X12_spelt G (d + 2) 102 114 111 109 0 h19 _  hwp) (k_j (fun r23 h22 hwp cxh22 => ?_))
                have hex := hex.tr cxh22.1
                have hnn : qn h22 = qn h + 0 := by have := cxh22.2.1; omega
                have hzz : qz h22 = qz h + 0 := by have := cxh22.2.2; omega
                have okl0 := okl0.ex cxh22.1
                refine x_invV (As := [.long r23]) (st := []) (pc := 69) dX12_isName_69 lRX12_149 fX12_isKey vX12_isKey okl0 rfl (Nat.le_of_ble_eq_true rfl) (q_R (by omega) (by decide)) (q_C hnn hzz (by decide) (by decide)) (sn_X12_isKey G (d + 2) l0 r23 h22 _ okl0 hwp) (k_b (fun r25 h24 hwp zbr25 cxh24 => ?_))
                have hex := hex.tr cxh24.1
                have hnn : qn h24 = qn h + 0 := by have := cxh24.2.1; omega
                have hzz : qz h24 = qz h + 0 := by have := cxh24.2.2; omega
                have okl0 := okl0.ex cxh24.1
                refine x_if_ne (tgt := 106) (pc := 72) dX12_isName_72 (by decide) (fun c26 => ?_) (fun c26 => ?_)
                · have hwp := hwp.1 c26
                  refine x_iconst (v := 0) (pc := 106) dX12_isName_106 (by decide) ?_
                  exact x_zret (pc := 107) dX12_isName_107 rfl hex hnn hzz (by decide) ⟨_, rfl, by decide, hwp⟩
                · have hwp := hwp.2 c26
                  refine x_aload_n (pc := 75) dX12_isName_75 rfl ?_
                  refine x_bipush (v := 116) (pc := 76) dX12_isName_76 (by decide) ?_
                  refine x_bipush (v := 111) (pc := 78) dX12_isName_78 (by decide) ?_
                  refine x_iconst (v := 0) (pc := 80) dX12_isName_80 (by decide) ?_
                  refine x_iconst (v := 0) (pc := 81) dX12_isName_81 (by decide) ?_
                  refine x_iconst (v := 0) (pc := 82) dX12_isName_82 (by decide) ?_
                  refine x_invS (As := [.int 116, .int 111, .int 0, .int 0, .int 0]) (st := [.ref l0]) (pc := 83) dX12_isName_83 lRX12_126 fX12_spelt sX12_spelt rfl (Nat.le_of_ble_eq_true rfl) (q_R (by omega) (by decide)) (q_C hnn hzz (by decide) (by decide)) (sn_X12_spelt G (d + 2) 116 111 0 0 0 h24 _  hwp) (k_j (fun r28 h27 hwp cxh27 => ?_))
                  have hex := hex.tr cxh27.1
                  have hnn : qn h27 = qn h + 0 := by have := cxh27.2.1; omega
                  have hzz : qz h27 = qz h + 0 := by have := cxh27.2.2; omega
                  have okl0 := okl0.ex cxh27.1
                  refine x_invV (As := [.long r28]) (st := []) (pc := 86) dX12_isName_86 lRX12_149 fX12_isKey vX12_isKey okl0 rfl (Nat.le_of_ble_eq_true rfl) (q_R (by omega) (by decide)) (q_C hnn hzz (by decide) (by decide)) (sn_X12_isKey G (d + 2) l0 r28 h27 _ okl0 hwp) (k_b (fun r30 h29 hwp zbr30 cxh29 => ?_))
                  have hex := hex.tr cxh29.1
                  have hnn : qn h29 = qn h + 0 := by have := cxh29.2.1; omega
                  have hzz : qz h29 = qz h + 0 := by have := cxh29.2.2; omega
                  have okl0 := okl0.ex cxh29.1
                  refine x_if_ne (tgt := 106) (pc := 89) dX12_isName_89 (by decide) (fun c31 => ?_) (fun c31 => ?_)
                  · have hwp := hwp.1 c31
                    refine x_iconst (v := 0) (pc := 106) dX12_isName_106 (by decide) ?_
                    exact x_zret (pc := 107) dX12_isName_107 rfl hex hnn hzz (by decide) ⟨_, rfl, by decide, hwp⟩
                  · have hwp := hwp.2 c31
                    refine x_aload_n (pc := 92) dX12_isName_92 rfl ?_
                    refine x_invS (As := []) (st := [.ref l0]) (pc := 93) dX12_isName_93 lRX12_187 fX12_at sX12_at rfl (Nat.le_of_ble_eq_true rfl) (q_R (by omega) (by decide)) (q_C hnn hzz (by decide) (by decide)) (sn_X12_at G (d + 1) h29 _  hwp) (k_j (fun r33 h32 hwp cxh32 => ?_))
                    have hex := hex.tr cxh32.1
                    have hnn : qn h32 = qn h + 0 := by have := cxh32.2.1; omega
                    have hzz : qz h32 = qz h + 0 := by have := cxh32.2.2; omega
                    have okl0 := okl0.ex cxh32.1
                    refine x_invV (As := [.long r33]) (st := []) (pc := 96) dX12_isName_96 lRX12_149 fX12_isKey vX12_isKey okl0 rfl (Nat.le_of_ble_eq_true rfl) (q_R (by omega) (by decide)) (q_C hnn hzz (by decide) (by decide)) (sn_X12_isKey G (d + 2) l0 r33 h32 _ okl0 hwp) (k_b (fun r35 h34 hwp zbr35 cxh34 => ?_))
                    have hex := hex.tr cxh34.1
                    have hnn : qn h34 = qn h + 0 := by have := cxh34.2.1; omega
                    have hzz : qz h34 = qz h + 0 := by have := cxh34.2.2; omega
                    have okl0 := okl0.ex cxh34.1
                    refine x_if_ne (tgt := 106) (pc := 99) dX12_isName_99 (by decide) (fun c36 => ?_) (fun c36 => ?_)
                    · have hwp := hwp.1 c36
                      refine x_iconst (v := 0) (pc := 106) dX12_isName_106 (by decide) ?_
                      exact x_zret (pc := 107) dX12_isName_107 rfl hex hnn hzz (by decide) ⟨_, rfl, by decide, hwp⟩
                    · have hwp := hwp.2 c36
                      refine x_iconst (v := 1) (pc := 102) dX12_isName_102 (by decide) ?_
                      refine x_goto (tgt := 107) (pc := 103) dX12_isName_103 (by decide) ?_
                      exact x_zret (pc := 107) dX12_isName_107 rfl hex hnn hzz (by decide) ⟨_, rfl, by decide, hwp⟩
            · have hwp := hwp.2 c16
              refine x_iconst (v := 0) (pc := 44) dX12_isName_44 (by decide) ?_
              exact x_zret (pc := 45) dX12_isName_45 rfl hex hnn hzz (by decide) ⟨_, rfl, by decide, hwp⟩

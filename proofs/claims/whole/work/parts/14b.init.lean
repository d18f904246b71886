theorem dX1_init_0 : decode cX1_init 0 = .ok (.aload_n 0, 1) := by decide +kernel
theorem dX1_init_1 : decode cX1_init 1 = .ok (.invokespecial 3, 3) := by decide +kernel
theorem dX1_init_4 : decode cX1_init 4 = .ok (.aload_n 0, 1) := by decide +kernel
theorem dX1_init_5 : decode cX1_init 5 = .ok (.bipush 12, 2) := by decide +kernel
theorem dX1_init_7 : decode cX1_init 7 = .ok (.anewarray 9, 3) := by decide +kernel
theorem dX1_init_10 : decode cX1_init 10 = .ok (.putfield 11, 3) := by decide +kernel
theorem dX1_init_13 : decode cX1_init 13 = .ok (.aload_n 0, 1) := by decide +kernel
theorem dX1_init_14 : decode cX1_init 14 = .ok (.iconst 0, 1) := by decide +kernel
theorem dX1_init_15 : decode cX1_init 15 = .ok (.putfield 17, 3) := by decide +kernel
theorem dX1_init_18 : decode cX1_init 18 = .ok (.aload_n 0, 1) := by decide +kernel
theorem dX1_init_19 : decode cX1_init 19 = .ok (.bipush 24, 2) := by decide +kernel
theorem dX1_init_21 : decode cX1_init 21 = .ok (.putfield 21, 3) := by decide +kernel
theorem dX1_init_24 : decode cX1_init 24 = .ok (.aload_n 0, 1) := by decide +kernel
theorem dX1_init_25 : decode cX1_init 25 = .ok (.iconst 0, 1) := by decide +kernel
theorem dX1_init_26 : decode cX1_init 26 = .ok (.putfield 24, 3) := by decide +kernel
theorem dX1_init_29 : decode cX1_init 29 = .ok (.iconst 0, 1) := by decide +kernel
theorem dX1_init_30 : decode cX1_init 30 = .ok (.istore_n 1, 1) := by decide +kernel
theorem dX1_init_31 : decode cX1_init 31 = .ok (.iload_n 1, 1) := by decide +kernel
theorem dX1_init_32 : decode cX1_init 32 = .ok (.aload_n 0, 1) := by decide +kernel
theorem dX1_init_33 : decode cX1_init 33 = .ok (.getfield 11, 3) := by decide +kernel
theorem dX1_init_36 : decode cX1_init 36 = .ok (.arraylength, 1) := by decide +kernel
theorem dX1_init_37 : decode cX1_init 37 = .ok (.if_icmp .ge 22, 3) := by decide +kernel
theorem dX1_init_40 : decode cX1_init 40 = .ok (.aload_n 0, 1) := by decide +kernel
theorem dX1_init_41 : decode cX1_init 41 = .ok (.getfield 11, 3) := by decide +kernel
theorem dX1_init_44 : decode cX1_init 44 = .ok (.iload_n 1, 1) := by decide +kernel
theorem dX1_init_45 : decode cX1_init 45 = .ok (.new 9, 3) := by decide +kernel
theorem dX1_init_48 : decode cX1_init 48 = .ok (.dup, 1) := by decide +kernel
theorem dX1_init_49 : decode cX1_init 49 = .ok (.invokespecial 27, 3) := by decide +kernel
theorem dX1_init_52 : decode cX1_init 52 = .ok (.aastore, 1) := by decide +kernel
theorem dX1_init_53 : decode cX1_init 53 = .ok (.iinc 1 1, 3) := by decide +kernel
theorem dX1_init_56 : decode cX1_init 56 = .ok (.goto (-25), 3) := by decide +kernel
theorem dX1_init_59 : decode cX1_init 59 = .ok (.return_, 1) := by decide +kernel
def wp_X1_init (l0 : Nat) (h : PH) (Q : PH → Prop) : Prop := (qn h + 1 ≤ 1000000 ∧ ∀ h1, h1 = qnew h 18 12 12 → (∀ h3, h3 = qsR h1 l0 0 (some (qn h)) → (∀ h4, h4 = qsI h3 l0 1 0 → (∀ h5, h5 = qsI h4 l0 2 24 → (∀ h6, h6 = qsI h5 l0 3 0 → (∃ b7, qR h6 l0 0 = some b7 ∧ (((nI (qL h6 b7)) ≤ 0 → False) ∧ (¬ ((nI (qL h6 b7)) ≤ 0) → (∃ b10, qR h6 l0 0 = some b10 ∧ (qn h6 + 1 ≤ 1000000 ∧ ∀ h12, h12 = qnew h6 4 0 10 → (wp_X4_init (qn h6) h12 (fun h14 => (vp_in 0 (qL h14 b10) ∧ ∀ h16, h16 = qsR h14 b10 (0 : Int32).toNatClampNeg (some (qn h6)) → ∀ v18 : Int32, v18 = 0 + 1 → (∃ b19, qR h16 l0 0 = some b19 ∧ (((nI (qL h16 b19)) ≤ v18 → False) ∧ (¬ ((nI (qL h16 b19)) ≤ v18) → (∃ b22, qR h16 l0 0 = some b22 ∧ (qn h16 + 1 ≤ 1000000 ∧ ∀ h24, h24 = qnew h16 4 0 10 → (wp_X4_init (qn h16) h24 (fun h26 => (vp_in v18 (qL h26 b22) ∧ ∀ h28, h28 = qsR h26 b22 v18.toNatClampNeg (some (qn h16)) → ∀ v30 : Int32, v30 = v18 + 1 → (∃ b31, qR h28 l0 0 = some b31 ∧ (((nI (qL h28 b31)) ≤ v30 → False) ∧ (¬ ((nI (qL h28 b31)) ≤ v30) → (∃ b34, qR h28 l0 0 = some b34 ∧ (qn h28 + 1 ≤ 1000000 ∧ ∀ h36, h36 = qnew h28 4 0 10 → (wp_X4_init (qn h28) h36 (fun h38 => (vp_in v30 (qL h38 b34) ∧ ∀ h40, h40 = qsR h38 b34 v30.toNatClampNeg (some (qn h28)) → ∀ v42 : Int32, v42 = v30 + 1 → (∃ b43, qR h40 l0 0 = some b43 ∧ (((nI (qL h40 b43)) ≤ v42 → False) ∧ (¬ ((nI (qL h40 b43)) ≤ v42) → (∃ b46, qR h40 l0 0 = some b46 ∧ (qn h40 + 1 ≤ 1000000 ∧ ∀ h48, h48 = qnew h40 4 0 10 → (wp_X4_init (qn h40) h48 (fun h50 => (vp_in v42 (qL h50 b46) ∧ ∀ h52, h52 = qsR h50 b46 v42.toNatClampNeg (some (qn h40)) → ∀ v54 : Int32, v54 = v42 + 1 → (∃ b55, qR h52 l0 0 = some b55 ∧ (((nI (qL h52 b55)) ≤ v54 → False) ∧ (¬ ((nI (qL h52 b55)) ≤ v54) → (∃ b58, qR h52 l0 0 = some b58 ∧ (qn h52 + 1 ≤ 1000000 ∧ ∀ h60, h60 = qnew h52 4 0 10 → (wp_X4_init (qn h52) h60 (fun h62 => (vp_in v54 (qL h62 b58) ∧ ∀ h64, h64 = qsR h62 b58 v54.toNatClampNeg (some (qn h52)) → ∀ v66 : Int32, v66 = v54 + 1 → (∃ b67, qR h64 l0 0 = some b67 ∧ (((nI (qL h64 b67)) ≤ v66 → False) ∧ (¬ ((nI (qL h64 b67)) ≤ v66) → (∃ b70, qR h64 l0 0 = some b70 ∧ (qn h64 + 1 ≤ 1000000 ∧ ∀ h72, h72 = qnew h64 4 0 10 → (wp_X4_init (qn h64) h72 (fun h74 => (vp_in v66 (qL h74 b70) ∧ ∀ h76, h76 = qsR h74 b70 v66.toNatClampNeg (some (qn h64)) → ∀ v78 : Int32, v78 = v66 + 1 → (∃ b79, qR h76 l0 0 = some b79 ∧ (((nI (qL h76 b79)) ≤ v78 → False) ∧ (¬ ((nI (qL h76 b79)) ≤ v78) → (∃ b82, qR h76 l0 0 = some b82 ∧ (qn h76 + 1 ≤ 1000000 ∧ ∀ h84, h84 = qnew h76 4 0 10 → (wp_X4_init (qn h76) h84 (fun h86 => (vp_in v78 (qL h86 b82) ∧ ∀ h88, h88 = qsR h86 b82 v78.toNatClampNeg (some (qn h76)) → ∀ v90 : Int32, v90 = v78 + 1 → (∃ b91, qR h88 l0 0 = some b91 ∧ (((nI (qL h88 b91)) ≤ v90 → False) ∧ (¬ ((nI (qL h88 b91)) ≤ v90) → (∃ b94, qR h88 l0 0 = some b94 ∧ (qn h88 + 1 ≤ 1000000 ∧ ∀ h96, h96 = qnew h88 4 0 10 → (wp_X4_init (qn h88) h96 (fun h98 => (vp_in v90 (qL h98 b94) ∧ ∀ h100, h100 = qsR h98 b94 v90.toNatClampNeg (some (qn h88)) → ∀ v102 : Int32, v102 = v90 + 1 → (∃ b103, qR h100 l0 0 = some b103 ∧ (((nI (qL h100 b103)) ≤ v102 → False) ∧ (¬ ((nI (qL h100 b103)) ≤ v102) → (∃ b106, qR h100 l0 0 = some b106 ∧ (qn h100 + 1 ≤ 1000000 ∧ ∀ h108, h108 = qnew h100 4 0 10 → (wp_X4_init (qn h100) h108 (fun h110 => (vp_in v102 (qL h110 b106) ∧ ∀ h112, h112 = qsR h110 b106 v102.toNatClampNeg (some (qn h100)) → ∀ v114 : Int32, v114 = v102 + 1 → (∃ b115, qR h112 l0 0 = some b115 ∧ (((nI (qL h112 b115)) ≤ v114 → False) ∧ (¬ ((nI (qL h112 b115)) ≤ v114) → (∃ b118, qR h112 l0 0 = some b118 ∧ (qn h112 + 1 ≤ 1000000 ∧ ∀ h120, h120 = qnew h112 4 0 10 → (wp_X4_init (qn h112) h120 (fun h122 => (vp_in v114 (qL h122 b118) ∧ ∀ h124, h124 = qsR h122 b118 v114.toNatClampNeg (some (qn h112)) → ∀ v126 : Int32, v126 = v114 + 1 → (∃ b127, qR h124 l0 0 = some b127 ∧ (((nI (qL h124 b127)) ≤ v126 → False) ∧ (¬ ((nI (qL h124 b127)) ≤ v126) → (∃ b130, qR h124 l0 0 = some b130 ∧ (qn h124 + 1 ≤ 1000000 ∧ ∀ h132, h132 = qnew h124 4 0 10 → (wp_X4_init (qn h124) h132 (fun h134 => (vp_in v126 (qL h134 b130) ∧ ∀ h136, h136 = qsR h134 b130 v126.toNatClampNeg (some (qn h124)) → ∀ v138 : Int32, v138 = v126 + 1 → (∃ b139, qR h136 l0 0 = some b139 ∧ (((nI (qL h136 b139)) ≤ v138 → False) ∧ (¬ ((nI (qL h136 b139)) ≤ v138) → (∃ b142, qR h136 l0 0 = some b142 ∧ (qn h136 + 1 ≤ 1000000 ∧ ∀ h144, h144 = qnew h136 4 0 10 → (wp_X4_init (qn h136) h144 (fun h146 => (vp_in v138 (qL h146 b142) ∧ ∀ h148, h148 = qsR h146 b142 v138.toNatClampNeg (some (qn h136)) → ∀ v150 : Int32, v150 = v138 + 1 → (∃ b151, qR h148 l0 0 = some b151 ∧ (((nI (qL h148 b151)) ≤ v150 → Q h148) ∧ (¬ ((nI (qL h148 b151)) ≤ v150) → (∃ b154, qR h148 l0 0 = some b154 ∧ False)))))))))))))))))))))))))))))))))))))))))))))))))))))))))))))))))))))))))))))))))))))))))))))))))))))))))
set_option maxHeartbeats 4000000 in
set_option maxRecDepth 100000 in
theorem sn_X1_init (G : GT) (d : Nat) (l0 : Nat) (h : PH) (Q : PH → Prop) (okl0 : qOK h 1 l0) (hwp : wp_X1_init l0 h Q) : Mt G (2 + d) 13 132 mX1_init [.ref l0] h (qqv Q) := by
  unfold wp_X1_init at hwp
  refine Mt.of (by decide) rfl (Nat.le_of_ble_eq_true rfl) ?_
  have hex := qEx.rf h
  have hnn : qn h = qn h + 0 := rfl
  have hzz : qz h = qz h + 0 := rfl
  refine x_lvE (lv2 := [(0, .ref l0)]) rfl ?_
  refine x_aload_n (pc := 0) dX1_init_0 rfl ?_
  refine x_objInit (pc := 1) dX1_init_1 lRX1_3 wk_oi wk_oc (q_R1 (by omega)) (Nat.le_of_ble_eq_true rfl) ?_
  refine x_aload_n (pc := 4) dX1_init_4 rfl ?_
  refine x_bipush (v := 12) (pc := 5) dX1_init_5 (by decide) ?_
  obtain ⟨m2, hwp⟩ := hwp
  refine y_anew (t := 18) (N := 12) (pc := 7) dX1_init_7 (by decide) cRX1_9 (by decide) (by decide) (by decide) (q_C hnn hzz (by decide) (by decide)) m2 (fun h1 eh1 nwh1 okbh1 => ?_)
  have hwp := hwp h1 eh1
  have hex := hex.tr nwh1.1
  have hnn : qn h1 = qn h + 1 := by have := nwh1.2.1; omega
  have hzz : qz h1 = qz h + 12 := by have := nwh1.2.2; omega
  have okl0 := okl0.ex nwh1.1
  refine y_putF rfl (pc := 10) dX1_init_10 FRX1_11 okl0 okbh1 (fun h3 eh3 nxh3 => ?_)
  have hwp := hwp h3 eh3
  have hex := hex.tr nxh3.1
  have hnn := nxh3.2.1.trans hnn
  have hzz := nxh3.2.2.trans hzz
  have okl0 := okl0.ex nxh3.1
  have okbh1 := okbh1.ex nxh3.1
  refine x_aload_n (pc := 13) dX1_init_13 rfl ?_
  refine x_iconst (v := 0) (pc := 14) dX1_init_14 (by decide) ?_
  refine y_putI (pc := 15) dX1_init_15 qRX1_17 okl0 (fun h4 eh4 nxh4 => ?_)
  have hwp := hwp h4 eh4
  have hex := hex.tr nxh4.1
  have hnn := nxh4.2.1.trans hnn
  have hzz := nxh4.2.2.trans hzz
  have okl0 := okl0.ex nxh4.1
  have okbh1 := okbh1.ex nxh4.1
  refine x_aload_n (pc := 18) dX1_init_18 rfl ?_
  refine x_bipush (v := 24) (pc := 19) dX1_init_19 (by decide) ?_
  refine y_putI (pc := 21) dX1_init_21 qRX1_21 okl0 (fun h5 eh5 nxh5 => ?_)
  have hwp := hwp h5 eh5
  have hex := hex.tr nxh5.1
  have hnn := nxh5.2.1.trans hnn
  have hzz := nxh5.2.2.trans hzz
  have okl0 := okl0.ex nxh5.1
  have okbh1 := okbh1.ex nxh5.1
  refine x_aload_n (pc := 24) dX1_init_24 rfl ?_
  refine x_iconst (v := 0) (pc := 25) dX1_init_25 (by decide) ?_
  refine y_putI (pc := 26) dX1_init_26 qRX1_24 okl0 (fun h6 eh6 nxh6 => ?_)
  have hwp := hwp h6 eh6
  have hex := hex.tr nxh6.1
  have hnn := nxh6.2.1.trans hnn
  have hzz := nxh6.2.2.trans hzz
  have okl0 := okl0.ex nxh6.1
  have okbh1 := okbh1.ex nxh6.1
  refine x_iconst (v := 0) (pc := 29) dX1_init_29 (by decide) ?_
  refine x_istore_n (lv2 := [(1, .int 0), (0, .ref l0)]) (pc := 30) dX1_init_30 (by decide) rfl ?_
  refine x_iload_n (pc := 31) dX1_init_31 rfl ?_
  refine x_aload_n (pc := 32) dX1_init_32 rfl ?_
  obtain ⟨b7, e8, hwp⟩ := hwp
  refine x_getR (pc := 33) dX1_init_33 qRX1_11 okl0 e8 (fun okb7 => ?_)
  refine x_alen (pc := 36) dX1_init_36 okb7 (by decide) ?_
  refine x_icmp_ge (tgt := 59) (pc := 37) dX1_init_37 (by decide) (fun c9 => ?_) (fun c9 => ?_)
  · have hwp := hwp.1 c9
    exact absurd hwp (fun w => w)
  · have hwp := hwp.2 c9
    refine x_aload_n (pc := 40) dX1_init_40 rfl ?_
    obtain ⟨b10, e11, hwp⟩ := hwp
    refine x_getR (pc := 41) dX1_init_41 qRX1_11 okl0 e11 (fun okb10 => ?_)
    refine x_iload_n (pc := 44) dX1_init_44 rfl ?_
    obtain ⟨m13, hwp⟩ := hwp
    refine y_new (ty := tyX4) (pc := 45) dX1_init_45 qc_4 tyX4_ok (by decide +kernel) cRX1_9 wk_in_ForeverOffice_Part wk_it_ForeverOffice_Part (q_C hnn hzz (by decide) (by decide)) m13 (fun h12 eh12 nwh12 okbh12 => ?_)
    have hwp := hwp h12 eh12
    have hex := hex.tr nwh12.1
    have hnn : qn h12 = qn h + 2 := by have := nwh12.2.1; omega
    have hzz : qz h12 = qz h + 22 := by have := nwh12.2.2; omega
    have okl0 := okl0.ex nwh12.1
    have okbh1 := okbh1.ex nwh12.1
    have okb7 := okb7.ex nwh12.1
    have okb10 := okb10.ex nwh12.1
    refine x_dup (pc := 48) dX1_init_48 rfl ?_
    refine x_invI (As := []) (st := [.ref (qn h6), .int 0, .ref b10]) (pc := 49) dX1_init_49 lRX1_27 fX4_init rfl rfl iX4_init rfl (Nat.le_of_ble_eq_true rfl) (q_R (by omega) (by decide)) (q_C hnn hzz (by decide) (by decide)) (sn_X4_init G (d + 0) (qn h6) h12 _ okbh12 hwp) (k_v (fun h14 hwp cxh14 => ?_))
    have hex := hex.tr cxh14.1
    have hnn : qn h14 = qn h + 2 := by have := cxh14.2.1; omega
    have hzz : qz h14 = qz h + 22 := by have := cxh14.2.2; omega
    have okl0 := okl0.ex cxh14.1
    have okbh1 := okbh1.ex cxh14.1
    have okb7 := okb7.ex cxh14.1
    have okb10 := okb10.ex cxh14.1
    have okbh12 := okbh12.ex cxh14.1
    obtain ⟨i17, hwp⟩ := hwp
    refine y_aastore (t := 18) (pc := 52) dX1_init_52 okb10 (by decide) okbh12 i17 (fun h16 eh16 nxh16 => ?_)
    have hwp := hwp h16 eh16
    have hex := hex.tr nxh16.1
    have hnn := nxh16.2.1.trans hnn
    have hzz := nxh16.2.2.trans hzz
    have okl0 := okl0.ex nxh16.1
    have okbh1 := okbh1.ex nxh16.1
    have okb7 := okb7.ex nxh16.1
    have okb10 := okb10.ex nxh16.1
    have okbh12 := okbh12.ex nxh16.1
    refine y_iinc (c := 1) (pc := 53) dX1_init_53 rfl (by decide) (by decide) (fun v18 ev18 => ?_)
    have hwp := hwp v18 ev18
    refine x_lvE (lv2 := [(1, .int v18), (0, .ref l0)]) rfl ?_
    refine x_goto (tgt := 31) (pc := 56) dX1_init_56 (by decide) ?_
    refine x_iload_n (pc := 31) dX1_init_31 rfl ?_
    refine x_aload_n (pc := 32) dX1_init_32 rfl ?_
    obtain ⟨b19, e20, hwp⟩ := hwp
    refine x_getR (pc := 33) dX1_init_33 qRX1_11 okl0 e20 (fun okb19 => ?_)
    refine x_alen (pc := 36) dX1_init_36 okb19 (by decide) ?_
    refine x_icmp_ge (tgt := 59) (pc := 37) dX1_init_37 (by decide) (fun c21 => ?_) (fun c21 => ?_)
    · have hwp := hwp.1 c21
      exact absurd hwp (fun w => w)
    · have hwp := hwp.2 c21
      refine x_aload_n (pc := 40) dX1_init_40 rfl ?_
      obtain ⟨b22, e23, hwp⟩ := hwp
      refine x_getR (pc := 41) dX1_init_41 qRX1_11 okl0 e23 (fun okb22 => ?_)
      refine x_iload_n (pc := 44) dX1_init_44 rfl ?_
      obtain ⟨m25, hwp⟩ := hwp
      refine y_new (ty := tyX4) (pc := 45) dX1_init_45 qc_4 tyX4_ok (by decide +kernel) cRX1_9 wk_in_ForeverOffice_Part wk_it_ForeverOffice_Part (q_C hnn hzz (by decide) (by decide)) m25 (fun h24 eh24 nwh24 okbh24 => ?_)
      have hwp := hwp h24 eh24
      have hex := hex.tr nwh24.1
      have hnn : qn h24 = qn h + 3 := by have := nwh24.2.1; omega
      have hzz : qz h24 = qz h + 32 := by have := nwh24.2.2; omega
      have okl0 := okl0.ex nwh24.1
      have okbh1 := okbh1.ex nwh24.1
      have okb7 := okb7.ex nwh24.1
      have okb10 := okb10.ex nwh24.1
      have okbh12 := okbh12.ex nwh24.1
      have okb19 := okb19.ex nwh24.1
      have okb22 := okb22.ex nwh24.1
      refine x_dup (pc := 48) dX1_init_48 rfl ?_
      refine x_invI (As := []) (st := [.ref (qn h16), .int v18, .ref b22]) (pc := 49) dX1_init_49 lRX1_27 fX4_init rfl rfl iX4_init rfl (Nat.le_of_ble_eq_true rfl) (q_R (by omega) (by decide)) (q_C hnn hzz (by decide) (by decide)) (sn_X4_init G (d + 0) (qn h16) h24 _ okbh24 hwp) (k_v (fun h26 hwp cxh26 => ?_))
      have hex := hex.tr cxh26.1
      have hnn : qn h26 = qn h + 3 := by have := cxh26.2.1; omega
      have hzz : qz h26 = qz h + 32 := by have := cxh26.2.2; omega
      have okl0 := okl0.ex cxh26.1
      have okbh1 := okbh1.ex cxh26.1
      have okb7 := okb7.ex cxh26.1
      have okb10 := okb10.ex cxh26.1
      have okbh12 := okbh12.ex cxh26.1
      have okb19 := okb19.ex cxh26.1
      have okb22 := okb22.ex cxh26.1
      have okbh24 := okbh24.ex cxh26.1
      obtain ⟨i29, hwp⟩ := hwp
      refine y_aastore (t := 18) (pc := 52) dX1_init_52 okb22 (by decide) okbh24 i29 (fun h28 eh28 nxh28 => ?_)
      have hwp := hwp h28 eh28
      have hex := hex.tr nxh28.1
      have hnn := nxh28.2.1.trans hnn
      have hzz := nxh28.2.2.trans hzz
      have okl0 := okl0.ex nxh28.1
      have okbh1 := okbh1.ex nxh28.1
      have okb7 := okb7.ex nxh28.1
      have okb10 := okb10.ex nxh28.1
      have okbh12 := okbh12.ex nxh28.1
      have okb19 := okb19.ex nxh28.1
      have okb22 := okb22.ex nxh28.1
      have okbh24 := okbh24.ex nxh28.1
      refine y_iinc (c := 1) (pc := 53) dX1_init_53 rfl (by decide) (by decide) (fun v30 ev30 => ?_)
      have hwp := hwp v30 ev30
      refine x_lvE (lv2 := [(1, .int v30), (0, .ref l0)]) rfl ?_
      refine x_goto (tgt := 31) (pc := 56) dX1_init_56 (by decide) ?_
      refine x_iload_n (pc := 31) dX1_init_31 rfl ?_
      refine x_aload_n (pc := 32) dX1_init_32 rfl ?_
      obtain ⟨b31, e32, hwp⟩ := hwp
      refine x_getR (pc := 33) dX1_init_33 qRX1_11 okl0 e32 (fun okb31 => ?_)
      refine x_alen (pc := 36) dX1_init_36 okb31 (by decide) ?_
      refine x_icmp_ge (tgt := 59) (pc := 37) dX1_init_37 (by decide) (fun c33 => ?_) (fun c33 => ?_)
      · have hwp := hwp.1 c33
        exact absurd hwp (fun w => w)
      · have hwp := hwp.2 c33
        refine x_aload_n (pc := 40) dX1_init_40 rfl ?_
        obtain ⟨b34, e35, hwp⟩ := hwp
        refine x_getR (pc := 41) dX1_init_41 qRX1_11 okl0 e35 (fun okb34 => ?_)
        refine x_iload_n (pc := 44) dX1_init_44 rfl ?_
        obtain ⟨m37, hwp⟩ := hwp
        refine y_new (ty := tyX4) (pc := 45) dX1_init_45 qc_4 tyX4_ok (by decide +kernel) cRX1_9 wk_in_ForeverOffice_Part wk_it_ForeverOffice_Part (q_C hnn hzz (by decide) (by decide)) m37 (fun h36 eh36 nwh36 okbh36 => ?_)
        have hwp := hwp h36 eh36
        have hex := hex.tr nwh36.1
        have hnn : qn h36 = qn h + 4 := by have := nwh36.2.1; omega
        have hzz : qz h36 = qz h + 42 := by have := nwh36.2.2; omega
        have okl0 := okl0.ex nwh36.1
        have okbh1 := okbh1.ex nwh36.1
        have okb7 := okb7.ex nwh36.1
        have okb10 := okb10.ex nwh36.1
        have okbh12 := okbh12.ex nwh36.1
        have okb19 := okb19.ex nwh36.1
        have okb22 := okb22.ex nwh36.1
        have okbh24 := okbh24.ex nwh36.1
        have okb31 := okb31.ex nwh36.1
        have okb34 := okb34.ex nwh36.1
        refine x_dup (pc := 48) dX1_init_48 rfl ?_
        refine x_invI (As := []) (st := [.ref (qn h28), .int v30, .ref b34]) (pc := 49) dX1_init_49 lRX1_27 fX4_init rfl rfl iX4_init rfl (Nat.le_of_ble_eq_true rfl) (q_R (by omega) (by decide)) (q_C hnn hzz (by decide) (by decide)) (sn_X4_init G (d + 0) (qn h28) h36 _ okbh36 hwp) (k_v (fun h38 hwp cxh38 => ?_))
        have hex := hex.tr cxh38.1
        have hnn : qn h38 = qn h + 4 := by have := cxh38.2.1; omega
        have hzz : qz h38 = qz h + 42 := by have := cxh38.2.2; omega
        have okl0 := okl0.ex cxh38.1
        have okbh1 := okbh1.ex cxh38.1
        have okb7 := okb7.ex cxh38.1
        have okb10 := okb10.ex cxh38.1
        have okbh12 := okbh12.ex cxh38.1
        have okb19 := okb19.ex cxh38.1
        have okb22 := okb22.ex cxh38.1
        have okbh24 := okbh24.ex cxh38.1
        have okb31 := okb31.ex cxh38.1
        have okb34 := okb34.ex cxh38.1
        have okbh36 := okbh36.ex cxh38.1
        obtain ⟨i41, hwp⟩ := hwp
        refine y_aastore (t := 18) (pc := 52) dX1_init_52 okb34 (by decide) okbh36 i41 (fun h40 eh40 nxh40 => ?_)
        have hwp := hwp h40 eh40
        have hex := hex.tr nxh40.1
        have hnn := nxh40.2.1.trans hnn
        have hzz := nxh40.2.2.trans hzz
        have okl0 := okl0.ex nxh40.1
        have okbh1 := okbh1.ex nxh40.1
        have okb7 := okb7.ex nxh40.1
        have okb10 := okb10.ex nxh40.1
        have okbh12 := okbh12.ex nxh40.1
        have okb19 := okb19.ex nxh40.1
        have okb22 := okb22.ex nxh40.1
        have okbh24 := okbh24.ex nxh40.1
        have okb31 := okb31.ex nxh40.1
        have okb34 := okb34.ex nxh40.1
        have okbh36 := okbh36.ex nxh40.1
        refine y_iinc (c := 1) (pc := 53) dX1_init_53 rfl (by decide) (by decide) (fun v42 ev42 => ?_)
        have hwp := hwp v42 ev42
        refine x_lvE (lv2 := [(1, .int v42), (0, .ref l0)]) rfl ?_
        refine x_goto (tgt := 31) (pc := 56) dX1_init_56 (by decide) ?_
        refine x_iload_n (pc := 31) dX1_init_31 rfl ?_
        refine x_aload_n (pc := 32) dX1_init_32 rfl ?_
        obtain ⟨b43, e44, hwp⟩ := hwp
        refine x_getR (pc := 33) dX1_init_33 qRX1_11 okl0 e44 (fun okb43 => ?_)
        refine x_alen (pc := 36) dX1_init_36 okb43 (by decide) ?_
        refine x_icmp_ge (tgt := 59) (pc := 37) dX1_init_37 (by decide) (fun c45 => ?_) (fun c45 => ?_)
        · have hwp := hwp.1 c45
          exact absurd hwp (fun w => w)
        · have hwp := hwp.2 c45
          refine x_aload_n (pc := 40) dX1_init_40 rfl ?_
          obtain ⟨b46, e47, hwp⟩ := hwp
          refine x_getR (pc := 41) dX1_init_41 qRX1_11 okl0 e47 (fun okb46 => ?_)
          refine x_iload_n (pc := 44) dX1_init_44 rfl ?_
          obtain ⟨m49, hwp⟩ := hwp
          refine y_new (ty := tyX4) (pc := 45) dX1_init_45 qc_4 tyX4_ok (by decide +kernel) cRX1_9 wk_in_ForeverOffice_Part wk_it_ForeverOffice_Part (q_C hnn hzz (by decide) (by decide)) m49 (fun h48 eh48 nwh48 okbh48 => ?_)
          have hwp := hwp h48 eh48
          have hex := hex.tr nwh48.1
          have hnn : qn h48 = qn h + 5 := by have := nwh48.2.1; omega
          have hzz : qz h48 = qz h + 52 := by have := nwh48.2.2; omega
          have okl0 := okl0.ex nwh48.1
          have okbh1 := okbh1.ex nwh48.1
          have okb7 := okb7.ex nwh48.1
          have okb10 := okb10.ex nwh48.1
          have okbh12 := okbh12.ex nwh48.1
          have okb19 := okb19.ex nwh48.1
          have okb22 := okb22.ex nwh48.1
          have okbh24 := okbh24.ex nwh48.1
          have okb31 := okb31.ex nwh48.1
          have okb34 := okb34.ex nwh48.1
          have okbh36 := okbh36.ex nwh48.1
          have okb43 := okb43.ex nwh48.1
          have okb46 := okb46.ex nwh48.1
          refine x_dup (pc := 48) dX1_init_48 rfl ?_
          refine x_invI (As := []) (st := [.ref (qn h40), .int v42, .ref b46]) (pc := 49) dX1_init_49 lRX1_27 fX4_init rfl rfl iX4_init rfl (Nat.le_of_ble_eq_true rfl) (q_R (by omega) (by decide)) (q_C hnn hzz (by decide) (by decide)) (sn_X4_init G (d + 0) (qn h40) h48 _ okbh48 hwp) (k_v (fun h50 hwp cxh50 => ?_))
          have hex := hex.tr cxh50.1
          have hnn : qn h50 = qn h + 5 := by have := cxh50.2.1; omega
          have hzz : qz h50 = qz h + 52 := by have := cxh50.2.2; omega
          have okl0 := okl0.ex cxh50.1
          have okbh1 := okbh1.ex cxh50.1
          have okb7 := okb7.ex cxh50.1
          have okb10 := okb10.ex cxh50.1
          have okbh12 := okbh12.ex cxh50.1
          have okb19 := okb19.ex cxh50.1
          have okb22 := okb22.ex cxh50.1
          have okbh24 := okbh24.ex cxh50.1
          have okb31 := okb31.ex cxh50.1
          have okb34 := okb34.ex cxh50.1
          have okbh36 := okbh36.ex cxh50.1
          have okb43 := okb43.ex cxh50.1
          have okb46 := okb46.ex cxh50.1
          have okbh48 := okbh48.ex cxh50.1
          obtain ⟨i53, hwp⟩ := hwp
          refine y_aastore (t := 18) (pc := 52) dX1_init_52 okb46 (by decide) okbh48 i53 (fun h52 eh52 nxh52 => ?_)
          have hwp := hwp h52 eh52
          have hex := hex.tr nxh52.1
          have hnn := nxh52.2.1.trans hnn
          have hzz := nxh52.2.2.trans hzz
          have okl0 := okl0.ex nxh52.1
          have okbh1 := okbh1.ex nxh52.1
          have okb7 := okb7.ex nxh52.1
          have okb10 := okb10.ex nxh52.1
          have okbh12 := okbh12.ex nxh52.1
          have okb19 := okb19.ex nxh52.1
          have okb22 := okb22.ex nxh52.1
          have okbh24 := okbh24.ex nxh52.1
          have okb31 := okb31.ex nxh52.1
          have okb34 := okb34.ex nxh52.1
          have okbh36 := okbh36.ex nxh52.1
          have okb43 := okb43.ex nxh52.1
          have okb46 := okb46.ex nxh52.1
          have okbh48 := okbh48.ex nxh52.1
          refine y_iinc (c := 1) (pc := 53) dX1_init_53 rfl (by decide) (by decide) (fun v54 ev54 => ?_)
          have hwp := hwp v54 ev54
          refine x_lvE (lv2 := [(1, .int v54), (0, .ref l0)]) rfl ?_
          refine x_goto (tgt := 31) (pc := 56) dX1_init_56 (by decide) ?_
          refine x_iload_n (pc := 31) dX1_init_31 rfl ?_
          refine x_aload_n (pc := 32) dX1_init_32 rfl ?_
          obtain ⟨b55, e56, hwp⟩ := hwp
          refine x_getR (pc := 33) dX1_init_33 qRX1_11 okl0 e56 (fun okb55 => ?_)
          refine x_alen (pc := 36) dX1_init_36 okb55 (by decide) ?_
          refine x_icmp_ge (tgt := 59) (pc := 37) dX1_init_37 (by decide) (fun c57 => ?_) (fun c57 => ?_)
          · have hwp := hwp.1 c57
            exact absurd hwp (fun w => w)
          · have hwp := hwp.2 c57
            refine x_aload_n (pc := 40) dX1_init_40 rfl ?_
            obtain ⟨b58, e59, hwp⟩ := hwp
            refine x_getR (pc := 41) dX1_init_41 qRX1_11 okl0 e59 (fun okb58 => ?_)
            refine x_iload_n (pc := 44) dX1_init_44 rfl ?_
            obtain ⟨m61, hwp⟩ := hwp
            refine y_new (ty := tyX4) (pc := 45) dX1_init_45 qc_4 tyX4_ok (by decide +kernel) cRX1_9 wk_in_ForeverOffice_Part wk_it_ForeverOffice_Part (q_C hnn hzz (by decide) (by decide)) m61 (fun h60 eh60 nwh60 okbh60 => ?_)
            have hwp := hwp h60 eh60
            have hex := hex.tr nwh60.1
            have hnn : qn h60 = qn h + 6 := by have := nwh60.2.1; omega
            have hzz : qz h60 = qz h + 62 := by have := nwh60.2.2; omega
            have okl0 := okl0.ex nwh60.1
            have okbh1 := okbh1.ex nwh60.1
            have okb7 := okb7.ex nwh60.1
            have okb10 := okb10.ex nwh60.1
            have okbh12 := okbh12.ex nwh60.1
            have okb19 := okb19.ex nwh60.1
            have okb22 := okb22.ex nwh60.1
            have okbh24 := okbh24.ex nwh60.1
            have okb31 := okb31.ex nwh60.1
            have okb34 := okb34.ex nwh60.1
            have okbh36 := okbh36.ex nwh60.1
            have okb43 := okb43.ex nwh60.1
            have okb46 := okb46.ex nwh60.1
            have okbh48 := okbh48.ex nwh60.1
            have okb55 := okb55.ex nwh60.1
            have okb58 := okb58.ex nwh60.1
            refine x_dup (pc := 48) dX1_init_48 rfl ?_
            refine x_invI (As := []) (st := [.ref (qn h52), .int v54, .ref b58]) (pc := 49) dX1_init_49 lRX1_27 fX4_init rfl rfl iX4_init rfl (Nat.le_of_ble_eq_true rfl) (q_R (by omega) (by decide)) (q_C hnn hzz (by decide) (by decide)) (sn_X4_init G (d + 0) (qn h52) h60 _ okbh60 hwp) (k_v (fun h62 hwp cxh62 => ?_))
            have hex := hex.tr cxh62.1
            have hnn : qn h62 = qn h + 6 := by have := cxh62.2.1; omega
            have hzz : qz h62 = qz h + 62 := by have := cxh62.2.2; omega
            have okl0 := okl0.ex cxh62.1
            have okbh1 := okbh1.ex cxh62.1
            have okb7 := okb7.ex cxh62.1
            have okb10 := okb10.ex cxh62.1
            have okbh12 := okbh12.ex cxh62.1
            have okb19 := okb19.ex cxh62.1
            have okb22 := okb22.ex cxh62.1
            have okbh24 := okbh24.ex cxh62.1
            have okb31 := okb31.ex cxh62.1
            have okb34 := okb34.ex cxh62.1
            have okbh36 := okbh36.ex cxh62.1
            have okb43 := okb43.ex cxh62.1
            have okb46 := okb46.ex cxh62.1
            have okbh48 := okbh48.ex cxh62.1
            have okb55 := okb55.ex cxh62.1
            have okb58 := okb58.ex cxh62.1
            have okbh60 := okbh60.ex cxh62.1
            obtain ⟨i65, hwp⟩ := hwp
            refine y_aastore (t := 18) (pc := 52) dX1_init_52 okb58 (by decide) okbh60 i65 (fun h64 eh64 nxh64 => ?_)
            have hwp := hwp h64 eh64
            have hex := hex.tr nxh64.1
            have hnn := nxh64.2.1.trans hnn
            have hzz := nxh64.2.2.trans hzz
            have okl0 := okl0.ex nxh64.1
            have okbh1 := okbh1.ex nxh64.1
            have okb7 := okb7.ex nxh64.1
            have okb10 := okb10.ex nxh64.1
            have okbh12 := okbh12.ex nxh64.1
            have okb19 := okb19.ex nxh64.1
            have okb22 := okb22.ex nxh64.1
            have okbh24 := okbh24.ex nxh64.1
            have okb31 := okb31.ex nxh64.1
            have okb34 := okb34.ex nxh64.1
            have okbh36 := okbh36.ex nxh64.1
            have okb43 := okb43.ex nxh64.1
            have okb46 := okb46.ex nxh64.1
            have okbh48 := okbh48.ex nxh64.1
            have okb55 := okb55.ex nxh64.1
            have okb58 := okb58.ex nxh64.1
            have okbh60 := okbh60.ex nxh64.1
            refine y_iinc (c := 1) (pc := 53) dX1_init_53 rfl (by decide) (by decide) (fun v66 ev66 => ?_)
            have hwp := hwp v66 ev66
            refine x_lvE (lv2 := [(1, .int v66), (0, .ref l0)]) rfl ?_
            refine x_goto (tgt := 31) (pc := 56) dX1_init_56 (by decide) ?_
            refine x_iload_n (pc := 31) dX1_init_31 rfl ?_
            refine x_aload_n (pc := 32) dX1_init_32 rfl ?_
            obtain ⟨b67, e68, hwp⟩ := hwp
            refine x_getR (pc := 33) dX1_init_33 qRX1_11 okl0 e68 (fun okb67 => ?_)
            refine x_alen (pc := 36) dX1_init_36 okb67 (by decide) ?_
            refine x_icmp_ge (tgt := 59) (pc := 37) dX1_init_37 (by decide) (fun c69 => ?_) (fun c69 => ?_)
            · have hwp := hwp.1 c69
              exact absurd hwp (fun w => w)
            · have hwp := hwp.2 c69
              refine x_aload_n (pc := 40) dX1_init_40 rfl ?_
              obtain ⟨b70, e71, hwp⟩ := hwp
              refine x_getR (pc := 41) dX1_init_41 qRX1_11 okl0 e71 (fun okb70 => ?_)
              refine x_iload_n (pc := 44) dX1_init_44 rfl ?_
              obtain ⟨m73, hwp⟩ := hwp
              refine y_new (ty := tyX4) (pc := 45) dX1_init_45 qc_4 tyX4_ok (by decide +kernel) cRX1_9 wk_in_ForeverOffice_Part wk_it_ForeverOffice_Part (q_C hnn hzz (by decide) (by decide)) m73 (fun h72 eh72 nwh72 okbh72 => ?_)
              have hwp := hwp h72 eh72
              have hex := hex.tr nwh72.1
              have hnn : qn h72 = qn h + 7 := by have := nwh72.2.1; omega
              have hzz : qz h72 = qz h + 72 := by have := nwh72.2.2; omega
              have okl0 := okl0.ex nwh72.1
              have okbh1 := okbh1.ex nwh72.1
              have okb7 := okb7.ex nwh72.1
              have okb10 := okb10.ex nwh72.1
              have okbh12 := okbh12.ex nwh72.1
              have okb19 := okb19.ex nwh72.1
              have okb22 := okb22.ex nwh72.1
              have okbh24 := okbh24.ex nwh72.1
              have okb31 := okb31.ex nwh72.1
              have okb34 := okb34.ex nwh72.1
              have okbh36 := okbh36.ex nwh72.1
              have okb43 := okb43.ex nwh72.1
              have okb46 := okb46.ex nwh72.1
              have okbh48 := okbh48.ex nwh72.1
              have okb55 := okb55.ex nwh72.1
              have okb58 := okb58.ex nwh72.1
              have okbh60 := okbh60.ex nwh72.1
              have okb67 := okb67.ex nwh72.1
              have okb70 := okb70.ex nwh72.1
              refine x_dup (pc := 48) dX1_init_48 rfl ?_
              refine x_invI (As := []) (st := [.ref (qn h64), .int v66, .ref b70]) (pc := 49) dX1_init_49 lRX1_27 fX4_init rfl rfl iX4_init rfl (Nat.le_of_ble_eq_true rfl) (q_R (by omega) (by decide)) (q_C hnn hzz (by decide) (by decide)) (sn_X4_init G (d + 0) (qn h64) h72 _ okbh72 hwp) (k_v (fun h74 hwp cxh74 => ?_))
              have hex := hex.tr cxh74.1
              have hnn : qn h74 = qn h + 7 := by have := cxh74.2.1; omega
              have hzz : qz h74 = qz h + 72 := by have := cxh74.2.2; omega
              have okl0 := okl0.ex cxh74.1
              have okbh1 := okbh1.ex cxh74.1
              have okb7 := okb7.ex cxh74.1
              have okb10 := okb10.ex cxh74.1
              have okbh12 := okbh12.ex cxh74.1
              have okb19 := okb19.ex cxh74.1
              have okb22 := okb22.ex cxh74.1
              have okbh24 := okbh24.ex cxh74.1
              have okb31 := okb31.ex cxh74.1
              have okb34 := okb34.ex cxh74.1
              have okbh36 := okbh36.ex cxh74.1
              have okb43 := okb43.ex cxh74.1
              have okb46 := okb46.ex cxh74.1
              have okbh48 := okbh48.ex cxh74.1
              have okb55 := okb55.ex cxh74.1
              have okb58 := okb58.ex cxh74.1
              have okbh60 := okbh60.ex cxh74.1
              have okb67 := okb67.ex cxh74.1
              have okb70 := okb70.ex cxh74.1
              have okbh72 := okbh72.ex cxh74.1
              obtain ⟨i77, hwp⟩ := hwp
              refine y_aastore (t := 18) (pc := 52) dX1_init_52 okb70 (by decide) okbh72 i77 (fun h76 eh76 nxh76 => ?_)
              have hwp := hwp h76 eh76
              have hex := hex.tr nxh76.1
              have hnn := nxh76.2.1.trans hnn
              have hzz := nxh76.2.2.trans hzz
              have okl0 := okl0.ex nxh76.1
              have okbh1 := okbh1.ex nxh76.1
              have okb7 := okb7.ex nxh76.1
              have okb10 := okb10.ex nxh76.1
              have okbh12 := okbh12.ex nxh76.1
              have okb19 := okb19.ex nxh76.1
              have okb22 := okb22.ex nxh76.1
              have okbh24 := okbh24.ex nxh76.1
              have okb31 := okb31.ex nxh76.1
              have okb34 := okb34.ex nxh76.1
              have okbh36 := okbh36.ex nxh76.1
              have okb43 := okb43.ex nxh76.1
              have okb46 := okb46.ex nxh76.1
              have okbh48 := okbh48.ex nxh76.1
              have okb55 := okb55.ex nxh76.1
              have okb58 := okb58.ex nxh76.1
              have okbh60 := okbh60.ex nxh76.1
              have okb67 := okb67.ex nxh76.1
              have okb70 := okb70.ex nxh76.1
              have okbh72 := okbh72.ex nxh76.1
              refine y_iinc (c := 1) (pc := 53) dX1_init_53 rfl (by decide) (by decide) (fun v78 ev78 => ?_)
              have hwp := hwp v78 ev78
              refine x_lvE (lv2 := [(1, .int v78), (0, .ref l0)]) rfl ?_
              refine x_goto (tgt := 31) (pc := 56) dX1_init_56 (by decide) ?_
              refine x_iload_n (pc := 31) dX1_init_31 rfl ?_
              refine x_aload_n (pc := 32) dX1_init_32 rfl ?_
              obtain ⟨b79, e80, hwp⟩ := hwp
              refine x_getR (pc := 33) dX1_init_33 qRX1_11 okl0 e80 (fun okb79 => ?_)
              refine x_alen (pc := 36) dX1_init_36 okb79 (by decide) ?_
              refine x_icmp_ge (tgt := 59) (pc := 37) dX1_init_37 (by decide) (fun c81 => ?_) (fun c81 => ?_)
              · have hwp := hwp.1 c81
                exact absurd hwp (fun w => w)
              · have hwp := hwp.2 c81
                refine x_aload_n (pc := 40) dX1_init_40 rfl ?_
                obtain ⟨b82, e83, hwp⟩ := hwp
                refine x_getR (pc := 41) dX1_init_41 qRX1_11 okl0 e83 (fun okb82 => ?_)
                refine x_iload_n (pc := 44) dX1_init_44 rfl ?_
                obtain ⟨m85, hwp⟩ := hwp
                refine y_new (ty := tyX4) (pc := 45) dX1_init_45 qc_4 tyX4_ok (by decide +kernel) cRX1_9 wk_in_ForeverOffice_Part wk_it_ForeverOffice_Part (q_C hnn hzz (by decide) (by decide)) m85 (fun h84 eh84 nwh84 okbh84 => ?_)
                have hwp := hwp h84 eh84
                have hex := hex.tr nwh84.1
                have hnn : qn h84 = qn h + 8 := by have := nwh84.2.1; omega
                have hzz : qz h84 = qz h + 82 := by have := nwh84.2.2; omega
                have okl0 := okl0.ex nwh84.1
                have okbh1 := okbh1.ex nwh84.1
                have okb7 := okb7.ex nwh84.1
                have okb10 := okb10.ex nwh84.1
                have okbh12 := okbh12.ex nwh84.1
                have okb19 := okb19.ex nwh84.1
                have okb22 := okb22.ex nwh84.1
                have okbh24 := okbh24.ex nwh84.1
                have okb31 := okb31.ex nwh84.1
                have okb34 := okb34.ex nwh84.1
                have okbh36 := okbh36.ex nwh84.1
                have okb43 := okb43.ex nwh84.1
                have okb46 := okb46.ex nwh84.1
                have okbh48 := okbh48.ex nwh84.1
                have okb55 := okb55.ex nwh84.1
                have okb58 := okb58.ex nwh84.1
                have okbh60 := okbh60.ex nwh84.1
                have okb67 := okb67.ex nwh84.1
                have okb70 := okb70.ex nwh84.1
                have okbh72 := okbh72.ex nwh84.1
                have okb79 := okb79.ex nwh84.1
                have okb82 := okb82.ex nwh84.1
                refine x_dup (pc := 48) dX1_init_48 rfl ?_
                refine x_invI (As := []) (st := [.ref (qn h76), .int v78, .ref b82]) (pc := 49) dX1_init_49 lRX1_27 fX4_init rfl rfl iX4_init rfl (Nat.le_of_ble_eq_true rfl) (q_R (by omega) (by decide)) (q_C hnn hzz (by decide) (by decide)) (sn_X4_init G (d + 0) (qn h76) h84 _ okbh84 hwp) (k_v (fun h86 hwp cxh86 => ?_))
                have hex := hex.tr cxh86.1
                have hnn : qn h86 = qn h + 8 := by have := cxh86.2.1; omega
                have hzz : qz h86 = qz h + 82 := by have := cxh86.2.2; omega
                have okl0 := okl0.ex cxh86.1
                have okbh1 := okbh1.ex cxh86.1
                have okb7 := okb7.ex cxh86.1
                have okb10 := okb10.ex cxh86.1
                have okbh12 := okbh12.ex cxh86.1
                have okb19 := okb19.ex cxh86.1
                have okb22 := okb22.ex cxh86.1
                have okbh24 := okbh24.ex cxh86.1
                have okb31 := okb31.ex cxh86.1
                have okb34 := okb34.ex cxh86.1
                have okbh36 := okbh36.ex cxh86.1
                have okb43 := okb43.ex cxh86.1
                have okb46 := okb46.ex cxh86.1
                have okbh48 := okbh48.ex cxh86.1
                have okb55 := okb55.ex cxh86.1
                have okb58 := okb58.ex cxh86.1
                have okbh60 := okbh60.ex cxh86.1
                have okb67 := okb67.ex cxh86.1
                have okb70 := okb70.ex cxh86.1
                have okbh72 := okbh72.ex cxh86.1
                have okb79 := okb79.ex cxh86.1
                have okb82 := okb82.ex cxh86.1
                have okbh84 := okbh84.ex cxh86.1
                obtain ⟨i89, hwp⟩ := hwp
                refine y_aastore (t := 18) (pc := 52) dX1_init_52 okb82 (by decide) okbh84 i89 (fun h88 eh88 nxh88 => ?_)
                have hwp := hwp h88 eh88
                have hex := hex.tr nxh88.1
                have hnn := nxh88.2.1.trans hnn
                have hzz := nxh88.2.2.trans hzz
                have okl0 := okl0.ex nxh88.1
                have okbh1 := okbh1.ex nxh88.1
                have okb7 := okb7.ex nxh88.1
                have okb10 := okb10.ex nxh88.1
                have okbh12 := okbh12.ex nxh88.1
                have okb19 := okb19.ex nxh88.1
                have okb22 := okb22.ex nxh88.1
                have okbh24 := okbh24.ex nxh88.1
                have okb31 := okb31.ex nxh88.1
                have okb34 := okb34.ex nxh88.1
                have okbh36 := okbh36.ex nxh88.1
                have okb43 := okb43.ex nxh88.1
                have okb46 := okb46.ex nxh88.1
                have okbh48 := okbh48.ex nxh88.1
                have okb55 := okb55.ex nxh88.1
                have okb58 := okb58.ex nxh88.1
                have okbh60 := okbh60.ex nxh88.1
                have okb67 := okb67.ex nxh88.1
                have okb70 := okb70.ex nxh88.1
                have okbh72 := okbh72.ex nxh88.1
                have okb79 := okb79.ex nxh88.1
                have okb82 := okb82.ex nxh88.1
                have okbh84 := okbh84.ex nxh88.1
                refine y_iinc (c := 1) (pc := 53) dX1_init_53 rfl (by decide) (by decide) (fun v90 ev90 => ?_)
                have hwp := hwp v90 ev90
                refine x_lvE (lv2 := [(1, .int v90), (0, .ref l0)]) rfl ?_
                refine x_goto (tgt := 31) (pc := 56) dX1_init_56 (by decide) ?_
                refine x_iload_n (pc := 31) dX1_init_31 rfl ?_
                refine x_aload_n (pc := 32) dX1_init_32 rfl ?_
                obtain ⟨b91, e92, hwp⟩ := hwp
                refine x_getR (pc := 33) dX1_init_33 qRX1_11 okl0 e92 (fun okb91 => ?_)
                refine x_alen (pc := 36) dX1_init_36 okb91 (by decide) ?_
                refine x_icmp_ge (tgt := 59) (pc := 37) dX1_init_37 (by decide) (fun c93 => ?_) (fun c93 => ?_)
                · have hwp := hwp.1 c93
                  exact absurd hwp (fun w => w)
                · have hwp := hwp.2 c93
                  refine x_aload_n (pc := 40) dX1_init_40 rfl ?_
                  obtain ⟨b94, e95, hwp⟩ := hwp
                  refine x_getR (pc := 41) dX1_init_41 qRX1_11 okl0 e95 (fun okb94 => ?_)
                  refine x_iload_n (pc := 44) dX1_init_44 rfl ?_
                  obtain ⟨m97, hwp⟩ := hwp
                  refine y_new (ty := tyX4) (pc := 45) dX1_init_45 qc_4 tyX4_ok (by decide +kernel) cRX1_9 wk_in_ForeverOffice_Part wk_it_ForeverOffice_Part (q_C hnn hzz (by decide) (by decide)) m97 (fun h96 eh96 nwh96 okbh96 => ?_)
                  have hwp := hwp h96 eh96
                  have hex := hex.tr nwh96.1
                  have hnn : qn h96 = qn h + 9 := by have := nwh96.2.1; omega
                  have hzz : qz h96 = qz h + 92 := by have := nwh96.2.2; omega
                  have okl0 := okl0.ex nwh96.1
                  have okbh1 := okbh1.ex nwh96.1
                  have okb7 := okb7.ex nwh96.1
                  have okb10 := okb10.ex nwh96.1
                  have okbh12 := okbh12.ex nwh96.1
                  have okb19 := okb19.ex nwh96.1
                  have okb22 := okb22.ex nwh96.1
                  have okbh24 := okbh24.ex nwh96.1
                  have okb31 := okb31.ex nwh96.1
                  have okb34 := okb34.ex nwh96.1
                  have okbh36 := okbh36.ex nwh96.1
                  have okb43 := okb43.ex nwh96.1
                  have okb46 := okb46.ex nwh96.1
                  have okbh48 := okbh48.ex nwh96.1
                  have okb55 := okb55.ex nwh96.1
                  have okb58 := okb58.ex nwh96.1
                  have okbh60 := okbh60.ex nwh96.1
                  have okb67 := okb67.ex nwh96.1
                  have okb70 := okb70.ex nwh96.1
                  have okbh72 := okbh72.ex nwh96.1
                  have okb79 := okb79.ex nwh96.1
                  have okb82 := okb82.ex nwh96.1
                  have okbh84 := okbh84.ex nwh96.1
                  have okb91 := okb91.ex nwh96.1
                  have okb94 := okb94.ex nwh96.1
                  refine x_dup (pc := 48) dX1_init_48 rfl ?_
                  refine x_invI (As := []) (st := [.ref (qn h88), .int v90, .ref b94]) (pc := 49) dX1_init_49 lRX1_27 fX4_init rfl rfl iX4_init rfl (Nat.le_of_ble_eq_true rfl) (q_R (by omega) (by decide)) (q_C hnn hzz (by decide) (by decide)) (sn_X4_init G (d + 0) (qn h88) h96 _ okbh96 hwp) (k_v (fun h98 hwp cxh98 => ?_))
                  have hex := hex.tr cxh98.1
                  have hnn : qn h98 = qn h + 9 := by have := cxh98.2.1; omega
                  have hzz : qz h98 = qz h + 92 := by have := cxh98.2.2; omega
                  have okl0 := okl0.ex cxh98.1
                  have okbh1 := okbh1.ex cxh98.1
                  have okb7 := okb7.ex cxh98.1
                  have okb10 := okb10.ex cxh98.1
                  have okbh12 := okbh12.ex cxh98.1
                  have okb19 := okb19.ex cxh98.1
                  have okb22 := okb22.ex cxh98.1
                  have okbh24 := okbh24.ex cxh98.1
                  have okb31 := okb31.ex cxh98.1
                  have okb34 := okb34.ex cxh98.1
                  have okbh36 := okbh36.ex cxh98.1
                  have okb43 := okb43.ex cxh98.1
                  have okb46 := okb46.ex cxh98.1
                  have okbh48 := okbh48.ex cxh98.1
                  have okb55 := okb55.ex cxh98.1
                  have okb58 := okb58.ex cxh98.1
                  have okbh60 := okbh60.ex cxh98.1
                  have okb67 := okb67.ex cxh98.1
                  have okb70 := okb70.ex cxh98.1
                  have okbh72 := okbh72.ex cxh98.1
                  have okb79 := okb79.ex cxh98.1
                  have okb82 := okb82.ex cxh98.1
                  have okbh84 := okbh84.ex cxh98.1
                  have okb91 := okb91.ex cxh98.1
                  have okb94 := okb94.ex cxh98.1
                  have okbh96 := okbh96.ex cxh98.1
                  obtain ⟨i101, hwp⟩ := hwp
                  refine y_aastore (t := 18) (pc := 52) dX1_init_52 okb94 (by decide) okbh96 i101 (fun h100 eh100 nxh100 => ?_)
                  have hwp := hwp h100 eh100
                  have hex := hex.tr nxh100.1
                  have hnn := nxh100.2.1.trans hnn
                  have hzz := nxh100.2.2.trans hzz
                  have okl0 := okl0.ex nxh100.1
                  have okbh1 := okbh1.ex nxh100.1
                  have okb7 := okb7.ex nxh100.1
                  have okb10 := okb10.ex nxh100.1
                  have okbh12 := okbh12.ex nxh100.1
                  have okb19 := okb19.ex nxh100.1
                  have okb22 := okb22.ex nxh100.1
                  have okbh24 := okbh24.ex nxh100.1
                  have okb31 := okb31.ex nxh100.1
                  have okb34 := okb34.ex nxh100.1
                  have okbh36 := okbh36.ex nxh100.1
                  have okb43 := okb43.ex nxh100.1
                  have okb46 := okb46.ex nxh100.1
                  have okbh48 := okbh48.ex nxh100.1
                  have okb55 := okb55.ex nxh100.1
                  have okb58 := okb58.ex nxh100.1
                  have okbh60 := okbh60.ex nxh100.1
                  have okb67 := okb67.ex nxh100.1
                  have okb70 := okb70.ex nxh100.1
                  have okbh72 := okbh72.ex nxh100.1
                  have okb79 := okb79.ex nxh100.1
                  have okb82 := okb82.ex nxh100.1
                  have okbh84 := okbh84.ex nxh100.1
                  have okb91 := okb91.ex nxh100.1
                  have okb94 := okb94.ex nxh100.1
                  have okbh96 := okbh96.ex nxh100.1
                  refine y_iinc (c := 1) (pc := 53) dX1_init_53 rfl (by decide) (by decide) (fun v102 ev102 => ?_)
                  have hwp := hwp v102 ev102
                  refine x_lvE (lv2 := [(1, .int v102), (0, .ref l0)]) rfl ?_
                  refine x_goto (tgt := 31) (pc := 56) dX1_init_56 (by decide) ?_
                  refine x_iload_n (pc := 31) dX1_init_31 rfl ?_
                  refine x_aload_n (pc := 32) dX1_init_32 rfl ?_
                  obtain ⟨b103, e104, hwp⟩ := hwp
                  refine x_getR (pc := 33) dX1_init_33 qRX1_11 okl0 e104 (fun okb103 => ?_)
                  refine x_alen (pc := 36) dX1_init_36 okb103 (by decide) ?_
                  refine x_icmp_ge (tgt := 59) (pc := 37) dX1_init_37 (by decide) (fun c105 => ?_) (fun c105 => ?_)
                  · have hwp := hwp.1 c105
                    exact absurd hwp (fun w => w)
                  · have hwp := hwp.2 c105
                    refine x_aload_n (pc := 40) dX1_init_40 rfl ?_
                    obtain ⟨b106, e107, hwp⟩ := hwp
                    refine x_getR (pc := 41) dX1_init_41 qRX1_11 okl0 e107 (fun okb106 => ?_)
                    refine x_iload_n (pc := 44) dX1_init_44 rfl ?_
                    obtain ⟨m109, hwp⟩ := hwp
                    refine y_new (ty := tyX4) (pc := 45) dX1_init_45 qc_4 tyX4_ok (by decide +kernel) cRX1_9 wk_in_ForeverOffice_Part wk_it_ForeverOffice_Part (q_C hnn hzz (by decide) (by decide)) m109 (fun h108 eh108 nwh108 okbh108 => ?_)
                    have hwp := hwp h108 eh108
                    have hex := hex.tr nwh108.1
                    have hnn : qn h108 = qn h + 10 := by have := nwh108.2.1; omega
                    have hzz : qz h108 = qz h + 102 := by have := nwh108.2.2; omega
                    have okl0 := okl0.ex nwh108.1
                    have okbh1 := okbh1.ex nwh108.1
                    have okb7 := okb7.ex nwh108.1
                    have okb10 := okb10.ex nwh108.1
                    have okbh12 := okbh12.ex nwh108.1
                    have okb19 := okb19.ex nwh108.1
                    have okb22 := okb22.ex nwh108.1
                    have okbh24 := okbh24.ex nwh108.1
                    have okb31 := okb31.ex nwh108.1
                    have okb34 := okb34.ex nwh108.1
                    have okbh36 := okbh36.ex nwh108.1
                    have okb43 := okb43.ex nwh108.1
                    have okb46 := okb46.ex nwh108.1
                    have okbh48 := okbh48.ex nwh108.1
                    have okb55 := okb55.ex nwh108.1
                    have okb58 := okb58.ex nwh108.1
                    have okbh60 := okbh60.ex nwh108.1
                    have okb67 := okb67.ex nwh108.1
                    have okb70 := okb70.ex nwh108.1
                    have okbh72 := okbh72.ex nwh108.1
                    have okb79 := okb79.ex nwh108.1
                    have okb82 := okb82.ex nwh108.1
                    have okbh84 := okbh84.ex nwh108.1
                    have okb91 := okb91.ex nwh108.1
                    have okb94 := okb94.ex nwh108.1
                    have okbh96 := okbh96.ex nwh108.1
                    have okb103 := okb103.ex nwh108.1
                    have okb106 := okb106.ex nwh108.1
                    refine x_dup (pc := 48) dX1_init_48 rfl ?_
                    refine x_invI (As := []) (st := [.ref (qn h100), .int v102, .ref b106]) (pc := 49) dX1_init_49 lRX1_27 fX4_init rfl rfl iX4_init rfl (Nat.le_of_ble_eq_true rfl) (q_R (by omega) (by decide)) (q_C hnn hzz (by decide) (by decide)) (sn_X4_init G (d + 0) (qn h100) h108 _ okbh108 hwp) (k_v (fun h110 hwp cxh110 => ?_))
                    have hex := hex.tr cxh110.1
                    have hnn : qn h110 = qn h + 10 := by have := cxh110.2.1; omega
                    have hzz : qz h110 = qz h + 102 := by have := cxh110.2.2; omega
                    have okl0 := okl0.ex cxh110.1
                    have okbh1 := okbh1.ex cxh110.1
                    have okb7 := okb7.ex cxh110.1
                    have okb10 := okb10.ex cxh110.1
                    have okbh12 := okbh12.ex cxh110.1
                    have okb19 := okb19.ex cxh110.1
                    have okb22 := okb22.ex cxh110.1
                    have okbh24 := okbh24.ex cxh110.1
                    have okb31 := okb31.ex cxh110.1
                    have okb34 := okb34.ex cxh110.1
                    have okbh36 := okbh36.ex cxh110.1
                    have okb43 := okb43.ex cxh110.1
                    have okb46 := okb46.ex cxh110.1
                    have okbh48 := okbh48.ex cxh110.1
                    have okb55 := okb55.ex cxh110.1
                    have okb58 := okb58.ex cxh110.1
                    have okbh60 := okbh60.ex cxh110.1
                    have okb67 := okb67.ex cxh110.1
                    have okb70 := okb70.ex cxh110.1
                    have okbh72 := okbh72.ex cxh110.1
                    have okb79 := okb79.ex cxh110.1
                    have okb82 := okb82.ex cxh110.1
                    have okbh84 := okbh84.ex cxh110.1
                    have okb91 := okb91.ex cxh110.1
                    have okb94 := okb94.ex cxh110.1
                    have okbh96 := okbh96.ex cxh110.1
                    have okb103 := okb103.ex cxh110.1
                    have okb106 := okb106.ex cxh110.1
                    have okbh108 := okbh108.ex cxh110.1
                    obtain ⟨i113, hwp⟩ := hwp
                    refine y_aastore (t := 18) (pc := 52) dX1_init_52 okb106 (by decide) okbh108 i113 (fun h112 eh112 nxh112 => ?_)
                    have hwp := hwp h112 eh112
                    have hex := hex.tr nxh112.1
                    have hnn := nxh112.2.1.trans hnn
                    have hzz := nxh112.2.2.trans hzz
                    have okl0 := okl0.ex nxh112.1
                    have okbh1 := okbh1.ex nxh112.1
                    have okb7 := okb7.ex nxh112.1
                    have okb10 := okb10.ex nxh112.1
                    have okbh12 := okbh12.ex nxh112.1
                    have okb19 := okb19.ex nxh112.1
                    have okb22 := okb22.ex nxh112.1
                    have okbh24 := okbh24.ex nxh112.1
                    have okb31 := okb31.ex nxh112.1
                    have okb34 := okb34.ex nxh112.1
                    have okbh36 := okbh36.ex nxh112.1
                    have okb43 := okb43.ex nxh112.1
                    have okb46 := okb46.ex nxh112.1
                    have okbh48 := okbh48.ex nxh112.1
                    have okb55 := okb55.ex nxh112.1
                    have okb58 := okb58.ex nxh112.1
                    have okbh60 := okbh60.ex nxh112.1
                    have okb67 := okb67.ex nxh112.1
                    have okb70 := okb70.ex nxh112.1
                    have okbh72 := okbh72.ex nxh112.1
                    have okb79 := okb79.ex nxh112.1
                    have okb82 := okb82.ex nxh112.1
                    have okbh84 := okbh84.ex nxh112.1
                    have okb91 := okb91.ex nxh112.1
                    have okb94 := okb94.ex nxh112.1
                    have okbh96 := okbh96.ex nxh112.1
                    have okb103 := okb103.ex nxh112.1
                    have okb106 := okb106.ex nxh112.1
                    have okbh108 := okbh108.ex nxh112.1
                    refine y_iinc (c := 1) (pc := 53) dX1_init_53 rfl (by decide) (by decide) (fun v114 ev114 => ?_)
                    have hwp := hwp v114 ev114
                    refine x_lvE (lv2 := [(1, .int v114), (0, .ref l0)]) rfl ?_
                    refine x_goto (tgt := 31) (pc := 56) dX1_init_56 (by decide) ?_
                    refine x_iload_n (pc := 31) dX1_init_31 rfl ?_
                    refine x_aload_n (pc := 32) dX1_init_32 rfl ?_
                    obtain ⟨b115, e116, hwp⟩ := hwp
                    refine x_getR (pc := 33) dX1_init_33 qRX1_11 okl0 e116 (fun okb115 => ?_)
                    refine x_alen (pc := 36) dX1_init_36 okb115 (by decide) ?_
                    refine x_icmp_ge (tgt := 59) (pc := 37) dX1_init_37 (by decide) (fun c117 => ?_) (fun c117 => ?_)
                    · have hwp := hwp.1 c117
                      exact absurd hwp (fun w => w)
                    · have hwp := hwp.2 c117
                      refine x_aload_n (pc := 40) dX1_init_40 rfl ?_
                      obtain ⟨b118, e119, hwp⟩ := hwp
                      refine x_getR (pc := 41) dX1_init_41 qRX1_11 okl0 e119 (fun okb118 => ?_)
                      refine x_iload_n (pc := 44) dX1_init_44 rfl ?_
                      obtain ⟨m121, hwp⟩ := hwp
                      refine y_new (ty := tyX4) (pc := 45) dX1_init_45 qc_4 tyX4_ok (by decide +kernel) cRX1_9 wk_in_ForeverOffice_Part wk_it_ForeverOffice_Part (q_C hnn hzz (by decide) (by decide)) m121 (fun h120 eh120 nwh120 okbh120 => ?_)
                      have hwp := hwp h120 eh120
                      have hex := hex.tr nwh120.1
                      have hnn : qn h120 = qn h + 11 := by have := nwh120.2.1; omega
                      have hzz : qz h120 = qz h + 112 := by have := nwh120.2.2; omega
                      have okl0 := okl0.ex nwh120.1
                      have okbh1 := okbh1.ex nwh120.1
                      have okb7 := okb7.ex nwh120.1
                      have okb10 := okb10.ex nwh120.1
                      have okbh12 := okbh12.ex nwh120.1
                      have okb19 := okb19.ex nwh120.1
                      have okb22 := okb22.ex nwh120.1
                      have okbh24 := okbh24.ex nwh120.1
                      have okb31 := okb31.ex nwh120.1
                      have okb34 := okb34.ex nwh120.1
                      have okbh36 := okbh36.ex nwh120.1
                      have okb43 := okb43.ex nwh120.1
                      have okb46 := okb46.ex nwh120.1
                      have okbh48 := okbh48.ex nwh120.1
                      have okb55 := okb55.ex nwh120.1
                      have okb58 := okb58.ex nwh120.1
                      have okbh60 := okbh60.ex nwh120.1
                      have okb67 := okb67.ex nwh120.1
                      have okb70 := okb70.ex nwh120.1
                      have okbh72 := okbh72.ex nwh120.1
                      have okb79 := okb79.ex nwh120.1
                      have okb82 := okb82.ex nwh120.1
                      have okbh84 := okbh84.ex nwh120.1
                      have okb91 := okb91.ex nwh120.1
                      have okb94 := okb94.ex nwh120.1
                      have okbh96 := okbh96.ex nwh120.1
                      have okb103 := okb103.ex nwh120.1
                      have okb106 := okb106.ex nwh120.1
                      have okbh108 := okbh108.ex nwh120.1
                      have okb115 := okb115.ex nwh120.1
                      have okb118 := okb118.ex nwh120.1
                      refine x_dup (pc := 48) dX1_init_48 rfl ?_
                      refine x_invI (As := []) (st := [.ref (qn h112), .int v114, .ref b118]) (pc := 49) dX1_init_49 lRX1_27 fX4_init rfl rfl iX4_init rfl (Nat.le_of_ble_eq_true rfl) (q_R (by omega) (by decide)) (q_C hnn hzz (by decide) (by decide)) (sn_X4_init G (d + 0) (qn h112) h120 _ okbh120 hwp) (k_v (fun h122 hwp cxh122 => ?_))
                      have hex := hex.tr cxh122.1
                      have hnn : qn h122 = qn h + 11 := by have := cxh122.2.1; omega
                      have hzz : qz h122 = qz h + 112 := by have := cxh122.2.2; omega
                      have okl0 := okl0.ex cxh122.1
                      have okbh1 := okbh1.ex cxh122.1
                      have okb7 := okb7.ex cxh122.1
                      have okb10 := okb10.ex cxh122.1
                      have okbh12 := okbh12.ex cxh122.1
                      have okb19 := okb19.ex cxh122.1
                      have okb22 := okb22.ex cxh122.1
                      have okbh24 := okbh24.ex cxh122.1
                      have okb31 := okb31.ex cxh122.1
                      have okb34 := okb34.ex cxh122.1
                      have okbh36 := okbh36.ex cxh122.1
                      have okb43 := okb43.ex cxh122.1
                      have okb46 := okb46.ex cxh122.1
                      have okbh48 := okbh48.ex cxh122.1
                      have okb55 := okb55.ex cxh122.1
                      have okb58 := okb58.ex cxh122.1
                      have okbh60 := okbh60.ex cxh122.1
                      have okb67 := okb67.ex cxh122.1
                      have okb70 := okb70.ex cxh122.1
                      have okbh72 := okbh72.ex cxh122.1
                      have okb79 := okb79.ex cxh122.1
                      have okb82 := okb82.ex cxh122.1
                      have okbh84 := okbh84.ex cxh122.1
                      have okb91 := okb91.ex cxh122.1
                      have okb94 := okb94.ex cxh122.1
                      have okbh96 := okbh96.ex cxh122.1
                      have okb103 := okb103.ex cxh122.1
                      have okb106 := okb106.ex cxh122.1
                      have okbh108 := okbh108.ex cxh122.1
                      have okb115 := okb115.ex cxh122.1
                      have okb118 := okb118.ex cxh122.1
                      have okbh120 := okbh120.ex cxh122.1
                      obtain ⟨i125, hwp⟩ := hwp
                      refine y_aastore (t := 18) (pc := 52) dX1_init_52 okb118 (by decide) okbh120 i125 (fun h124 eh124 nxh124 => ?_)
                      have hwp := hwp h124 eh124
                      have hex := hex.tr nxh124.1
                      have hnn := nxh124.2.1.trans hnn
                      have hzz := nxh124.2.2.trans hzz
                      have okl0 := okl0.ex nxh124.1
                      have okbh1 := okbh1.ex nxh124.1
                      have okb7 := okb7.ex nxh124.1
                      have okb10 := okb10.ex nxh124.1
                      have okbh12 := okbh12.ex nxh124.1
                      have okb19 := okb19.ex nxh124.1
                      have okb22 := okb22.ex nxh124.1
                      have okbh24 := okbh24.ex nxh124.1
                      have okb31 := okb31.ex nxh124.1
                      have okb34 := okb34.ex nxh124.1
                      have okbh36 := okbh36.ex nxh124.1
                      have okb43 := okb43.ex nxh124.1
                      have okb46 := okb46.ex nxh124.1
                      have okbh48 := okbh48.ex nxh124.1
                      have okb55 := okb55.ex nxh124.1
                      have okb58 := okb58.ex nxh124.1
                      have okbh60 := okbh60.ex nxh124.1
                      have okb67 := okb67.ex nxh124.1
                      have okb70 := okb70.ex nxh124.1
                      have okbh72 := okbh72.ex nxh124.1
                      have okb79 := okb79.ex nxh124.1
                      have okb82 := okb82.ex nxh124.1
                      have okbh84 := okbh84.ex nxh124.1
                      have okb91 := okb91.ex nxh124.1
                      have okb94 := okb94.ex nxh124.1
                      have okbh96 := okbh96.ex nxh124.1
                      have okb103 := okb103.ex nxh124.1
                      have okb106 := okb106.ex nxh124.1
                      have okbh108 := okbh108.ex nxh124.1
                      have okb115 := okb115.ex nxh124.1
                      have okb118 := okb118.ex nxh124.1
                      have okbh120 := okbh120.ex nxh124.1
                      refine y_iinc (c := 1) (pc := 53) dX1_init_53 rfl (by decide) (by decide) (fun v126 ev126 => ?_)
                      have hwp := hwp v126 ev126
                      refine x_lvE (lv2 := [(1, .int v126), (0, .ref l0)]) rfl ?_
                      refine x_goto (tgt := 31) (pc := 56) dX1_init_56 (by decide) ?_
                      refine x_iload_n (pc := 31) dX1_init_31 rfl ?_
                      refine x_aload_n (pc := 32) dX1_init_32 rfl ?_
                      obtain ⟨b127, e128, hwp⟩ := hwp
                      refine x_getR (pc := 33) dX1_init_33 qRX1_11 okl0 e128 (fun okb127 => ?_)
                      refine x_alen (pc := 36) dX1_init_36 okb127 (by decide) ?_
                      refine x_icmp_ge (tgt := 59) (pc := 37) dX1_init_37 (by decide) (fun c129 => ?_) (fun c129 => ?_)
                      · have hwp := hwp.1 c129
                        exact absurd hwp (fun w => w)
                      · have hwp := hwp.2 c129
                        refine x_aload_n (pc := 40) dX1_init_40 rfl ?_
                        obtain ⟨b130, e131, hwp⟩ := hwp
                        refine x_getR (pc := 41) dX1_init_41 qRX1_11 okl0 e131 (fun okb130 => ?_)
                        refine x_iload_n (pc := 44) dX1_init_44 rfl ?_
                        obtain ⟨m133, hwp⟩ := hwp
                        refine y_new (ty := tyX4) (pc := 45) dX1_init_45 qc_4 tyX4_ok (by decide +kernel) cRX1_9 wk_in_ForeverOffice_Part wk_it_ForeverOffice_Part (q_C hnn hzz (by decide) (by decide)) m133 (fun h132 eh132 nwh132 okbh132 => ?_)
                        have hwp := hwp h132 eh132
                        have hex := hex.tr nwh132.1
                        have hnn : qn h132 = qn h + 12 := by have := nwh132.2.1; omega
                        have hzz : qz h132 = qz h + 122 := by have := nwh132.2.2; omega
                        have okl0 := okl0.ex nwh132.1
                        have okbh1 := okbh1.ex nwh132.1
                        have okb7 := okb7.ex nwh132.1
                        have okb10 := okb10.ex nwh132.1
                        have okbh12 := okbh12.ex nwh132.1
                        have okb19 := okb19.ex nwh132.1
                        have okb22 := okb22.ex nwh132.1
                        have okbh24 := okbh24.ex nwh132.1
                        have okb31 := okb31.ex nwh132.1
                        have okb34 := okb34.ex nwh132.1
                        have okbh36 := okbh36.ex nwh132.1
                        have okb43 := okb43.ex nwh132.1
                        have okb46 := okb46.ex nwh132.1
                        have okbh48 := okbh48.ex nwh132.1
                        have okb55 := okb55.ex nwh132.1
                        have okb58 := okb58.ex nwh132.1
                        have okbh60 := okbh60.ex nwh132.1
                        have okb67 := okb67.ex nwh132.1
                        have okb70 := okb70.ex nwh132.1
                        have okbh72 := okbh72.ex nwh132.1
                        have okb79 := okb79.ex nwh132.1
                        have okb82 := okb82.ex nwh132.1
                        have okbh84 := okbh84.ex nwh132.1
                        have okb91 := okb91.ex nwh132.1
                        have okb94 := okb94.ex nwh132.1
                        have okbh96 := okbh96.ex nwh132.1
                        have okb103 := okb103.ex nwh132.1
                        have okb106 := okb106.ex nwh132.1
                        have okbh108 := okbh108.ex nwh132.1
                        have okb115 := okb115.ex nwh132.1
                        have okb118 := okb118.ex nwh132.1
                        have okbh120 := okbh120.ex nwh132.1
                        have okb127 := okb127.ex nwh132.1
                        have okb130 := okb130.ex nwh132.1
                        refine x_dup (pc := 48) dX1_init_48 rfl ?_
                        refine x_invI (As := []) (st := [.ref (qn h124), .int v126, .ref b130]) (pc := 49) dX1_init_49 lRX1_27 fX4_init rfl rfl iX4_init rfl (Nat.le_of_ble_eq_true rfl) (q_R (by omega) (by decide)) (q_C hnn hzz (by decide) (by decide)) (sn_X4_init G (d + 0) (qn h124) h132 _ okbh132 hwp) (k_v (fun h134 hwp cxh134 => ?_))
                        have hex := hex.tr cxh134.1
                        have hnn : qn h134 = qn h + 12 := by have := cxh134.2.1; omega
                        have hzz : qz h134 = qz h + 122 := by have := cxh134.2.2; omega
                        have okl0 := okl0.ex cxh134.1
                        have okbh1 := okbh1.ex cxh134.1
                        have okb7 := okb7.ex cxh134.1
                        have okb10 := okb10.ex cxh134.1
                        have okbh12 := okbh12.ex cxh134.1
                        have okb19 := okb19.ex cxh134.1
                        have okb22 := okb22.ex cxh134.1
                        have okbh24 := okbh24.ex cxh134.1
                        have okb31 := okb31.ex cxh134.1
                        have okb34 := okb34.ex cxh134.1
                        have okbh36 := okbh36.ex cxh134.1
                        have okb43 := okb43.ex cxh134.1
                        have okb46 := okb46.ex cxh134.1
                        have okbh48 := okbh48.ex cxh134.1
                        have okb55 := okb55.ex cxh134.1
                        have okb58 := okb58.ex cxh134.1
                        have okbh60 := okbh60.ex cxh134.1
                        have okb67 := okb67.ex cxh134.1
                        have okb70 := okb70.ex cxh134.1
                        have okbh72 := okbh72.ex cxh134.1
                        have okb79 := okb79.ex cxh134.1
                        have okb82 := okb82.ex cxh134.1
                        have okbh84 := okbh84.ex cxh134.1
                        have okb91 := okb91.ex cxh134.1
                        have okb94 := okb94.ex cxh134.1
                        have okbh96 := okbh96.ex cxh134.1
                        have okb103 := okb103.ex cxh134.1
                        have okb106 := okb106.ex cxh134.1
                        have okbh108 := okbh108.ex cxh134.1
                        have okb115 := okb115.ex cxh134.1
                        have okb118 := okb118.ex cxh134.1
                        have okbh120 := okbh120.ex cxh134.1
                        have okb127 := okb127.ex cxh134.1
                        have okb130 := okb130.ex cxh134.1
                        have okbh132 := okbh132.ex cxh134.1
                        obtain ⟨i137, hwp⟩ := hwp
                        refine y_aastore (t := 18) (pc := 52) dX1_init_52 okb130 (by decide) okbh132 i137 (fun h136 eh136 nxh136 => ?_)
                        have hwp := hwp h136 eh136
                        have hex := hex.tr nxh136.1
                        have hnn := nxh136.2.1.trans hnn
                        have hzz := nxh136.2.2.trans hzz
                        have okl0 := okl0.ex nxh136.1
                        have okbh1 := okbh1.ex nxh136.1
                        have okb7 := okb7.ex nxh136.1
                        have okb10 := okb10.ex nxh136.1
                        have okbh12 := okbh12.ex nxh136.1
                        have okb19 := okb19.ex nxh136.1
                        have okb22 := okb22.ex nxh136.1
                        have okbh24 := okbh24.ex nxh136.1
                        have okb31 := okb31.ex nxh136.1
                        have okb34 := okb34.ex nxh136.1
                        have okbh36 := okbh36.ex nxh136.1
                        have okb43 := okb43.ex nxh136.1
                        have okb46 := okb46.ex nxh136.1
                        have okbh48 := okbh48.ex nxh136.1
                        have okb55 := okb55.ex nxh136.1
                        have okb58 := okb58.ex nxh136.1
                        have okbh60 := okbh60.ex nxh136.1
                        have okb67 := okb67.ex nxh136.1
                        have okb70 := okb70.ex nxh136.1
                        have okbh72 := okbh72.ex nxh136.1
                        have okb79 := okb79.ex nxh136.1
                        have okb82 := okb82.ex nxh136.1
                        have okbh84 := okbh84.ex nxh136.1
                        have okb91 := okb91.ex nxh136.1
                        have okb94 := okb94.ex nxh136.1
                        have okbh96 := okbh96.ex nxh136.1
                        have okb103 := okb103.ex nxh136.1
                        have okb106 := okb106.ex nxh136.1
                        have okbh108 := okbh108.ex nxh136.1
                        have okb115 := okb115.ex nxh136.1
                        have okb118 := okb118.ex nxh136.1
                        have okbh120 := okbh120.ex nxh136.1
                        have okb127 := okb127.ex nxh136.1
                        have okb130 := okb130.ex nxh136.1
                        have okbh132 := okbh132.ex nxh136.1
                        refine y_iinc (c := 1) (pc := 53) dX1_init_53 rfl (by decide) (by decide) (fun v138 ev138 => ?_)
                        have hwp := hwp v138 ev138
                        refine x_lvE (lv2 := [(1, .int v138), (0, .ref l0)]) rfl ?_
                        refine x_goto (tgt := 31) (pc := 56) dX1_init_56 (by decide) ?_
                        refine x_iload_n (pc := 31) dX1_init_31 rfl ?_
                        refine x_aload_n (pc := 32) dX1_init_32 rfl ?_
                        obtain ⟨b139, e140, hwp⟩ := hwp
                        refine x_getR (pc := 33) dX1_init_33 qRX1_11 okl0 e140 (fun okb139 => ?_)
                        refine x_alen (pc := 36) dX1_init_36 okb139 (by decide) ?_
                        refine x_icmp_ge (tgt := 59) (pc := 37) dX1_init_37 (by decide) (fun c141 => ?_) (fun c141 => ?_)
                        · have hwp := hwp.1 c141
                          exact absurd hwp (fun w => w)
                        · have hwp := hwp.2 c141
                          refine x_aload_n (pc := 40) dX1_init_40 rfl ?_
                          obtain ⟨b142, e143, hwp⟩ := hwp
                          refine x_getR (pc := 41) dX1_init_41 qRX1_11 okl0 e143 (fun okb142 => ?_)
                          refine x_iload_n (pc := 44) dX1_init_44 rfl ?_
                          obtain ⟨m145, hwp⟩ := hwp
                          refine y_new (ty := tyX4) (pc := 45) dX1_init_45 qc_4 tyX4_ok (by decide +kernel) cRX1_9 wk_in_ForeverOffice_Part wk_it_ForeverOffice_Part (q_C hnn hzz (by decide) (by decide)) m145 (fun h144 eh144 nwh144 okbh144 => ?_)
                          have hwp := hwp h144 eh144
                          have hex := hex.tr nwh144.1
                          have hnn : qn h144 = qn h + 13 := by have := nwh144.2.1; omega
                          have hzz : qz h144 = qz h + 132 := by have := nwh144.2.2; omega
                          have okl0 := okl0.ex nwh144.1
                          have okbh1 := okbh1.ex nwh144.1
                          have okb7 := okb7.ex nwh144.1
                          have okb10 := okb10.ex nwh144.1
                          have okbh12 := okbh12.ex nwh144.1
                          have okb19 := okb19.ex nwh144.1
                          have okb22 := okb22.ex nwh144.1
                          have okbh24 := okbh24.ex nwh144.1
                          have okb31 := okb31.ex nwh144.1
                          have okb34 := okb34.ex nwh144.1
                          have okbh36 := okbh36.ex nwh144.1
                          have okb43 := okb43.ex nwh144.1
                          have okb46 := okb46.ex nwh144.1
                          have okbh48 := okbh48.ex nwh144.1
                          have okb55 := okb55.ex nwh144.1
                          have okb58 := okb58.ex nwh144.1
                          have okbh60 := okbh60.ex nwh144.1
                          have okb67 := okb67.ex nwh144.1
                          have okb70 := okb70.ex nwh144.1
                          have okbh72 := okbh72.ex nwh144.1
                          have okb79 := okb79.ex nwh144.1
                          have okb82 := okb82.ex nwh144.1
                          have okbh84 := okbh84.ex nwh144.1
                          have okb91 := okb91.ex nwh144.1
                          have okb94 := okb94.ex nwh144.1
                          have okbh96 := okbh96.ex nwh144.1
                          have okb103 := okb103.ex nwh144.1
                          have okb106 := okb106.ex nwh144.1
                          have okbh108 := okbh108.ex nwh144.1
                          have okb115 := okb115.ex nwh144.1
                          have okb118 := okb118.ex nwh144.1
                          have okbh120 := okbh120.ex nwh144.1
                          have okb127 := okb127.ex nwh144.1
                          have okb130 := okb130.ex nwh144.1
                          have okbh132 := okbh132.ex nwh144.1
                          have okb139 := okb139.ex nwh144.1
                          have okb142 := okb142.ex nwh144.1
                          refine x_dup (pc := 48) dX1_init_48 rfl ?_
                          refine x_invI (As := []) (st := [.ref (qn h136), .int v138, .ref b142]) (pc := 49) dX1_init_49 lRX1_27 fX4_init rfl rfl iX4_init rfl (Nat.le_of_ble_eq_true rfl) (q_R (by omega) (by decide)) (q_C hnn hzz (by decide) (by decide)) (sn_X4_init G (d + 0) (qn h136) h144 _ okbh144 hwp) (k_v (fun h146 hwp cxh146 => ?_))
                          have hex := hex.tr cxh146.1
                          have hnn : qn h146 = qn h + 13 := by have := cxh146.2.1; omega
                          have hzz : qz h146 = qz h + 132 := by have := cxh146.2.2; omega
                          have okl0 := okl0.ex cxh146.1
                          have okbh1 := okbh1.ex cxh146.1
                          have okb7 := okb7.ex cxh146.1
                          have okb10 := okb10.ex cxh146.1
                          have okbh12 := okbh12.ex cxh146.1
                          have okb19 := okb19.ex cxh146.1
                          have okb22 := okb22.ex cxh146.1
                          have okbh24 := okbh24.ex cxh146.1
                          have okb31 := okb31.ex cxh146.1
                          have okb34 := okb34.ex cxh146.1
                          have okbh36 := okbh36.ex cxh146.1
                          have okb43 := okb43.ex cxh146.1
                          have okb46 := okb46.ex cxh146.1
                          have okbh48 := okbh48.ex cxh146.1
                          have okb55 := okb55.ex cxh146.1
                          have okb58 := okb58.ex cxh146.1
                          have okbh60 := okbh60.ex cxh146.1
                          have okb67 := okb67.ex cxh146.1
                          have okb70 := okb70.ex cxh146.1
                          have okbh72 := okbh72.ex cxh146.1
                          have okb79 := okb79.ex cxh146.1
                          have okb82 := okb82.ex cxh146.1
                          have okbh84 := okbh84.ex cxh146.1
                          have okb91 := okb91.ex cxh146.1
                          have okb94 := okb94.ex cxh146.1
                          have okbh96 := okbh96.ex cxh146.1
                          have okb103 := okb103.ex cxh146.1
                          have okb106 := okb106.ex cxh146.1
                          have okbh108 := okbh108.ex cxh146.1
                          have okb115 := okb115.ex cxh146.1
                          have okb118 := okb118.ex cxh146.1
                          have okbh120 := okbh120.ex cxh146.1
                          have okb127 := okb127.ex cxh146.1
                          have okb130 := okb130.ex cxh146.1
                          have okbh132 := okbh132.ex cxh146.1
                          have okb139 := okb139.ex cxh146.1
                          have okb142 := okb142.ex cxh146.1
                          have okbh144 := okbh144.ex cxh146.1
                          obtain ⟨i149, hwp⟩ := hwp
                          refine y_aastore (t := 18) (pc := 52) dX1_init_52 okb142 (by decide) okbh144 i149 (fun h148 eh148 nxh148 => ?_)
                          have hwp := hwp h148 eh148
                          have hex := hex.tr nxh148.1
                          have hnn := nxh148.2.1.trans hnn
                          have hzz := nxh148.2.2.trans hzz
                          have okl0 := okl0.ex nxh148.1
                          have okbh1 := okbh1.ex nxh148.1
                          have okb7 := okb7.ex nxh148.1
                          have okb10 := okb10.ex nxh148.1
                          have okbh12 := okbh12.ex nxh148.1
                          have okb19 := okb19.ex nxh148.1
                          have okb22 := okb22.ex nxh148.1
                          have okbh24 := okbh24.ex nxh148.1
                          have okb31 := okb31.ex nxh148.1
                          have okb34 := okb34.ex nxh148.1
                          have okbh36 := okbh36.ex nxh148.1
                          have okb43 := okb43.ex nxh148.1
                          have okb46 := okb46.ex nxh148.1
                          have okbh48 := okbh48.ex nxh148.1
                          have okb55 := okb55.ex nxh148.1
                          have okb58 := okb58.ex nxh148.1
                          have okbh60 := okbh60.ex nxh148.1
                          have okb67 := okb67.ex nxh148.1
                          have okb70 := okb70.ex nxh148.1
                          have okbh72 := okbh72.ex nxh148.1
                          have okb79 := okb79.ex nxh148.1
                          have okb82 := okb82.ex nxh148.1
                          have okbh84 := okbh84.ex nxh148.1
                          have okb91 := okb91.ex nxh148.1
                          have okb94 := okb94.ex nxh148.1
                          have okbh96 := okbh96.ex nxh148.1
                          have okb103 := okb103.ex nxh148.1
                          have okb106 := okb106.ex nxh148.1
                          have okbh108 := okbh108.ex nxh148.1
                          have okb115 := okb115.ex nxh148.1
                          have okb118 := okb118.ex nxh148.1
                          have okbh120 := okbh120.ex nxh148.1
                          have okb127 := okb127.ex nxh148.1
                          have okb130 := okb130.ex nxh148.1
                          have okbh132 := okbh132.ex nxh148.1
                          have okb139 := okb139.ex nxh148.1
                          have okb142 := okb142.ex nxh148.1
                          have okbh144 := okbh144.ex nxh148.1
                          refine y_iinc (c := 1) (pc := 53) dX1_init_53 rfl (by decide) (by decide) (fun v150 ev150 => ?_)
                          have hwp := hwp v150 ev150
                          refine x_lvE (lv2 := [(1, .int v150), (0, .ref l0)]) rfl ?_
                          refine x_goto (tgt := 31) (pc := 56) dX1_init_56 (by decide) ?_
                          refine x_iload_n (pc := 31) dX1_init_31 rfl ?_
                          refine x_aload_n (pc := 32) dX1_init_32 rfl ?_
                          obtain ⟨b151, e152, hwp⟩ := hwp
                          refine x_getR (pc := 33) dX1_init_33 qRX1_11 okl0 e152 (fun okb151 => ?_)
                          refine x_alen (pc := 36) dX1_init_36 okb151 (by decide) ?_
                          refine x_icmp_ge (tgt := 59) (pc := 37) dX1_init_37 (by decide) (fun c153 => ?_) (fun c153 => ?_)
                          · have hwp := hwp.1 c153
                            exact x_vret (pc := 59) dX1_init_59 rfl hex hnn hzz ⟨rfl, hwp⟩
                          · have hwp := hwp.2 c153
                            refine x_aload_n (pc := 40) dX1_init_40 rfl ?_
                            obtain ⟨b154, e155, hwp⟩ := hwp
                            refine x_getR (pc := 41) dX1_init_41 qRX1_11 okl0 e155 (fun okb154 => ?_)
                            refine x_iload_n (pc := 44) dX1_init_44 rfl ?_
                            exact absurd hwp (fun w => w)

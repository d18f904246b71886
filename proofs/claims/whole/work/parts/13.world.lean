theorem dX8_valueAt_0 : decode cX8_valueAt 0 = .ok (.iload_n 1, 1) := by decide +kernel
theorem dX8_valueAt_1 : decode cX8_valueAt 1 = .ok (.ifCond .lt 17, 3) := by decide +kernel
theorem dX8_valueAt_4 : decode cX8_valueAt 4 = .ok (.iload_n 1, 1) := by decide +kernel
theorem dX8_valueAt_5 : decode cX8_valueAt 5 = .ok (.bipush 8, 2) := by decide +kernel
theorem dX8_valueAt_7 : decode cX8_valueAt 7 = .ok (.if_icmp .ge 11, 3) := by decide +kernel
theorem dX8_valueAt_10 : decode cX8_valueAt 10 = .ok (.iload_n 2, 1) := by decide +kernel
theorem dX8_valueAt_11 : decode cX8_valueAt 11 = .ok (.aload_n 0, 1) := by decide +kernel
theorem dX8_valueAt_12 : decode cX8_valueAt 12 = .ok (.getfield 29, 3) := by decide +kernel
theorem dX8_valueAt_15 : decode cX8_valueAt 15 = .ok (.if_icmp .lt 5, 3) := by decide +kernel
theorem dX8_valueAt_18 : decode cX8_valueAt 18 = .ok (.iconst 0, 1) := by decide +kernel
theorem dX8_valueAt_19 : decode cX8_valueAt 19 = .ok (.ireturn, 1) := by decide +kernel
theorem dX8_valueAt_20 : decode cX8_valueAt 20 = .ok (.iload_n 2, 1) := by decide +kernel
theorem dX8_valueAt_21 : decode cX8_valueAt 21 = .ok (.ifCond .ge 12, 3) := by decide +kernel
theorem dX8_valueAt_24 : decode cX8_valueAt 24 = .ok (.aload_n 0, 1) := by decide +kernel
theorem dX8_valueAt_25 : decode cX8_valueAt 25 = .ok (.getfield 24, 3) := by decide +kernel
theorem dX8_valueAt_28 : decode cX8_valueAt 28 = .ok (.iload_n 1, 1) := by decide +kernel
theorem dX8_valueAt_29 : decode cX8_valueAt 29 = .ok (.iaload, 1) := by decide +kernel
theorem dX8_valueAt_30 : decode cX8_valueAt 30 = .ok (.goto 14, 3) := by decide +kernel
theorem dX8_valueAt_33 : decode cX8_valueAt 33 = .ok (.aload_n 0, 1) := by decide +kernel
theorem dX8_valueAt_34 : decode cX8_valueAt 34 = .ok (.getfield 21, 3) := by decide +kernel
theorem dX8_valueAt_37 : decode cX8_valueAt 37 = .ok (.iload_n 1, 1) := by decide +kernel
theorem dX8_valueAt_38 : decode cX8_valueAt 38 = .ok (.bipush 48, 2) := by decide +kernel
theorem dX8_valueAt_40 : decode cX8_valueAt 40 = .ok (.imul, 1) := by decide +kernel
theorem dX8_valueAt_41 : decode cX8_valueAt 41 = .ok (.iload_n 2, 1) := by decide +kernel
theorem dX8_valueAt_42 : decode cX8_valueAt 42 = .ok (.iadd, 1) := by decide +kernel
theorem dX8_valueAt_43 : decode cX8_valueAt 43 = .ok (.iaload, 1) := by decide +kernel
theorem dX8_valueAt_44 : decode cX8_valueAt 44 = .ok (.ireturn, 1) := by decide +kernel
def wp_X8_valueAt (l0 : Nat) (l1 : Int32) (l2 : Int32) (h : PH) (Q : Int32 → PH → Prop) : Prop := ((l1 < 0 → Q 0 h) ∧ (¬ (l1 < 0) → ((8 ≤ l1 → Q 0 h) ∧ (¬ (8 ≤ l1) → ((l2 < (qI h l0 5) → ((0 ≤ l2 → (∃ b5, qR h l0 3 = some b5 ∧ (vp_in ((l1 * 48) + l2) (qL h b5) ∧ Q (qI h b5 ((l1 * 48) + l2).toNatClampNeg) h))) ∧ (¬ (0 ≤ l2) → (∃ b8, qR h l0 4 = some b8 ∧ (vp_in l1 (qL h b8) ∧ Q (qI h b8 l1.toNatClampNeg) h))))) ∧ (¬ (l2 < (qI h l0 5)) → Q 0 h))))))
set_option maxHeartbeats 4000000 in
set_option maxRecDepth 100000 in
theorem sn_X8_valueAt (G : GT) (d : Nat) (l0 : Nat) (l1 : Int32) (l2 : Int32) (h : PH) (Q : Int32 → PH → Prop) (okl0 : qOK h 8 l0) (hwp : wp_X8_valueAt l0 l1 l2 h Q) : Mt G (0 + d) 0 0 mX8_valueAt [.ref l0, .int l1, .int l2] h (qqi Q) := by
  unfold wp_X8_valueAt at hwp
  refine Mt.of (by decide) rfl (Nat.le_of_ble_eq_true rfl) ?_
  have hex := qEx.rf h
  have hnn : qn h = qn h + 0 := rfl
  have hzz : qz h = qz h + 0 := rfl
  refine x_lvE (lv2 := [(0, .ref l0), (1, .int l1), (2, .int l2)]) rfl ?_
  refine x_iload_n (pc := 0) dX8_valueAt_0 rfl ?_
  refine x_if_lt (tgt := 18) (pc := 1) dX8_valueAt_1 (by decide) (fun c1 => ?_) (fun c1 => ?_)
  · have hwp := hwp.1 c1
    refine x_iconst (v := 0) (pc := 18) dX8_valueAt_18 (by decide) ?_
    exact x_iret (pc := 19) dX8_valueAt_19 rfl hex hnn hzz ⟨_, rfl, hwp⟩
  · have hwp := hwp.2 c1
    refine x_iload_n (pc := 4) dX8_valueAt_4 rfl ?_
    refine x_bipush (v := 8) (pc := 5) dX8_valueAt_5 (by decide) ?_
    refine x_icmp_ge (tgt := 18) (pc := 7) dX8_valueAt_7 (by decide) (fun c2 => ?_) (fun c2 => ?_)
    · have hwp := hwp.1 c2
      refine x_iconst (v := 0) (pc := 18) dX8_valueAt_18 (by decide) ?_
      exact x_iret (pc := 19) dX8_valueAt_19 rfl hex hnn hzz ⟨_, rfl, hwp⟩
    · have hwp := hwp.2 c2
      refine x_iload_n (pc := 10) dX8_valueAt_10 rfl ?_
      refine x_aload_n (pc := 11) dX8_valueAt_11 rfl ?_
      refine x_getI (pc := 12) dX8_valueAt_12 qRX8_29 okl0 (by decide) ?_
      refine x_icmp_lt (tgt := 20) (pc := 15) dX8_valueAt_15 (by decide) (fun c3 => ?_) (fun c3 => ?_)
      · have hwp := hwp.1 c3
        refine x_iload_n (pc := 20) dX8_valueAt_20 rfl ?_
        refine x_if_ge (tgt := 33) (pc := 21) dX8_valueAt_21 (by decide) (fun c4 => ?_) (fun c4 => ?_)
        · have hwp := hwp.1 c4
          refine x_aload_n (pc := 33) dX8_valueAt_33 rfl ?_
          obtain ⟨b5, e6, hwp⟩ := hwp
          refine x_getR (pc := 34) dX8_valueAt_34 qRX8_21 okl0 e6 (fun okb5 => ?_)
          refine x_iload_n (pc := 37) dX8_valueAt_37 rfl ?_
          refine x_bipush (v := 48) (pc := 38) dX8_valueAt_38 (by decide) ?_
          refine x_imul (pc := 40) dX8_valueAt_40 ?_
          refine x_iload_n (pc := 41) dX8_valueAt_41 rfl ?_
          refine x_iadd (pc := 42) dX8_valueAt_42 ?_
          obtain ⟨i7, hwp⟩ := hwp
          refine x_iaload (pc := 43) dX8_valueAt_43 okb5 i7 ?_
          exact x_iret (pc := 44) dX8_valueAt_44 rfl hex hnn hzz ⟨_, rfl, hwp⟩
        · have hwp := hwp.2 c4
          refine x_aload_n (pc := 24) dX8_valueAt_24 rfl ?_
          obtain ⟨b8, e9, hwp⟩ := hwp
          refine x_getR (pc := 25) dX8_valueAt_25 qRX8_24 okl0 e9 (fun okb8 => ?_)
          refine x_iload_n (pc := 28) dX8_valueAt_28 rfl ?_
          obtain ⟨i10, hwp⟩ := hwp
          refine x_iaload (pc := 29) dX8_valueAt_29 okb8 i10 ?_
          refine x_goto (tgt := 44) (pc := 30) dX8_valueAt_30 (by decide) ?_
          exact x_iret (pc := 44) dX8_valueAt_44 rfl hex hnn hzz ⟨_, rfl, hwp⟩
      · have hwp := hwp.2 c3
        refine x_iconst (v := 0) (pc := 18) dX8_valueAt_18 (by decide) ?_
        exact x_iret (pc := 19) dX8_valueAt_19 rfl hex hnn hzz ⟨_, rfl, hwp⟩

theorem dX10_after_0 : decode cX10_after 0 = .ok (.iload_n 1, 1) := by decide +kernel
theorem dX10_after_1 : decode cX10_after 1 = .ok (.iconst 1, 1) := by decide +kernel
theorem dX10_after_2 : decode cX10_after 2 = .ok (.iadd, 1) := by decide +kernel
theorem dX10_after_3 : decode cX10_after 3 = .ok (.aload_n 0, 1) := by decide +kernel
theorem dX10_after_4 : decode cX10_after 4 = .ok (.getfield 18, 3) := by decide +kernel
theorem dX10_after_7 : decode cX10_after 7 = .ok (.if_icmp .ge 9, 3) := by decide +kernel
theorem dX10_after_10 : decode cX10_after 10 = .ok (.iload_n 1, 1) := by decide +kernel
theorem dX10_after_11 : decode cX10_after 11 = .ok (.iconst 1, 1) := by decide +kernel
theorem dX10_after_12 : decode cX10_after 12 = .ok (.iadd, 1) := by decide +kernel
theorem dX10_after_13 : decode cX10_after 13 = .ok (.goto 4, 3) := by decide +kernel
theorem dX10_after_16 : decode cX10_after 16 = .ok (.iconst 0, 1) := by decide +kernel
theorem dX10_after_17 : decode cX10_after 17 = .ok (.ireturn, 1) := by decide +kernel
def wp_X10_after (l0 : Nat) (l1 : Int32) (h : PH) (Q : Int32 → PH → Prop) : Prop := (((qI h l0 2) ≤ (l1 + 1) → Q 0 h) ∧ (¬ ((qI h l0 2) ≤ (l1 + 1)) → Q (l1 + 1) h))
set_option maxHeartbeats 4000000 in
set_option maxRecDepth 100000 in
theorem sn_X10_after (G : GT) (d : Nat) (l0 : Nat) (l1 : Int32) (h : PH) (Q : Int32 → PH → Prop) (okl0 : qOK h 9 l0) (hwp : wp_X10_after l0 l1 h Q) : Mt G (0 + d) 0 0 mX10_after [.ref l0, .int l1] h (qqi Q) := by
  unfold wp_X10_after at hwp
  refine Mt.of (by decide) rfl (Nat.le_of_ble_eq_true rfl) ?_
  have hex := qEx.rf h
  have hnn : qn h = qn h + 0 := rfl
  have hzz : qz h = qz h + 0 := rfl
  refine x_lvE (lv2 := [(0, .ref l0), (1, .int l1)]) rfl ?_
  refine x_iload_n (pc := 0) dX10_after_0 rfl ?_
  refine x_iconst (v := 1) (pc := 1) dX10_after_1 (by decide) ?_
  refine x_iadd (pc := 2) dX10_after_2 ?_
  refine x_aload_n (pc := 3) dX10_after_3 rfl ?_
  refine x_getI (pc := 4) dX10_after_4 qRX10_18 okl0 (by decide) ?_
  refine x_icmp_ge (tgt := 16) (pc := 7) dX10_after_7 (by decide) (fun c1 => ?_) (fun c1 => ?_)
  · have hwp := hwp.1 c1
    refine x_iconst (v := 0) (pc := 16) dX10_after_16 (by decide) ?_
    exact x_iret (pc := 17) dX10_after_17 rfl hex hnn hzz ⟨_, rfl, hwp⟩
  · have hwp := hwp.2 c1
    refine x_iload_n (pc := 10) dX10_after_10 rfl ?_
    refine x_iconst (v := 1) (pc := 11) dX10_after_11 (by decide) ?_
    refine x_iadd (pc := 12) dX10_after_12 ?_
    refine x_goto (tgt := 17) (pc := 13) dX10_after_13 (by decide) ?_
    exact x_iret (pc := 17) dX10_after_17 rfl hex hnn hzz ⟨_, rfl, hwp⟩

theorem dX5_init_0 : decode cX5_init 0 = .ok (.aload_n 0, 1) := by decide +kernel
theorem dX5_init_1 : decode cX5_init 1 = .ok (.invokespecial 3, 3) := by decide +kernel
theorem dX5_init_4 : decode cX5_init 4 = .ok (.aload_n 0, 1) := by decide +kernel
theorem dX5_init_5 : decode cX5_init 5 = .ok (.iconst 0, 1) := by decide +kernel
theorem dX5_init_6 : decode cX5_init 6 = .ok (.putfield 9, 3) := by decide +kernel
theorem dX5_init_9 : decode cX5_init 9 = .ok (.aload_n 0, 1) := by decide +kernel
theorem dX5_init_10 : decode cX5_init 10 = .ok (.iconst 0, 1) := by decide +kernel
theorem dX5_init_11 : decode cX5_init 11 = .ok (.putfield 13, 3) := by decide +kernel
theorem dX5_init_14 : decode cX5_init 14 = .ok (.aload_n 0, 1) := by decide +kernel
theorem dX5_init_15 : decode cX5_init 15 = .ok (.iconst 0, 1) := by decide +kernel
theorem dX5_init_16 : decode cX5_init 16 = .ok (.putfield 17, 3) := by decide +kernel
theorem dX5_init_19 : decode cX5_init 19 = .ok (.aload_n 0, 1) := by decide +kernel
theorem dX5_init_20 : decode cX5_init 20 = .ok (.iconst 0, 1) := by decide +kernel
theorem dX5_init_21 : decode cX5_init 21 = .ok (.putfield 20, 3) := by decide +kernel
theorem dX5_init_24 : decode cX5_init 24 = .ok (.aload_n 0, 1) := by decide +kernel
theorem dX5_init_25 : decode cX5_init 25 = .ok (.iconst 0, 1) := by decide +kernel
theorem dX5_init_26 : decode cX5_init 26 = .ok (.putfield 23, 3) := by decide +kernel
theorem dX5_init_29 : decode cX5_init 29 = .ok (.aload_n 0, 1) := by decide +kernel
theorem dX5_init_30 : decode cX5_init 30 = .ok (.iconst 0, 1) := by decide +kernel
theorem dX5_init_31 : decode cX5_init 31 = .ok (.putfield 26, 3) := by decide +kernel
theorem dX5_init_34 : decode cX5_init 34 = .ok (.aload_n 0, 1) := by decide +kernel
theorem dX5_init_35 : decode cX5_init 35 = .ok (.iconst 0, 1) := by decide +kernel
theorem dX5_init_36 : decode cX5_init 36 = .ok (.putfield 29, 3) := by decide +kernel
theorem dX5_init_39 : decode cX5_init 39 = .ok (.return_, 1) := by decide +kernel
def wp_X5_init (l0 : Nat) (h : PH) (Q : PH → Prop) : Prop := (∀ h1, h1 = qsI h l0 0 0 → (∀ h2, h2 = qsI h1 l0 1 0 → (∀ h3, h3 = qsI h2 l0 2 0 → (∀ h4, h4 = qsI h3 l0 3 0 → (∀ h5, h5 = qsI h4 l0 4 0 → (∀ h6, h6 = qsI h5 l0 5 0 → (∀ h7, h7 = qsI h6 l0 6 0 → Q h7)))))))
set_option maxHeartbeats 4000000 in
set_option maxRecDepth 100000 in
theorem sn_X5_init (G : GT) (d : Nat) (l0 : Nat) (h : PH) (Q : PH → Prop) (okl0 : qOK h 5 l0) (hwp : wp_X5_init l0 h Q) : Mt G (1 + d) 0 0 mX5_init [.ref l0] h (qqv Q) := by
  unfold wp_X5_init at hwp
  refine Mt.of (by decide) rfl (Nat.le_of_ble_eq_true rfl) ?_
  have hex := qEx.rf h
  have hnn : qn h = qn h + 0 := rfl
  have hzz : qz h = qz h + 0 := rfl
  refine x_lvE (lv2 := [(0, .ref l0)]) rfl ?_
  refine x_aload_n (pc := 0) dX5_init_0 rfl ?_
  refine x_objInit (pc := 1) dX5_init_1 lRX5_3 wk_oi wk_oc (q_R1 (by omega)) (Nat.le_of_ble_eq_true rfl) ?_
  refine x_aload_n (pc := 4) dX5_init_4 rfl ?_
  refine x_iconst (v := 0) (pc := 5) dX5_init_5 (by decide) ?_
  refine y_putZ (pc := 6) dX5_init_6 qRX5_9 okl0 (by decide) (fun h1 eh1 nxh1 => ?_)
  have hwp := hwp h1 eh1
  have hex := hex.tr nxh1.1
  have hnn := nxh1.2.1.trans hnn
  have hzz := nxh1.2.2.trans hzz
  have okl0 := okl0.ex nxh1.1
  refine x_aload_n (pc := 9) dX5_init_9 rfl ?_
  refine x_iconst (v := 0) (pc := 10) dX5_init_10 (by decide) ?_
  refine y_putI (pc := 11) dX5_init_11 qRX5_13 okl0 (fun h2 eh2 nxh2 => ?_)
  have hwp := hwp h2 eh2
  have hex := hex.tr nxh2.1
  have hnn := nxh2.2.1.trans hnn
  have hzz := nxh2.2.2.trans hzz
  have okl0 := okl0.ex nxh2.1
  refine x_aload_n (pc := 14) dX5_init_14 rfl ?_
  refine x_iconst (v := 0) (pc := 15) dX5_init_15 (by decide) ?_
  refine y_putI (pc := 16) dX5_init_16 qRX5_17 okl0 (fun h3 eh3 nxh3 => ?_)
  have hwp := hwp h3 eh3
  have hex := hex.tr nxh3.1
  have hnn := nxh3.2.1.trans hnn
  have hzz := nxh3.2.2.trans hzz
  have okl0 := okl0.ex nxh3.1
  refine x_aload_n (pc := 19) dX5_init_19 rfl ?_
  refine x_iconst (v := 0) (pc := 20) dX5_init_20 (by decide) ?_
  refine y_putI (pc := 21) dX5_init_21 qRX5_20 okl0 (fun h4 eh4 nxh4 => ?_)
  have hwp := hwp h4 eh4
  have hex := hex.tr nxh4.1
  have hnn := nxh4.2.1.trans hnn
  have hzz := nxh4.2.2.trans hzz
  have okl0 := okl0.ex nxh4.1
  refine x_aload_n (pc := 24) dX5_init_24 rfl ?_
  refine x_iconst (v := 0) (pc := 25) dX5_init_25 (by decide) ?_
  refine y_putI (pc := 26) dX5_init_26 qRX5_23 okl0 (fun h5 eh5 nxh5 => ?_)
  have hwp := hwp h5 eh5
  have hex := hex.tr nxh5.1
  have hnn := nxh5.2.1.trans hnn
  have hzz := nxh5.2.2.trans hzz
  have okl0 := okl0.ex nxh5.1
  refine x_aload_n (pc := 29) dX5_init_29 rfl ?_
  refine x_iconst (v := 0) (pc := 30) dX5_init_30 (by decide) ?_
  refine y_putI (pc := 31) dX5_init_31 qRX5_26 okl0 (fun h6 eh6 nxh6 => ?_)
  have hwp := hwp h6 eh6
  have hex := hex.tr nxh6.1
  have hnn := nxh6.2.1.trans hnn
  have hzz := nxh6.2.2.trans hzz
  have okl0 := okl0.ex nxh6.1
  refine x_aload_n (pc := 34) dX5_init_34 rfl ?_
  refine x_iconst (v := 0) (pc := 35) dX5_init_35 (by decide) ?_
  refine y_putZ (pc := 36) dX5_init_36 qRX5_29 okl0 (by decide) (fun h7 eh7 nxh7 => ?_)
  have hwp := hwp h7 eh7
  have hex := hex.tr nxh7.1
  have hnn := nxh7.2.1.trans hnn
  have hzz := nxh7.2.2.trans hzz
  have okl0 := okl0.ex nxh7.1
  exact x_vret (pc := 39) dX5_init_39 rfl hex hnn hzz ⟨rfl, hwp⟩

theorem dX5_start_0 : decode cX5_start 0 = .ok (.aload_n 0, 1) := by decide +kernel
theorem dX5_start_1 : decode cX5_start 1 = .ok (.iconst 1, 1) := by decide +kernel
theorem dX5_start_2 : decode cX5_start 2 = .ok (.putfield 9, 3) := by decide +kernel
theorem dX5_start_5 : decode cX5_start 5 = .ok (.aload_n 0, 1) := by decide +kernel
theorem dX5_start_6 : decode cX5_start 6 = .ok (.iload_n 1, 1) := by decide +kernel
theorem dX5_start_7 : decode cX5_start 7 = .ok (.putfield 13, 3) := by decide +kernel
theorem dX5_start_10 : decode cX5_start 10 = .ok (.aload_n 0, 1) := by decide +kernel
theorem dX5_start_11 : decode cX5_start 11 = .ok (.iload_n 2, 1) := by decide +kernel
theorem dX5_start_12 : decode cX5_start 12 = .ok (.putfield 17, 3) := by decide +kernel
theorem dX5_start_15 : decode cX5_start 15 = .ok (.aload_n 0, 1) := by decide +kernel
theorem dX5_start_16 : decode cX5_start 16 = .ok (.iconst 0, 1) := by decide +kernel
theorem dX5_start_17 : decode cX5_start 17 = .ok (.putfield 20, 3) := by decide +kernel
theorem dX5_start_20 : decode cX5_start 20 = .ok (.aload_n 0, 1) := by decide +kernel
theorem dX5_start_21 : decode cX5_start 21 = .ok (.iconst 0, 1) := by decide +kernel
theorem dX5_start_22 : decode cX5_start 22 = .ok (.putfield 23, 3) := by decide +kernel
theorem dX5_start_25 : decode cX5_start 25 = .ok (.aload_n 0, 1) := by decide +kernel
theorem dX5_start_26 : decode cX5_start 26 = .ok (.iload_n 2, 1) := by decide +kernel
theorem dX5_start_27 : decode cX5_start 27 = .ok (.putfield 26, 3) := by decide +kernel
theorem dX5_start_30 : decode cX5_start 30 = .ok (.aload_n 0, 1) := by decide +kernel
theorem dX5_start_31 : decode cX5_start 31 = .ok (.iconst 0, 1) := by decide +kernel
theorem dX5_start_32 : decode cX5_start 32 = .ok (.putfield 29, 3) := by decide +kernel
theorem dX5_start_35 : decode cX5_start 35 = .ok (.return_, 1) := by decide +kernel
def wp_X5_start (l0 : Nat) (l1 : Int32) (l2 : Int32) (h : PH) (Q : PH → Prop) : Prop := (∀ h1, h1 = qsI h l0 0 1 → (∀ h2, h2 = qsI h1 l0 1 l1 → (∀ h3, h3 = qsI h2 l0 2 l2 → (∀ h4, h4 = qsI h3 l0 3 0 → (∀ h5, h5 = qsI h4 l0 4 0 → (∀ h6, h6 = qsI h5 l0 5 l2 → (∀ h7, h7 = qsI h6 l0 6 0 → Q h7)))))))
set_option maxHeartbeats 4000000 in
set_option maxRecDepth 100000 in
theorem sn_X5_start (G : GT) (d : Nat) (l0 : Nat) (l1 : Int32) (l2 : Int32) (h : PH) (Q : PH → Prop) (okl0 : qOK h 5 l0) (hwp : wp_X5_start l0 l1 l2 h Q) : Mt G (0 + d) 0 0 mX5_start [.ref l0, .int l1, .int l2] h (qqv Q) := by
  unfold wp_X5_start at hwp
  refine Mt.of (by decide) rfl (Nat.le_of_ble_eq_true rfl) ?_
  have hex := qEx.rf h
  have hnn : qn h = qn h + 0 := rfl
  have hzz : qz h = qz h + 0 := rfl
  refine x_lvE (lv2 := [(0, .ref l0), (1, .int l1), (2, .int l2)]) rfl ?_
  refine x_aload_n (pc := 0) dX5_start_0 rfl ?_
  refine x_iconst (v := 1) (pc := 1) dX5_start_1 (by decide) ?_
  refine y_putZ (pc := 2) dX5_start_2 qRX5_9 okl0 (by decide) (fun h1 eh1 nxh1 => ?_)
  have hwp := hwp h1 eh1
  have hex := hex.tr nxh1.1
  have hnn := nxh1.2.1.trans hnn
  have hzz := nxh1.2.2.trans hzz
  have okl0 := okl0.ex nxh1.1
  refine x_aload_n (pc := 5) dX5_start_5 rfl ?_
  refine x_iload_n (pc := 6) dX5_start_6 rfl ?_
  refine y_putI (pc := 7) dX5_start_7 qRX5_13 okl0 (fun h2 eh2 nxh2 => ?_)
  have hwp := hwp h2 eh2
  have hex := hex.tr nxh2.1
  have hnn := nxh2.2.1.trans hnn
  have hzz := nxh2.2.2.trans hzz
  have okl0 := okl0.ex nxh2.1
  refine x_aload_n (pc := 10) dX5_start_10 rfl ?_
  refine x_iload_n (pc := 11) dX5_start_11 rfl ?_
  refine y_putI (pc := 12) dX5_start_12 qRX5_17 okl0 (fun h3 eh3 nxh3 => ?_)
  have hwp := hwp h3 eh3
  have hex := hex.tr nxh3.1
  have hnn := nxh3.2.1.trans hnn
  have hzz := nxh3.2.2.trans hzz
  have okl0 := okl0.ex nxh3.1
  refine x_aload_n (pc := 15) dX5_start_15 rfl ?_
  refine x_iconst (v := 0) (pc := 16) dX5_start_16 (by decide) ?_
  refine y_putI (pc := 17) dX5_start_17 qRX5_20 okl0 (fun h4 eh4 nxh4 => ?_)
  have hwp := hwp h4 eh4
  have hex := hex.tr nxh4.1
  have hnn := nxh4.2.1.trans hnn
  have hzz := nxh4.2.2.trans hzz
  have okl0 := okl0.ex nxh4.1
  refine x_aload_n (pc := 20) dX5_start_20 rfl ?_
  refine x_iconst (v := 0) (pc := 21) dX5_start_21 (by decide) ?_
  refine y_putI (pc := 22) dX5_start_22 qRX5_23 okl0 (fun h5 eh5 nxh5 => ?_)
  have hwp := hwp h5 eh5
  have hex := hex.tr nxh5.1
  have hnn := nxh5.2.1.trans hnn
  have hzz := nxh5.2.2.trans hzz
  have okl0 := okl0.ex nxh5.1
  refine x_aload_n (pc := 25) dX5_start_25 rfl ?_
  refine x_iload_n (pc := 26) dX5_start_26 rfl ?_
  refine y_putI (pc := 27) dX5_start_27 qRX5_26 okl0 (fun h6 eh6 nxh6 => ?_)
  have hwp := hwp h6 eh6
  have hex := hex.tr nxh6.1
  have hnn := nxh6.2.1.trans hnn
  have hzz := nxh6.2.2.trans hzz
  have okl0 := okl0.ex nxh6.1
  refine x_aload_n (pc := 30) dX5_start_30 rfl ?_
  refine x_iconst (v := 0) (pc := 31) dX5_start_31 (by decide) ?_
  refine y_putZ (pc := 32) dX5_start_32 qRX5_29 okl0 (by decide) (fun h7 eh7 nxh7 => ?_)
  have hwp := hwp h7 eh7
  have hex := hex.tr nxh7.1
  have hnn := nxh7.2.1.trans hnn
  have hzz := nxh7.2.2.trans hzz
  have okl0 := okl0.ex nxh7.1
  exact x_vret (pc := 35) dX5_start_35 rfl hex hnn hzz ⟨rfl, hwp⟩

theorem dX10_before_0 : decode cX10_before 0 = .ok (.iload_n 1, 1) := by decide +kernel
theorem dX10_before_1 : decode cX10_before 1 = .ok (.ifCond .le 9, 3) := by decide +kernel
theorem dX10_before_4 : decode cX10_before 4 = .ok (.iload_n 1, 1) := by decide +kernel
theorem dX10_before_5 : decode cX10_before 5 = .ok (.iconst 1, 1) := by decide +kernel
theorem dX10_before_6 : decode cX10_before 6 = .ok (.isub, 1) := by decide +kernel
theorem dX10_before_7 : decode cX10_before 7 = .ok (.goto 9, 3) := by decide +kernel
theorem dX10_before_10 : decode cX10_before 10 = .ok (.aload_n 0, 1) := by decide +kernel
theorem dX10_before_11 : decode cX10_before 11 = .ok (.getfield 18, 3) := by decide +kernel
theorem dX10_before_14 : decode cX10_before 14 = .ok (.iconst 1, 1) := by decide +kernel
theorem dX10_before_15 : decode cX10_before 15 = .ok (.isub, 1) := by decide +kernel
theorem dX10_before_16 : decode cX10_before 16 = .ok (.ireturn, 1) := by decide +kernel
def wp_X10_before (l0 : Nat) (l1 : Int32) (h : PH) (Q : Int32 → PH → Prop) : Prop := ((l1 ≤ 0 → Q ((qI h l0 2) - 1) h) ∧ (¬ (l1 ≤ 0) → Q (l1 - 1) h))
set_option maxHeartbeats 4000000 in
set_option maxRecDepth 100000 in
theorem sn_X10_before (G : GT) (d : Nat) (l0 : Nat) (l1 : Int32) (h : PH) (Q : Int32 → PH → Prop) (okl0 : qOK h 9 l0) (hwp : wp_X10_before l0 l1 h Q) : Mt G (0 + d) 0 0 mX10_before [.ref l0, .int l1] h (qqi Q) := by
  unfold wp_X10_before at hwp
  refine Mt.of (by decide) rfl (Nat.le_of_ble_eq_true rfl) ?_
  have hex := qEx.rf h
  have hnn : qn h = qn h + 0 := rfl
  have hzz : qz h = qz h + 0 := rfl
  refine x_lvE (lv2 := [(0, .ref l0), (1, .int l1)]) rfl ?_
  refine x_iload_n (pc := 0) dX10_before_0 rfl ?_
  refine x_if_le (tgt := 10) (pc := 1) dX10_before_1 (by decide) (fun c1 => ?_) (fun c1 => ?_)
  · have hwp := hwp.1 c1
    refine x_aload_n (pc := 10) dX10_before_10 rfl ?_
    refine x_getI (pc := 11) dX10_before_11 qRX10_18 okl0 (by decide) ?_
    refine x_iconst (v := 1) (pc := 14) dX10_before_14 (by decide) ?_
    refine x_isub (pc := 15) dX10_before_15 ?_
    exact x_iret (pc := 16) dX10_before_16 rfl hex hnn hzz ⟨_, rfl, hwp⟩
  · have hwp := hwp.2 c1
    refine x_iload_n (pc := 4) dX10_before_4 rfl ?_
    refine x_iconst (v := 1) (pc := 5) dX10_before_5 (by decide) ?_
    refine x_isub (pc := 6) dX10_before_6 ?_
    refine x_goto (tgt := 16) (pc := 7) dX10_before_7 (by decide) ?_
    exact x_iret (pc := 16) dX10_before_16 rfl hex hnn hzz ⟨_, rfl, hwp⟩

theorem dX5_turn_0 : decode cX5_turn 0 = .ok (.iconst 1, 1) := by decide +kernel
theorem dX5_turn_1 : decode cX5_turn 1 = .ok (.istore_n 2, 1) := by decide +kernel
theorem dX5_turn_2 : decode cX5_turn 2 = .ok (.iconst 0, 1) := by decide +kernel
theorem dX5_turn_3 : decode cX5_turn 3 = .ok (.istore_n 3, 1) := by decide +kernel
theorem dX5_turn_4 : decode cX5_turn 4 = .ok (.iconst 0, 1) := by decide +kernel
theorem dX5_turn_5 : decode cX5_turn 5 = .ok (.istore 4, 2) := by decide +kernel
theorem dX5_turn_7 : decode cX5_turn 7 = .ok (.iload 4, 2) := by decide +kernel
theorem dX5_turn_9 : decode cX5_turn 9 = .ok (.ldc 32, 2) := by decide +kernel
theorem dX5_turn_11 : decode cX5_turn 11 = .ok (.if_icmp .ge 151, 3) := by decide +kernel
theorem dX5_turn_14 : decode cX5_turn 14 = .ok (.aload_n 0, 1) := by decide +kernel
theorem dX5_turn_15 : decode cX5_turn 15 = .ok (.getfield 20, 3) := by decide +kernel
theorem dX5_turn_18 : decode cX5_turn 18 = .ok (.sipush 20000, 3) := by decide +kernel
theorem dX5_turn_21 : decode cX5_turn 21 = .ok (.if_icmp .ge 141, 3) := by decide +kernel
theorem dX5_turn_24 : decode cX5_turn 24 = .ok (.aload_n 0, 1) := by decide +kernel
theorem dX5_turn_25 : decode cX5_turn 25 = .ok (.getfield 29, 3) := by decide +kernel
theorem dX5_turn_28 : decode cX5_turn 28 = .ok (.ifCond .ne 134, 3) := by decide +kernel
theorem dX5_turn_31 : decode cX5_turn 31 = .ok (.aload_n 0, 1) := by decide +kernel
theorem dX5_turn_32 : decode cX5_turn 32 = .ok (.getfield 17, 3) := by decide +kernel
theorem dX5_turn_35 : decode cX5_turn 35 = .ok (.iload_n 2, 1) := by decide +kernel
theorem dX5_turn_36 : decode cX5_turn 36 = .ok (.ifCond .eq 15, 3) := by decide +kernel
theorem dX5_turn_39 : decode cX5_turn 39 = .ok (.aload_n 1, 1) := by decide +kernel
theorem dX5_turn_40 : decode cX5_turn 40 = .ok (.getfield 33, 3) := by decide +kernel
theorem dX5_turn_43 : decode cX5_turn 43 = .ok (.aload_n 0, 1) := by decide +kernel
theorem dX5_turn_44 : decode cX5_turn 44 = .ok (.getfield 13, 3) := by decide +kernel
theorem dX5_turn_47 : decode cX5_turn 47 = .ok (.iaload, 1) := by decide +kernel
theorem dX5_turn_48 : decode cX5_turn 48 = .ok (.goto 12, 3) := by decide +kernel
theorem dX5_turn_51 : decode cX5_turn 51 = .ok (.aload_n 1, 1) := by decide +kernel
theorem dX5_turn_52 : decode cX5_turn 52 = .ok (.getfield 39, 3) := by decide +kernel
theorem dX5_turn_55 : decode cX5_turn 55 = .ok (.aload_n 0, 1) := by decide +kernel
theorem dX5_turn_56 : decode cX5_turn 56 = .ok (.getfield 13, 3) := by decide +kernel
theorem dX5_turn_59 : decode cX5_turn 59 = .ok (.iaload, 1) := by decide +kernel
theorem dX5_turn_60 : decode cX5_turn 60 = .ok (.iadd, 1) := by decide +kernel
theorem dX5_turn_61 : decode cX5_turn 61 = .ok (.istore 5, 2) := by decide +kernel
theorem dX5_turn_63 : decode cX5_turn 63 = .ok (.iload 5, 2) := by decide +kernel
theorem dX5_turn_65 : decode cX5_turn 65 = .ok (.ifCond .lt 64, 3) := by decide +kernel
theorem dX5_turn_68 : decode cX5_turn 68 = .ok (.aload_n 0, 1) := by decide +kernel
theorem dX5_turn_69 : decode cX5_turn 69 = .ok (.iload 5, 2) := by decide +kernel
theorem dX5_turn_71 : decode cX5_turn 71 = .ok (.putfield 17, 3) := by decide +kernel
theorem dX5_turn_74 : decode cX5_turn 74 = .ok (.aload_n 0, 1) := by decide +kernel
theorem dX5_turn_75 : decode cX5_turn 75 = .ok (.iload_n 2, 1) := by decide +kernel
theorem dX5_turn_76 : decode cX5_turn 76 = .ok (.ifCond .eq 14, 3) := by decide +kernel
theorem dX5_turn_79 : decode cX5_turn 79 = .ok (.aload_n 1, 1) := by decide +kernel
theorem dX5_turn_80 : decode cX5_turn 80 = .ok (.aload_n 0, 1) := by decide +kernel
theorem dX5_turn_81 : decode cX5_turn 81 = .ok (.getfield 13, 3) := by decide +kernel
theorem dX5_turn_84 : decode cX5_turn 84 = .ok (.invokevirtual 42, 3) := by decide +kernel
theorem dX5_turn_87 : decode cX5_turn 87 = .ok (.goto 11, 3) := by decide +kernel
theorem dX5_turn_90 : decode cX5_turn 90 = .ok (.aload_n 1, 1) := by decide +kernel
theorem dX5_turn_91 : decode cX5_turn 91 = .ok (.aload_n 0, 1) := by decide +kernel
theorem dX5_turn_92 : decode cX5_turn 92 = .ok (.getfield 13, 3) := by decide +kernel
theorem dX5_turn_95 : decode cX5_turn 95 = .ok (.invokevirtual 46, 3) := by decide +kernel
theorem dX5_turn_98 : decode cX5_turn 98 = .ok (.putfield 13, 3) := by decide +kernel
theorem dX5_turn_101 : decode cX5_turn 101 = .ok (.aload_n 0, 1) := by decide +kernel
theorem dX5_turn_102 : decode cX5_turn 102 = .ok (.aload_n 0, 1) := by decide +kernel
theorem dX5_turn_103 : decode cX5_turn 103 = .ok (.getfield 26, 3) := by decide +kernel
theorem dX5_turn_106 : decode cX5_turn 106 = .ok (.iload 5, 2) := by decide +kernel
theorem dX5_turn_108 : decode cX5_turn 108 = .ok (.invokestatic 49, 3) := by decide +kernel
theorem dX5_turn_111 : decode cX5_turn 111 = .ok (.putfield 26, 3) := by decide +kernel
theorem dX5_turn_114 : decode cX5_turn 114 = .ok (.aload_n 0, 1) := by decide +kernel
theorem dX5_turn_115 : decode cX5_turn 115 = .ok (.dup, 1) := by decide +kernel
theorem dX5_turn_116 : decode cX5_turn 116 = .ok (.getfield 20, 3) := by decide +kernel
theorem dX5_turn_119 : decode cX5_turn 119 = .ok (.iconst 1, 1) := by decide +kernel
theorem dX5_turn_120 : decode cX5_turn 120 = .ok (.iadd, 1) := by decide +kernel
theorem dX5_turn_121 : decode cX5_turn 121 = .ok (.putfield 20, 3) := by decide +kernel
theorem dX5_turn_124 : decode cX5_turn 124 = .ok (.iconst 0, 1) := by decide +kernel
theorem dX5_turn_125 : decode cX5_turn 125 = .ok (.istore_n 3, 1) := by decide +kernel
theorem dX5_turn_126 : decode cX5_turn 126 = .ok (.goto 30, 3) := by decide +kernel
theorem dX5_turn_129 : decode cX5_turn 129 = .ok (.aload_n 0, 1) := by decide +kernel
theorem dX5_turn_130 : decode cX5_turn 130 = .ok (.iload_n 3, 1) := by decide +kernel
theorem dX5_turn_131 : decode cX5_turn 131 = .ok (.putfield 29, 3) := by decide +kernel
theorem dX5_turn_134 : decode cX5_turn 134 = .ok (.iconst 1, 1) := by decide +kernel
theorem dX5_turn_135 : decode cX5_turn 135 = .ok (.istore_n 3, 1) := by decide +kernel
theorem dX5_turn_136 : decode cX5_turn 136 = .ok (.iload_n 2, 1) := by decide +kernel
theorem dX5_turn_137 : decode cX5_turn 137 = .ok (.ifCond .ne 7, 3) := by decide +kernel
theorem dX5_turn_140 : decode cX5_turn 140 = .ok (.iconst 1, 1) := by decide +kernel
theorem dX5_turn_141 : decode cX5_turn 141 = .ok (.goto 4, 3) := by decide +kernel
theorem dX5_turn_144 : decode cX5_turn 144 = .ok (.iconst 0, 1) := by decide +kernel
theorem dX5_turn_145 : decode cX5_turn 145 = .ok (.istore_n 2, 1) := by decide +kernel
theorem dX5_turn_146 : decode cX5_turn 146 = .ok (.aload_n 0, 1) := by decide +kernel
theorem dX5_turn_147 : decode cX5_turn 147 = .ok (.dup, 1) := by decide +kernel
theorem dX5_turn_148 : decode cX5_turn 148 = .ok (.getfield 23, 3) := by decide +kernel
theorem dX5_turn_151 : decode cX5_turn 151 = .ok (.iconst 1, 1) := by decide +kernel
theorem dX5_turn_152 : decode cX5_turn 152 = .ok (.iadd, 1) := by decide +kernel
theorem dX5_turn_153 : decode cX5_turn 153 = .ok (.putfield 23, 3) := by decide +kernel
theorem dX5_turn_156 : decode cX5_turn 156 = .ok (.iinc 4 1, 3) := by decide +kernel
theorem dX5_turn_159 : decode cX5_turn 159 = .ok (.goto (-152), 3) := by decide +kernel
theorem dX5_turn_162 : decode cX5_turn 162 = .ok (.return_, 1) := by decide +kernel
def E_X5_turn_7 (G : GT) (d : Nat) (h0 hb : PH) (l0 : Nat) (l1 : Nat) (Q : PH → Prop) (s : Int32 × Int32 × Int32 × PH) : Prop := qEx hb s.2.2.2 ∧ qn s.2.2.2 = qn hb ∧ qz s.2.2.2 = qz hb → Ex G (qrm (1 + d) 0 0) mX5_turn (qn h0) (qz h0) (ZN G h0 0 0 (qqv Q)) 7 [(0, .ref l0), (1, .ref l1), (2, .int s.1), (3, .int s.2.1), (4, .int s.2.2.1)] [] s.2.2.2
def wp_X5_turn_98 (l0 : Nat) (l1 : Nat) (l2 : Int32) (l4 : Int32) (l5 : Int32) (s0 : Int32) (s1 : Nat) (bk7 : Int32 × Int32 × Int32 × PH → Prop) (h : PH) (Q : PH → Prop) : Prop := (∀ h26, h26 = qsI h s1 1 s0 → (wp_J9_max_7cf53 (qI h26 l0 5) l5 h26 (fun r28 h27 => (∀ h29, h29 = qsI h27 l0 5 r28 → (∀ h30, h30 = qsI h29 l0 3 ((qI h29 l0 3) + 1) → ∀ v31 : Int32, v31 = l4 + 1 → bk7 (l2, 0, v31, h30))))))
set_option maxHeartbeats 4000000 in
set_option maxRecDepth 100000 in
theorem sg_X5_turn_98 (G : GT) (d : Nat) (h0 : PH) (l0 : Nat) (l1 : Nat) (l2 : Int32) (l4 : Int32) (l5 : Int32) (s0 : Int32) (s1 : Nat) (h : PH) (Q : PH → Prop) (hb7 : PH) (bk7 : Int32 × Int32 × Int32 × PH → Prop) (hbk7 : ∀ s2, bk7 s2 → E_X5_turn_7 G d h0 hb7 l0 l1 Q s2) (hx7 : qEx hb7 h) (hn7 : qn h = qn hb7) (hz7 : qz h = qz hb7) (hex : qEx h0 h) (hnn : qn h = qn h0 + 0) (hzz : qz h = qz h0 + 0) (okl0 : qOK h 5 l0) (okl1 : qOK h 9 l1) (oks1 : qOK h 5 s1) (hwp : wp_X5_turn_98 l0 l1 l2 l4 l5 s0 s1 bk7 h Q) : Ex G (qrm (1 + d) 0 0) mX5_turn (qn h0) (qz h0) (ZN G h0 0 0 (qqv Q)) 98 [(0, .ref l0), (1, .ref l1), (2, .int l2), (4, .int l4), (5, .int l5)] [.int s0, .ref s1] h := by
  unfold wp_X5_turn_98 at hwp
  refine y_putI (pc := 98) dX5_turn_98 qRX5_13 oks1 (fun h26 eh26 nxh26 => ?_)
  have hwp := hwp h26 eh26
  have hex := hex.tr nxh26.1
  have hnn := nxh26.2.1.trans hnn
  have hzz := nxh26.2.2.trans hzz
  have hx7 := hx7.tr nxh26.1
  have hn7 := nxh26.2.1.trans hn7
  have hz7 := nxh26.2.2.trans hz7
  have okl0 := okl0.ex nxh26.1
  have okl1 := okl1.ex nxh26.1
  have oks1 := oks1.ex nxh26.1
  refine x_aload_n (pc := 101) dX5_turn_101 rfl ?_
  refine x_aload_n (pc := 102) dX5_turn_102 rfl ?_
  refine x_getI (pc := 103) dX5_turn_103 qRX5_26 okl0 (by decide) ?_
  refine x_iload (pc := 106) dX5_turn_106 rfl ?_
  refine x_invS (As := [.int (qI h26 l0 5), .int l5]) (st := [.ref l0]) (pc := 108) dX5_turn_108 lRX5_49 fJ9_max_7cf53 sJ9_max_7cf53 rfl (Nat.le_of_ble_eq_true rfl) (q_R (by omega) (by decide)) (q_C hnn hzz (by decide) (by decide)) (sn_J9_max_7cf53 G (d + 0) (qI h26 l0 5) l5 h26 _  hwp) (k_i (fun r28 h27 hwp cxh27 => ?_))
  have hex := hex.tr cxh27.1
  have hnn : qn h27 = qn h0 + 0 := by have := cxh27.2.1; omega
  have hzz : qz h27 = qz h0 + 0 := by have := cxh27.2.2; omega
  have hx7 := hx7.tr cxh27.1
  have hn7 : qn h27 = qn hb7 := by have := cxh27.2.1; omega
  have hz7 : qz h27 = qz hb7 := by have := cxh27.2.2; omega
  have okl0 := okl0.ex cxh27.1
  have okl1 := okl1.ex cxh27.1
  have oks1 := oks1.ex cxh27.1
  refine y_putI (pc := 111) dX5_turn_111 qRX5_26 okl0 (fun h29 eh29 nxh29 => ?_)
  have hwp := hwp h29 eh29
  have hex := hex.tr nxh29.1
  have hnn := nxh29.2.1.trans hnn
  have hzz := nxh29.2.2.trans hzz
  have hx7 := hx7.tr nxh29.1
  have hn7 := nxh29.2.1.trans hn7
  have hz7 := nxh29.2.2.trans hz7
  have okl0 := okl0.ex nxh29.1
  have okl1 := okl1.ex nxh29.1
  have oks1 := oks1.ex nxh29.1
  refine x_aload_n (pc := 114) dX5_turn_114 rfl ?_
  refine x_dup (pc := 115) dX5_turn_115 rfl ?_
  refine x_getI (pc := 116) dX5_turn_116 qRX5_20 okl0 (by decide) ?_
  refine x_iconst (v := 1) (pc := 119) dX5_turn_119 (by decide) ?_
  refine x_iadd (pc := 120) dX5_turn_120 ?_
  refine y_putI (pc := 121) dX5_turn_121 qRX5_20 okl0 (fun h30 eh30 nxh30 => ?_)
  have hwp := hwp h30 eh30
  have hex := hex.tr nxh30.1
  have hnn := nxh30.2.1.trans hnn
  have hzz := nxh30.2.2.trans hzz
  have hx7 := hx7.tr nxh30.1
  have hn7 := nxh30.2.1.trans hn7
  have hz7 := nxh30.2.2.trans hz7
  have okl0 := okl0.ex nxh30.1
  have okl1 := okl1.ex nxh30.1
  have oks1 := oks1.ex nxh30.1
  refine x_iconst (v := 0) (pc := 124) dX5_turn_124 (by decide) ?_
  refine x_istore_n (lv2 := [(3, .int 0), (0, .ref l0), (1, .ref l1), (2, .int l2), (4, .int l4), (5, .int l5)]) (pc := 125) dX5_turn_125 (by decide) rfl ?_
  refine x_goto (tgt := 156) (pc := 126) dX5_turn_126 (by decide) ?_
  refine y_iinc (c := 1) (pc := 156) dX5_turn_156 rfl (by decide) (by decide) (fun v31 ev31 => ?_)
  have hwp := hwp v31 ev31
  refine x_lvE (lv2 := [(4, .int v31), (3, .int 0), (0, .ref l0), (1, .ref l1), (2, .int l2), (5, .int l5)]) rfl ?_
  refine x_goto (tgt := 7) (pc := 159) dX5_turn_159 (by decide) ?_
  refine x_sub [2, 3, 4, 1, 0] rfl ?_
  exact hbk7 _ hwp ⟨hx7, hn7, hz7⟩
def wp_X5_turn_60 (l0 : Nat) (l1 : Nat) (l2 : Int32) (l3 : Int32) (l4 : Int32) (s0 : Int32) (s1 : Int32) (bk7 : Int32 × Int32 × Int32 × PH → Prop) (h : PH) (Q : PH → Prop) : Prop := ∀ v11 : Int32, v11 = s1 + s0 → ((v11 < 0 → ((l3 = 0 ∨ l3 = 1) ∧ ∀ h13, h13 = qsI h l0 6 l3 → ((¬ l2 = 0 → (∀ h16, h16 = qsI h13 l0 4 ((qI h13 l0 4) + 1) → ∀ v17 : Int32, v17 = l4 + 1 → bk7 (0, 1, v17, h16))) ∧ (l2 = 0 → (∀ h18, h18 = qsI h13 l0 4 ((qI h13 l0 4) + 1) → ∀ v19 : Int32, v19 = l4 + 1 → bk7 (1, 1, v19, h18)))))) ∧ (¬ (v11 < 0) → (∀ h20, h20 = qsI h l0 2 v11 → ((l2 = 0 → (wp_X10_before l1 (qI h20 l0 1) h20 (fun r23 h22 => (wp_X5_turn_98 l0 l1 l2 l4 v11 r23 l0 bk7 h22 Q)))) ∧ (¬ (l2 = 0) → (wp_X10_after l1 (qI h20 l0 1) h20 (fun r25 h24 => (wp_X5_turn_98 l0 l1 l2 l4 v11 r25 l0 bk7 h24 Q))))))))
set_option maxHeartbeats 4000000 in
set_option maxRecDepth 100000 in
theorem sg_X5_turn_60 (G : GT) (d : Nat) (h0 : PH) (l0 : Nat) (l1 : Nat) (l2 : Int32) (l3 : Int32) (l4 : Int32) (s0 : Int32) (s1 : Int32) (h : PH) (Q : PH → Prop) (hb7 : PH) (bk7 : Int32 × Int32 × Int32 × PH → Prop) (hbk7 : ∀ s2, bk7 s2 → E_X5_turn_7 G d h0 hb7 l0 l1 Q s2) (hx7 : qEx hb7 h) (hn7 : qn h = qn hb7) (hz7 : qz h = qz hb7) (hex : qEx h0 h) (hnn : qn h = qn h0 + 0) (hzz : qz h = qz h0 + 0) (okl0 : qOK h 5 l0) (okl1 : qOK h 9 l1) (hwp : wp_X5_turn_60 l0 l1 l2 l3 l4 s0 s1 bk7 h Q) : Ex G (qrm (1 + d) 0 0) mX5_turn (qn h0) (qz h0) (ZN G h0 0 0 (qqv Q)) 60 [(0, .ref l0), (1, .ref l1), (2, .int l2), (3, .int l3), (4, .int l4)] [.int s0, .int s1] h := by
  unfold wp_X5_turn_60 at hwp
  refine x_iadd (pc := 60) dX5_turn_60 ?_
  refine x_nmI (fun v11 ev11 => ?_)
  have hwp := hwp v11 ev11
  refine x_istore (lv2 := [(5, .int v11), (0, .ref l0), (1, .ref l1), (2, .int l2), (3, .int l3), (4, .int l4)]) (pc := 61) dX5_turn_61 (by decide) rfl ?_
  refine x_iload (pc := 63) dX5_turn_63 rfl ?_
  refine x_if_lt (tgt := 129) (pc := 65) dX5_turn_65 (by decide) (fun c12 => ?_) (fun c12 => ?_)
  · have hwp := hwp.1 c12
    refine x_aload_n (pc := 129) dX5_turn_129 rfl ?_
    refine x_iload_n (pc := 130) dX5_turn_130 rfl ?_
    obtain ⟨z14, hwp⟩ := hwp
    refine y_putZ (pc := 131) dX5_turn_131 qRX5_29 okl0 z14 (fun h13 eh13 nxh13 => ?_)
    have hwp := hwp h13 eh13
    have hex := hex.tr nxh13.1
    have hnn := nxh13.2.1.trans hnn
    have hzz := nxh13.2.2.trans hzz
    have hx7 := hx7.tr nxh13.1
    have hn7 := nxh13.2.1.trans hn7
    have hz7 := nxh13.2.2.trans hz7
    have okl0 := okl0.ex nxh13.1
    have okl1 := okl1.ex nxh13.1
    refine x_iconst (v := 1) (pc := 134) dX5_turn_134 (by decide) ?_
    refine x_istore_n (lv2 := [(3, .int 1), (5, .int v11), (0, .ref l0), (1, .ref l1), (2, .int l2), (4, .int l4)]) (pc := 135) dX5_turn_135 (by decide) rfl ?_
    refine x_iload_n (pc := 136) dX5_turn_136 rfl ?_
    refine x_if_ne (tgt := 144) (pc := 137) dX5_turn_137 (by decide) (fun c15 => ?_) (fun c15 => ?_)
    · have hwp := hwp.1 c15
      refine x_iconst (v := 0) (pc := 144) dX5_turn_144 (by decide) ?_
      refine x_istore_n (lv2 := [(2, .int 0), (3, .int 1), (5, .int v11), (0, .ref l0), (1, .ref l1), (4, .int l4)]) (pc := 145) dX5_turn_145 (by decide) rfl ?_
      refine x_aload_n (pc := 146) dX5_turn_146 rfl ?_
      refine x_dup (pc := 147) dX5_turn_147 rfl ?_
      refine x_getI (pc := 148) dX5_turn_148 qRX5_23 okl0 (by decide) ?_
      refine x_iconst (v := 1) (pc := 151) dX5_turn_151 (by decide) ?_
      refine x_iadd (pc := 152) dX5_turn_152 ?_
      refine y_putI (pc := 153) dX5_turn_153 qRX5_23 okl0 (fun h16 eh16 nxh16 => ?_)
      have hwp := hwp h16 eh16
      have hex := hex.tr nxh16.1
      have hnn := nxh16.2.1.trans hnn
      have hzz := nxh16.2.2.trans hzz
      have hx7 := hx7.tr nxh16.1
      have hn7 := nxh16.2.1.trans hn7
      have hz7 := nxh16.2.2.trans hz7
      have okl0 := okl0.ex nxh16.1
      have okl1 := okl1.ex nxh16.1
      refine y_iinc (c := 1) (pc := 156) dX5_turn_156 rfl (by decide) (by decide) (fun v17 ev17 => ?_)
      have hwp := hwp v17 ev17
      refine x_lvE (lv2 := [(4, .int v17), (2, .int 0), (3, .int 1), (5, .int v11), (0, .ref l0), (1, .ref l1)]) rfl ?_
      refine x_goto (tgt := 7) (pc := 159) dX5_turn_159 (by decide) ?_
      refine x_sub [4, 5, 1, 2, 0] rfl ?_
      exact hbk7 _ hwp ⟨hx7, hn7, hz7⟩
    · have hwp := hwp.2 c15
      refine x_iconst (v := 1) (pc := 140) dX5_turn_140 (by decide) ?_
      refine x_goto (tgt := 145) (pc := 141) dX5_turn_141 (by decide) ?_
      refine x_istore_n (lv2 := [(2, .int 1), (3, .int 1), (5, .int v11), (0, .ref l0), (1, .ref l1), (4, .int l4)]) (pc := 145) dX5_turn_145 (by decide) rfl ?_
      refine x_aload_n (pc := 146) dX5_turn_146 rfl ?_
      refine x_dup (pc := 147) dX5_turn_147 rfl ?_
      refine x_getI (pc := 148) dX5_turn_148 qRX5_23 okl0 (by decide) ?_
      refine x_iconst (v := 1) (pc := 151) dX5_turn_151 (by decide) ?_
      refine x_iadd (pc := 152) dX5_turn_152 ?_
      refine y_putI (pc := 153) dX5_turn_153 qRX5_23 okl0 (fun h18 eh18 nxh18 => ?_)
      have hwp := hwp h18 eh18
      have hex := hex.tr nxh18.1
      have hnn := nxh18.2.1.trans hnn
      have hzz := nxh18.2.2.trans hzz
      have hx7 := hx7.tr nxh18.1
      have hn7 := nxh18.2.1.trans hn7
      have hz7 := nxh18.2.2.trans hz7
      have okl0 := okl0.ex nxh18.1
      have okl1 := okl1.ex nxh18.1
      refine y_iinc (c := 1) (pc := 156) dX5_turn_156 rfl (by decide) (by decide) (fun v19 ev19 => ?_)
      have hwp := hwp v19 ev19
      refine x_lvE (lv2 := [(4, .int v19), (2, .int 1), (3, .int 1), (5, .int v11), (0, .ref l0), (1, .ref l1)]) rfl ?_
      refine x_goto (tgt := 7) (pc := 159) dX5_turn_159 (by decide) ?_
      refine x_sub [4, 5, 1, 2, 0] rfl ?_
      exact hbk7 _ hwp ⟨hx7, hn7, hz7⟩
  · have hwp := hwp.2 c12
    refine x_aload_n (pc := 68) dX5_turn_68 rfl ?_
    refine x_iload (pc := 69) dX5_turn_69 rfl ?_
    refine y_putI (pc := 71) dX5_turn_71 qRX5_17 okl0 (fun h20 eh20 nxh20 => ?_)
    have hwp := hwp h20 eh20
    have hex := hex.tr nxh20.1
    have hnn := nxh20.2.1.trans hnn
    have hzz := nxh20.2.2.trans hzz
    have hx7 := hx7.tr nxh20.1
    have hn7 := nxh20.2.1.trans hn7
    have hz7 := nxh20.2.2.trans hz7
    have okl0 := okl0.ex nxh20.1
    have okl1 := okl1.ex nxh20.1
    refine x_aload_n (pc := 74) dX5_turn_74 rfl ?_
    refine x_iload_n (pc := 75) dX5_turn_75 rfl ?_
    refine x_if_eq (tgt := 90) (pc := 76) dX5_turn_76 (by decide) (fun c21 => ?_) (fun c21 => ?_)
    · have hwp := hwp.1 c21
      refine x_aload_n (pc := 90) dX5_turn_90 rfl ?_
      refine x_aload_n (pc := 91) dX5_turn_91 rfl ?_
      refine x_getI (pc := 92) dX5_turn_92 qRX5_13 okl0 (by decide) ?_
      refine x_invV (As := [.int (qI h20 l0 1)]) (st := [.ref l0]) (pc := 95) dX5_turn_95 lRX5_46 fX10_before vX10_before okl1 rfl (Nat.le_of_ble_eq_true rfl) (q_R (by omega) (by decide)) (q_C hnn hzz (by decide) (by decide)) (sn_X10_before G (d + 0) l1 (qI h20 l0 1) h20 _ okl1 hwp) (k_i (fun r23 h22 hwp cxh22 => ?_))
      have hex := hex.tr cxh22.1
      have hnn : qn h22 = qn h0 + 0 := by have := cxh22.2.1; omega
      have hzz : qz h22 = qz h0 + 0 := by have := cxh22.2.2; omega
      have hx7 := hx7.tr cxh22.1
      have hn7 : qn h22 = qn hb7 := by have := cxh22.2.1; omega
      have hz7 : qz h22 = qz hb7 := by have := cxh22.2.2; omega
      have okl0 := okl0.ex cxh22.1
      have okl1 := okl1.ex cxh22.1
      refine x_sub [1, 2, 3, 5, 0] rfl ?_
      exact sg_X5_turn_98 G d h0 l0 l1 l2 l4 v11 r23 l0 h22 Q hb7 bk7 hbk7 hx7 hn7 hz7 hex hnn hzz okl0 okl1 okl0 hwp
    · have hwp := hwp.2 c21
      refine x_aload_n (pc := 79) dX5_turn_79 rfl ?_
      refine x_aload_n (pc := 80) dX5_turn_80 rfl ?_
      refine x_getI (pc := 81) dX5_turn_81 qRX5_13 okl0 (by decide) ?_
      refine x_invV (As := [.int (qI h20 l0 1)]) (st := [.ref l0]) (pc := 84) dX5_turn_84 lRX5_42 fX10_after vX10_after okl1 rfl (Nat.le_of_ble_eq_true rfl) (q_R (by omega) (by decide)) (q_C hnn hzz (by decide) (by decide)) (sn_X10_after G (d + 0) l1 (qI h20 l0 1) h20 _ okl1 hwp) (k_i (fun r25 h24 hwp cxh24 => ?_))
      have hex := hex.tr cxh24.1
      have hnn : qn h24 = qn h0 + 0 := by have := cxh24.2.1; omega
      have hzz : qz h24 = qz h0 + 0 := by have := cxh24.2.2; omega
      have hx7 := hx7.tr cxh24.1
      have hn7 : qn h24 = qn hb7 := by have := cxh24.2.1; omega
      have hz7 : qz h24 = qz hb7 := by have := cxh24.2.2; omega
      have okl0 := okl0.ex cxh24.1
      have okl1 := okl1.ex cxh24.1
      refine x_goto (tgt := 98) (pc := 87) dX5_turn_87 (by decide) ?_
      refine x_sub [1, 2, 3, 5, 0] rfl ?_
      exact sg_X5_turn_98 G d h0 l0 l1 l2 l4 v11 r25 l0 h24 Q hb7 bk7 hbk7 hx7 hn7 hz7 hex hnn hzz okl0 okl1 okl0 hwp
def wb_X5_turn_7 (l0 : Nat) (l1 : Nat)  (Q : PH → Prop) (bk7 : Int32 × Int32 × Int32 × PH → Prop) (l2 : Int32) (l3 : Int32) (l4 : Int32) (h : PH) : Prop := ((40002 ≤ l4 → Q h) ∧ (¬ (40002 ≤ l4) → ((20000 ≤ (qI h l0 3) → Q h) ∧ (¬ (20000 ≤ (qI h l0 3)) → ((¬ (qI h l0 6) = 0 → Q h) ∧ ((qI h l0 6) = 0 → ((l2 = 0 → (∃ b5, qR h l1 1 = some b5 ∧ (vp_in (qI h l0 1) (qL h b5) ∧ (wp_X5_turn_60 l0 l1 l2 l3 l4 (qI h b5 (qI h l0 1).toNatClampNeg) (qI h l0 2) bk7 h Q)))) ∧ (¬ (l2 = 0) → (∃ b8, qR h l1 0 = some b8 ∧ (vp_in (qI h l0 1) (qL h b8) ∧ (wp_X5_turn_60 l0 l1 l2 l3 l4 (qI h b8 (qI h l0 1).toNatClampNeg) (qI h l0 2) bk7 h Q)))))))))))
def wp_X5_turn_7 (l0 : Nat) (l1 : Nat)  (Q : PH → Prop) (bk7 : Int32 × Int32 × Int32 × PH → Prop) (s : Int32 × Int32 × Int32 × PH) : Prop := wb_X5_turn_7 l0 l1 Q bk7 s.1 s.2.1 s.2.2.1 s.2.2.2
set_option maxHeartbeats 4000000 in
set_option maxRecDepth 100000 in
theorem bd_X5_turn_7 (G : GT) (d : Nat) (h0 hb : PH) (l0 : Nat) (l1 : Nat) (Q : PH → Prop)  (hex : qEx h0 hb) (hnn : qn hb = qn h0 + 0) (hzz : qz hb = qz h0 + 0) (okl0 : qOK hb 5 l0) (okl1 : qOK hb 9 l1) (bk7 : Int32 × Int32 × Int32 × PH → Prop) (hbk7 : ∀ s2, bk7 s2 → E_X5_turn_7 G d h0 hb l0 l1 Q s2) (l2 : Int32) (l3 : Int32) (l4 : Int32) (h : PH) (hwp : wb_X5_turn_7 l0 l1 Q bk7 l2 l3 l4 h) (hx7 : qEx hb h) (hn7 : qn h = qn hb) (hz7 : qz h = qz hb) : Ex G (qrm (1 + d) 0 0) mX5_turn (qn h0) (qz h0) (ZN G h0 0 0 (qqv Q)) 7 [(0, .ref l0), (1, .ref l1), (2, .int l2), (3, .int l3), (4, .int l4)] [] h := by
  unfold wb_X5_turn_7 at hwp
  have hex := hex.tr hx7
  have hnn := hn7.trans hnn
  have hzz := hz7.trans hzz
  have okl0 := okl0.ex hx7
  have okl1 := okl1.ex hx7
  refine x_iload (pc := 7) dX5_turn_7 rfl ?_
  refine x_ldc (v := 40002) (pc := 9) dX5_turn_9 kRX5_32 ?_
  refine x_icmp_ge (tgt := 162) (pc := 11) dX5_turn_11 (by decide) (fun c1 => ?_) (fun c1 => ?_)
  · have hwp := hwp.1 c1
    exact x_vret (pc := 162) dX5_turn_162 rfl hex hnn hzz ⟨rfl, hwp⟩
  · have hwp := hwp.2 c1
    refine x_aload_n (pc := 14) dX5_turn_14 rfl ?_
    refine x_getI (pc := 15) dX5_turn_15 qRX5_20 okl0 (by decide) ?_
    refine x_sipush (v := 20000) (pc := 18) dX5_turn_18 (by decide) ?_
    refine x_icmp_ge (tgt := 162) (pc := 21) dX5_turn_21 (by decide) (fun c2 => ?_) (fun c2 => ?_)
    · have hwp := hwp.1 c2
      exact x_vret (pc := 162) dX5_turn_162 rfl hex hnn hzz ⟨rfl, hwp⟩
    · have hwp := hwp.2 c2
      refine x_aload_n (pc := 24) dX5_turn_24 rfl ?_
      refine x_getI (pc := 25) dX5_turn_25 qRX5_29 okl0 (by decide) ?_
      refine x_if_ne (tgt := 162) (pc := 28) dX5_turn_28 (by decide) (fun c3 => ?_) (fun c3 => ?_)
      · have hwp := hwp.1 c3
        exact x_vret (pc := 162) dX5_turn_162 rfl hex hnn hzz ⟨rfl, hwp⟩
      · have hwp := hwp.2 c3
        refine x_aload_n (pc := 31) dX5_turn_31 rfl ?_
        refine x_getI (pc := 32) dX5_turn_32 qRX5_17 okl0 (by decide) ?_
        refine x_iload_n (pc := 35) dX5_turn_35 rfl ?_
        refine x_if_eq (tgt := 51) (pc := 36) dX5_turn_36 (by decide) (fun c4 => ?_) (fun c4 => ?_)
        · have hwp := hwp.1 c4
          refine x_aload_n (pc := 51) dX5_turn_51 rfl ?_
          obtain ⟨b5, e6, hwp⟩ := hwp
          refine x_getR (pc := 52) dX5_turn_52 qRX5_39 okl1 e6 (fun okb5 => ?_)
          refine x_aload_n (pc := 55) dX5_turn_55 rfl ?_
          refine x_getI (pc := 56) dX5_turn_56 qRX5_13 okl0 (by decide) ?_
          obtain ⟨i7, hwp⟩ := hwp
          refine x_iaload (pc := 59) dX5_turn_59 okb5 i7 ?_
          refine x_sub [0, 1, 2, 3, 4] rfl ?_
          exact sg_X5_turn_60 G d h0 l0 l1 l2 l3 l4 (qI h b5 (qI h l0 1).toNatClampNeg) (qI h l0 2) h Q hb bk7 hbk7 hx7 hn7 hz7 hex hnn hzz okl0 okl1 hwp
        · have hwp := hwp.2 c4
          refine x_aload_n (pc := 39) dX5_turn_39 rfl ?_
          obtain ⟨b8, e9, hwp⟩ := hwp
          refine x_getR (pc := 40) dX5_turn_40 qRX5_33 okl1 e9 (fun okb8 => ?_)
          refine x_aload_n (pc := 43) dX5_turn_43 rfl ?_
          refine x_getI (pc := 44) dX5_turn_44 qRX5_13 okl0 (by decide) ?_
          obtain ⟨i10, hwp⟩ := hwp
          refine x_iaload (pc := 47) dX5_turn_47 okb8 i10 ?_
          refine x_goto (tgt := 60) (pc := 48) dX5_turn_48 (by decide) ?_
          refine x_sub [0, 1, 2, 3, 4] rfl ?_
          exact sg_X5_turn_60 G d h0 l0 l1 l2 l3 l4 (qI h b8 (qI h l0 1).toNatClampNeg) (qI h l0 2) h Q hb bk7 hbk7 hx7 hn7 hz7 hex hnn hzz okl0 okl1 hwp
theorem lp_X5_turn_7 (G : GT) (d : Nat) (h0 hb : PH) (l0 : Nat) (l1 : Nat) (Q : PH → Prop)  (hex : qEx h0 hb) (hnn : qn hb = qn h0 + 0) (hzz : qz hb = qz h0 + 0) (okl0 : qOK hb 5 l0) (okl1 : qOK hb 9 l1) {s : Int32 × Int32 × Int32 × PH} (hwp : qLoop (wp_X5_turn_7 l0 l1 Q) s) : E_X5_turn_7 G d h0 hb l0 l1 Q s :=
  qLoop.use (E := E_X5_turn_7 G d h0 hb l0 l1 Q) (fun back s hbk hw hx => bd_X5_turn_7 G d h0 hb l0 l1 Q hex hnn hzz okl0 okl1 back hbk s.1 s.2.1 s.2.2.1 s.2.2.2 hw hx.1 hx.2.1 hx.2.2) hwp
def wp_X5_turn (l0 : Nat) (l1 : Nat) (h : PH) (Q : PH → Prop) : Prop := (qLoop (wp_X5_turn_7 l0 l1 Q) (1, 0, 0, h))
set_option maxHeartbeats 4000000 in
set_option maxRecDepth 100000 in
theorem sn_X5_turn (G : GT) (d : Nat) (l0 : Nat) (l1 : Nat) (h : PH) (Q : PH → Prop) (okl0 : qOK h 5 l0) (okl1 : qOK h 9 l1) (hwp : wp_X5_turn l0 l1 h Q) : Mt G (1 + d) 0 0 mX5_turn [.ref l0, .ref l1] h (qqv Q) := by
  unfold wp_X5_turn at hwp
  refine Mt.of (by decide) rfl (Nat.le_of_ble_eq_true rfl) ?_
  have hex := qEx.rf h
  have hnn : qn h = qn h + 0 := rfl
  have hzz : qz h = qz h + 0 := rfl
  refine x_lvE (lv2 := [(0, .ref l0), (1, .ref l1)]) rfl ?_
  refine x_iconst (v := 1) (pc := 0) dX5_turn_0 (by decide) ?_
  refine x_istore_n (lv2 := [(2, .int 1), (0, .ref l0), (1, .ref l1)]) (pc := 1) dX5_turn_1 (by decide) rfl ?_
  refine x_iconst (v := 0) (pc := 2) dX5_turn_2 (by decide) ?_
  refine x_istore_n (lv2 := [(3, .int 0), (2, .int 1), (0, .ref l0), (1, .ref l1)]) (pc := 3) dX5_turn_3 (by decide) rfl ?_
  refine x_iconst (v := 0) (pc := 4) dX5_turn_4 (by decide) ?_
  refine x_istore (lv2 := [(4, .int 0), (3, .int 0), (2, .int 1), (0, .ref l0), (1, .ref l1)]) (pc := 5) dX5_turn_5 (by decide) rfl ?_
  refine x_sub [3, 4, 2, 1, 0] rfl ?_
  exact lp_X5_turn_7 G d h h l0 l1 Q hex hnn hzz okl0 okl1 hwp ⟨qEx.rf _, rfl, rfl⟩

theorem dX8_init_0 : decode cX8_init 0 = .ok (.aload_n 0, 1) := by decide +kernel
theorem dX8_init_1 : decode cX8_init 1 = .ok (.invokespecial 3, 3) := by decide +kernel
theorem dX8_init_4 : decode cX8_init 4 = .ok (.aload_n 0, 1) := by decide +kernel
theorem dX8_init_5 : decode cX8_init 5 = .ok (.bipush 48, 2) := by decide +kernel
theorem dX8_init_7 : decode cX8_init 7 = .ok (.newarray .int, 2) := by decide +kernel
theorem dX8_init_9 : decode cX8_init 9 = .ok (.putfield 9, 3) := by decide +kernel
theorem dX8_init_12 : decode cX8_init 12 = .ok (.aload_n 0, 1) := by decide +kernel
theorem dX8_init_13 : decode cX8_init 13 = .ok (.bipush 48, 2) := by decide +kernel
theorem dX8_init_15 : decode cX8_init 15 = .ok (.newarray .int, 2) := by decide +kernel
theorem dX8_init_17 : decode cX8_init 17 = .ok (.putfield 15, 3) := by decide +kernel
theorem dX8_init_20 : decode cX8_init 20 = .ok (.aload_n 0, 1) := by decide +kernel
theorem dX8_init_21 : decode cX8_init 21 = .ok (.sipush 192, 3) := by decide +kernel
theorem dX8_init_24 : decode cX8_init 24 = .ok (.newarray .int, 2) := by decide +kernel
theorem dX8_init_26 : decode cX8_init 26 = .ok (.putfield 18, 3) := by decide +kernel
theorem dX8_init_29 : decode cX8_init 29 = .ok (.aload_n 0, 1) := by decide +kernel
theorem dX8_init_30 : decode cX8_init 30 = .ok (.sipush 384, 3) := by decide +kernel
theorem dX8_init_33 : decode cX8_init 33 = .ok (.newarray .int, 2) := by decide +kernel
theorem dX8_init_35 : decode cX8_init 35 = .ok (.putfield 21, 3) := by decide +kernel
theorem dX8_init_38 : decode cX8_init 38 = .ok (.aload_n 0, 1) := by decide +kernel
theorem dX8_init_39 : decode cX8_init 39 = .ok (.bipush 8, 2) := by decide +kernel
theorem dX8_init_41 : decode cX8_init 41 = .ok (.newarray .int, 2) := by decide +kernel
theorem dX8_init_43 : decode cX8_init 43 = .ok (.putfield 24, 3) := by decide +kernel
theorem dX8_init_46 : decode cX8_init 46 = .ok (.aload_n 0, 1) := by decide +kernel
theorem dX8_init_47 : decode cX8_init 47 = .ok (.bipush 24, 2) := by decide +kernel
theorem dX8_init_49 : decode cX8_init 49 = .ok (.putfield 29, 3) := by decide +kernel
theorem dX8_init_52 : decode cX8_init 52 = .ok (.aload_n 0, 1) := by decide +kernel
theorem dX8_init_53 : decode cX8_init 53 = .ok (.iconst 0, 1) := by decide +kernel
theorem dX8_init_54 : decode cX8_init 54 = .ok (.putfield 33, 3) := by decide +kernel
theorem dX8_init_57 : decode cX8_init 57 = .ok (.return_, 1) := by decide +kernel
def wp_X8_init (l0 : Nat) (h : PH) (Q : PH → Prop) : Prop := (qn h + 1 ≤ 1000000 ∧ ∀ h1, h1 = qnew h 14 48 48 → (∀ h3, h3 = qsR h1 l0 0 (some (qn h)) → (qn h3 + 1 ≤ 1000000 ∧ ∀ h4, h4 = qnew h3 14 48 48 → (∀ h6, h6 = qsR h4 l0 1 (some (qn h3)) → (qn h6 + 1 ≤ 1000000 ∧ ∀ h7, h7 = qnew h6 14 192 192 → (∀ h9, h9 = qsR h7 l0 2 (some (qn h6)) → (qn h9 + 1 ≤ 1000000 ∧ ∀ h10, h10 = qnew h9 14 384 384 → (∀ h12, h12 = qsR h10 l0 3 (some (qn h9)) → (qn h12 + 1 ≤ 1000000 ∧ ∀ h13, h13 = qnew h12 14 8 8 → (∀ h15, h15 = qsR h13 l0 4 (some (qn h12)) → (∀ h16, h16 = qsI h15 l0 5 24 → (∀ h17, h17 = qsI h16 l0 6 0 → Q h17))))))))))))
set_option maxHeartbeats 4000000 in
set_option maxRecDepth 100000 in
theorem sn_X8_init (G : GT) (d : Nat) (l0 : Nat) (h : PH) (Q : PH → Prop) (okl0 : qOK h 8 l0) (hwp : wp_X8_init l0 h Q) : Mt G (1 + d) 5 680 mX8_init [.ref l0] h (qqv Q) := by
  unfold wp_X8_init at hwp
  refine Mt.of (by decide) rfl (Nat.le_of_ble_eq_true rfl) ?_
  have hex := qEx.rf h
  have hnn : qn h = qn h + 0 := rfl
  have hzz : qz h = qz h + 0 := rfl
  refine x_lvE (lv2 := [(0, .ref l0)]) rfl ?_
  refine x_aload_n (pc := 0) dX8_init_0 rfl ?_
  refine x_objInit (pc := 1) dX8_init_1 lRX8_3 wk_oi wk_oc (q_R1 (by omega)) (Nat.le_of_ble_eq_true rfl) ?_
  refine x_aload_n (pc := 4) dX8_init_4 rfl ?_
  refine x_bipush (v := 48) (pc := 5) dX8_init_5 (by decide) ?_
  obtain ⟨m2, hwp⟩ := hwp
  refine y_newa (t := 14) (N := 48) (t0 := 1) (ty := .int) (pc := 7) dX8_init_7 rfl (by decide) wk_ac_int (by decide) (by decide) (by decide) (q_C hnn hzz (by decide) (by decide)) m2 (fun h1 eh1 nwh1 okbh1 => ?_)
  have hwp := hwp h1 eh1
  have hex := hex.tr nwh1.1
  have hnn : qn h1 = qn h + 1 := by have := nwh1.2.1; omega
  have hzz : qz h1 = qz h + 48 := by have := nwh1.2.2; omega
  have okl0 := okl0.ex nwh1.1
  refine y_putF rfl (pc := 9) dX8_init_9 FRX8_9 okl0 okbh1 (fun h3 eh3 nxh3 => ?_)
  have hwp := hwp h3 eh3
  have hex := hex.tr nxh3.1
  have hnn := nxh3.2.1.trans hnn
  have hzz := nxh3.2.2.trans hzz
  have okl0 := okl0.ex nxh3.1
  have okbh1 := okbh1.ex nxh3.1
  refine x_aload_n (pc := 12) dX8_init_12 rfl ?_
  refine x_bipush (v := 48) (pc := 13) dX8_init_13 (by decide) ?_
  obtain ⟨m5, hwp⟩ := hwp
  refine y_newa (t := 14) (N := 48) (t0 := 1) (ty := .int) (pc := 15) dX8_init_15 rfl (by decide) wk_ac_int (by decide) (by decide) (by decide) (q_C hnn hzz (by decide) (by decide)) m5 (fun h4 eh4 nwh4 okbh4 => ?_)
  have hwp := hwp h4 eh4
  have hex := hex.tr nwh4.1
  have hnn : qn h4 = qn h + 2 := by have := nwh4.2.1; omega
  have hzz : qz h4 = qz h + 96 := by have := nwh4.2.2; omega
  have okl0 := okl0.ex nwh4.1
  have okbh1 := okbh1.ex nwh4.1
  refine y_putF rfl (pc := 17) dX8_init_17 FRX8_15 okl0 okbh4 (fun h6 eh6 nxh6 => ?_)
  have hwp := hwp h6 eh6
  have hex := hex.tr nxh6.1
  have hnn := nxh6.2.1.trans hnn
  have hzz := nxh6.2.2.trans hzz
  have okl0 := okl0.ex nxh6.1
  have okbh1 := okbh1.ex nxh6.1
  have okbh4 := okbh4.ex nxh6.1
  refine x_aload_n (pc := 20) dX8_init_20 rfl ?_
  refine x_sipush (v := 192) (pc := 21) dX8_init_21 (by decide) ?_
  obtain ⟨m8, hwp⟩ := hwp
  refine y_newa (t := 14) (N := 192) (t0 := 1) (ty := .int) (pc := 24) dX8_init_24 rfl (by decide) wk_ac_int (by decide) (by decide) (by decide) (q_C hnn hzz (by decide) (by decide)) m8 (fun h7 eh7 nwh7 okbh7 => ?_)
  have hwp := hwp h7 eh7
  have hex := hex.tr nwh7.1
  have hnn : qn h7 = qn h + 3 := by have := nwh7.2.1; omega
  have hzz : qz h7 = qz h + 288 := by have := nwh7.2.2; omega
  have okl0 := okl0.ex nwh7.1
  have okbh1 := okbh1.ex nwh7.1
  have okbh4 := okbh4.ex nwh7.1
  refine y_putF rfl (pc := 26) dX8_init_26 FRX8_18 okl0 okbh7 (fun h9 eh9 nxh9 => ?_)
  have hwp := hwp h9 eh9
  have hex := hex.tr nxh9.1
  have hnn := nxh9.2.1.trans hnn
  have hzz := nxh9.2.2.trans hzz
  have okl0 := okl0.ex nxh9.1
  have okbh1 := okbh1.ex nxh9.1
  have okbh4 := okbh4.ex nxh9.1
  have okbh7 := okbh7.ex nxh9.1
  refine x_aload_n (pc := 29) dX8_init_29 rfl ?_
  refine x_sipush (v := 384) (pc := 30) dX8_init_30 (by decide) ?_
  obtain ⟨m11, hwp⟩ := hwp
  refine y_newa (t := 14) (N := 384) (t0 := 1) (ty := .int) (pc := 33) dX8_init_33 rfl (by decide) wk_ac_int (by decide) (by decide) (by decide) (q_C hnn hzz (by decide) (by decide)) m11 (fun h10 eh10 nwh10 okbh10 => ?_)
  have hwp := hwp h10 eh10
  have hex := hex.tr nwh10.1
  have hnn : qn h10 = qn h + 4 := by have := nwh10.2.1; omega
  have hzz : qz h10 = qz h + 672 := by have := nwh10.2.2; omega
  have okl0 := okl0.ex nwh10.1
  have okbh1 := okbh1.ex nwh10.1
  have okbh4 := okbh4.ex nwh10.1
  have okbh7 := okbh7.ex nwh10.1
  refine y_putF rfl (pc := 35) dX8_init_35 FRX8_21 okl0 okbh10 (fun h12 eh12 nxh12 => ?_)
  have hwp := hwp h12 eh12
  have hex := hex.tr nxh12.1
  have hnn := nxh12.2.1.trans hnn
  have hzz := nxh12.2.2.trans hzz
  have okl0 := okl0.ex nxh12.1
  have okbh1 := okbh1.ex nxh12.1
  have okbh4 := okbh4.ex nxh12.1
  have okbh7 := okbh7.ex nxh12.1
  have okbh10 := okbh10.ex nxh12.1
  refine x_aload_n (pc := 38) dX8_init_38 rfl ?_
  refine x_bipush (v := 8) (pc := 39) dX8_init_39 (by decide) ?_
  obtain ⟨m14, hwp⟩ := hwp
  refine y_newa (t := 14) (N := 8) (t0 := 1) (ty := .int) (pc := 41) dX8_init_41 rfl (by decide) wk_ac_int (by decide) (by decide) (by decide) (q_C hnn hzz (by decide) (by decide)) m14 (fun h13 eh13 nwh13 okbh13 => ?_)
  have hwp := hwp h13 eh13
  have hex := hex.tr nwh13.1
  have hnn : qn h13 = qn h + 5 := by have := nwh13.2.1; omega
  have hzz : qz h13 = qz h + 680 := by have := nwh13.2.2; omega
  have okl0 := okl0.ex nwh13.1
  have okbh1 := okbh1.ex nwh13.1
  have okbh4 := okbh4.ex nwh13.1
  have okbh7 := okbh7.ex nwh13.1
  have okbh10 := okbh10.ex nwh13.1
  refine y_putF rfl (pc := 43) dX8_init_43 FRX8_24 okl0 okbh13 (fun h15 eh15 nxh15 => ?_)
  have hwp := hwp h15 eh15
  have hex := hex.tr nxh15.1
  have hnn := nxh15.2.1.trans hnn
  have hzz := nxh15.2.2.trans hzz
  have okl0 := okl0.ex nxh15.1
  have okbh1 := okbh1.ex nxh15.1
  have okbh4 := okbh4.ex nxh15.1
  have okbh7 := okbh7.ex nxh15.1
  have okbh10 := okbh10.ex nxh15.1
  have okbh13 := okbh13.ex nxh15.1
  refine x_aload_n (pc := 46) dX8_init_46 rfl ?_
  refine x_bipush (v := 24) (pc := 47) dX8_init_47 (by decide) ?_
  refine y_putI (pc := 49) dX8_init_49 qRX8_29 okl0 (fun h16 eh16 nxh16 => ?_)
  have hwp := hwp h16 eh16
  have hex := hex.tr nxh16.1
  have hnn := nxh16.2.1.trans hnn
  have hzz := nxh16.2.2.trans hzz
  have okl0 := okl0.ex nxh16.1
  have okbh1 := okbh1.ex nxh16.1
  have okbh4 := okbh4.ex nxh16.1
  have okbh7 := okbh7.ex nxh16.1
  have okbh10 := okbh10.ex nxh16.1
  have okbh13 := okbh13.ex nxh16.1
  refine x_aload_n (pc := 52) dX8_init_52 rfl ?_
  refine x_iconst (v := 0) (pc := 53) dX8_init_53 (by decide) ?_
  refine y_putI (pc := 54) dX8_init_54 qRX8_33 okl0 (fun h17 eh17 nxh17 => ?_)
  have hwp := hwp h17 eh17
  have hex := hex.tr nxh17.1
  have hnn := nxh17.2.1.trans hnn
  have hzz := nxh17.2.2.trans hzz
  have okl0 := okl0.ex nxh17.1
  have okbh1 := okbh1.ex nxh17.1
  have okbh4 := okbh4.ex nxh17.1
  have okbh7 := okbh7.ex nxh17.1
  have okbh10 := okbh10.ex nxh17.1
  have okbh13 := okbh13.ex nxh17.1
  exact x_vret (pc := 57) dX8_init_57 rfl hex hnn hzz ⟨rfl, hwp⟩

theorem dX8_clear_0 : decode cX8_clear 0 = .ok (.iconst 0, 1) := by decide +kernel
theorem dX8_clear_1 : decode cX8_clear 1 = .ok (.istore_n 1, 1) := by decide +kernel
theorem dX8_clear_2 : decode cX8_clear 2 = .ok (.iload_n 1, 1) := by decide +kernel
theorem dX8_clear_3 : decode cX8_clear 3 = .ok (.aload_n 0, 1) := by decide +kernel
theorem dX8_clear_4 : decode cX8_clear 4 = .ok (.getfield 9, 3) := by decide +kernel
theorem dX8_clear_7 : decode cX8_clear 7 = .ok (.arraylength, 1) := by decide +kernel
theorem dX8_clear_8 : decode cX8_clear 8 = .ok (.if_icmp .ge 23, 3) := by decide +kernel
theorem dX8_clear_11 : decode cX8_clear 11 = .ok (.aload_n 0, 1) := by decide +kernel
theorem dX8_clear_12 : decode cX8_clear 12 = .ok (.getfield 9, 3) := by decide +kernel
theorem dX8_clear_15 : decode cX8_clear 15 = .ok (.iload_n 1, 1) := by decide +kernel
theorem dX8_clear_16 : decode cX8_clear 16 = .ok (.iconst 0, 1) := by decide +kernel
theorem dX8_clear_17 : decode cX8_clear 17 = .ok (.iastore, 1) := by decide +kernel
theorem dX8_clear_18 : decode cX8_clear 18 = .ok (.aload_n 0, 1) := by decide +kernel
theorem dX8_clear_19 : decode cX8_clear 19 = .ok (.getfield 15, 3) := by decide +kernel
theorem dX8_clear_22 : decode cX8_clear 22 = .ok (.iload_n 1, 1) := by decide +kernel
theorem dX8_clear_23 : decode cX8_clear 23 = .ok (.iconst 0, 1) := by decide +kernel
theorem dX8_clear_24 : decode cX8_clear 24 = .ok (.iastore, 1) := by decide +kernel
theorem dX8_clear_25 : decode cX8_clear 25 = .ok (.iinc 1 1, 3) := by decide +kernel
theorem dX8_clear_28 : decode cX8_clear 28 = .ok (.goto (-26), 3) := by decide +kernel
theorem dX8_clear_31 : decode cX8_clear 31 = .ok (.iconst 0, 1) := by decide +kernel
theorem dX8_clear_32 : decode cX8_clear 32 = .ok (.istore_n 1, 1) := by decide +kernel
theorem dX8_clear_33 : decode cX8_clear 33 = .ok (.iload_n 1, 1) := by decide +kernel
theorem dX8_clear_34 : decode cX8_clear 34 = .ok (.aload_n 0, 1) := by decide +kernel
theorem dX8_clear_35 : decode cX8_clear 35 = .ok (.getfield 18, 3) := by decide +kernel
theorem dX8_clear_38 : decode cX8_clear 38 = .ok (.arraylength, 1) := by decide +kernel
theorem dX8_clear_39 : decode cX8_clear 39 = .ok (.if_icmp .ge 16, 3) := by decide +kernel
theorem dX8_clear_42 : decode cX8_clear 42 = .ok (.aload_n 0, 1) := by decide +kernel
theorem dX8_clear_43 : decode cX8_clear 43 = .ok (.getfield 18, 3) := by decide +kernel
theorem dX8_clear_46 : decode cX8_clear 46 = .ok (.iload_n 1, 1) := by decide +kernel
theorem dX8_clear_47 : decode cX8_clear 47 = .ok (.iconst 0, 1) := by decide +kernel
theorem dX8_clear_48 : decode cX8_clear 48 = .ok (.iastore, 1) := by decide +kernel
theorem dX8_clear_49 : decode cX8_clear 49 = .ok (.iinc 1 1, 3) := by decide +kernel
theorem dX8_clear_52 : decode cX8_clear 52 = .ok (.goto (-19), 3) := by decide +kernel
theorem dX8_clear_55 : decode cX8_clear 55 = .ok (.iconst 0, 1) := by decide +kernel
theorem dX8_clear_56 : decode cX8_clear 56 = .ok (.istore_n 1, 1) := by decide +kernel
theorem dX8_clear_57 : decode cX8_clear 57 = .ok (.iload_n 1, 1) := by decide +kernel
theorem dX8_clear_58 : decode cX8_clear 58 = .ok (.aload_n 0, 1) := by decide +kernel
theorem dX8_clear_59 : decode cX8_clear 59 = .ok (.getfield 21, 3) := by decide +kernel
theorem dX8_clear_62 : decode cX8_clear 62 = .ok (.arraylength, 1) := by decide +kernel
theorem dX8_clear_63 : decode cX8_clear 63 = .ok (.if_icmp .ge 16, 3) := by decide +kernel
theorem dX8_clear_66 : decode cX8_clear 66 = .ok (.aload_n 0, 1) := by decide +kernel
theorem dX8_clear_67 : decode cX8_clear 67 = .ok (.getfield 21, 3) := by decide +kernel
theorem dX8_clear_70 : decode cX8_clear 70 = .ok (.iload_n 1, 1) := by decide +kernel
theorem dX8_clear_71 : decode cX8_clear 71 = .ok (.iconst 0, 1) := by decide +kernel
theorem dX8_clear_72 : decode cX8_clear 72 = .ok (.iastore, 1) := by decide +kernel
theorem dX8_clear_73 : decode cX8_clear 73 = .ok (.iinc 1 1, 3) := by decide +kernel
theorem dX8_clear_76 : decode cX8_clear 76 = .ok (.goto (-19), 3) := by decide +kernel
theorem dX8_clear_79 : decode cX8_clear 79 = .ok (.iconst 0, 1) := by decide +kernel
theorem dX8_clear_80 : decode cX8_clear 80 = .ok (.istore_n 1, 1) := by decide +kernel
theorem dX8_clear_81 : decode cX8_clear 81 = .ok (.iload_n 1, 1) := by decide +kernel
theorem dX8_clear_82 : decode cX8_clear 82 = .ok (.aload_n 0, 1) := by decide +kernel
theorem dX8_clear_83 : decode cX8_clear 83 = .ok (.getfield 24, 3) := by decide +kernel
theorem dX8_clear_86 : decode cX8_clear 86 = .ok (.arraylength, 1) := by decide +kernel
theorem dX8_clear_87 : decode cX8_clear 87 = .ok (.if_icmp .ge 16, 3) := by decide +kernel
theorem dX8_clear_90 : decode cX8_clear 90 = .ok (.aload_n 0, 1) := by decide +kernel
theorem dX8_clear_91 : decode cX8_clear 91 = .ok (.getfield 24, 3) := by decide +kernel
theorem dX8_clear_94 : decode cX8_clear 94 = .ok (.iload_n 1, 1) := by decide +kernel
theorem dX8_clear_95 : decode cX8_clear 95 = .ok (.iconst 0, 1) := by decide +kernel
theorem dX8_clear_96 : decode cX8_clear 96 = .ok (.iastore, 1) := by decide +kernel
theorem dX8_clear_97 : decode cX8_clear 97 = .ok (.iinc 1 1, 3) := by decide +kernel
theorem dX8_clear_100 : decode cX8_clear 100 = .ok (.goto (-19), 3) := by decide +kernel
theorem dX8_clear_103 : decode cX8_clear 103 = .ok (.return_, 1) := by decide +kernel
def E_X8_clear_2 (G : GT) (d : Nat) (h0 hb : PH) (l0 : Nat) (Q : PH → Prop) (s : Int32 × PH) : Prop := qEx hb s.2 ∧ qn s.2 = qn hb ∧ qz s.2 = qz hb → Ex G (qrm (0 + d) 0 0) mX8_clear (qn h0) (qz h0) (ZN G h0 0 0 (qqv Q)) 2 [(0, .ref l0), (1, .int s.1)] [] s.2
def E_X8_clear_33 (G : GT) (d : Nat) (h0 hb : PH) (l0 : Nat) (Q : PH → Prop) (s : Int32 × PH) : Prop := qEx hb s.2 ∧ qn s.2 = qn hb ∧ qz s.2 = qz hb → Ex G (qrm (0 + d) 0 0) mX8_clear (qn h0) (qz h0) (ZN G h0 0 0 (qqv Q)) 33 [(0, .ref l0), (1, .int s.1)] [] s.2
def E_X8_clear_57 (G : GT) (d : Nat) (h0 hb : PH) (l0 : Nat) (Q : PH → Prop) (s : Int32 × PH) : Prop := qEx hb s.2 ∧ qn s.2 = qn hb ∧ qz s.2 = qz hb → Ex G (qrm (0 + d) 0 0) mX8_clear (qn h0) (qz h0) (ZN G h0 0 0 (qqv Q)) 57 [(0, .ref l0), (1, .int s.1)] [] s.2
def E_X8_clear_81 (G : GT) (d : Nat) (h0 hb : PH) (l0 : Nat) (Q : PH → Prop) (s : Int32 × PH) : Prop := qEx hb s.2 ∧ qn s.2 = qn hb ∧ qz s.2 = qz hb → Ex G (qrm (0 + d) 0 0) mX8_clear (qn h0) (qz h0) (ZN G h0 0 0 (qqv Q)) 81 [(0, .ref l0), (1, .int s.1)] [] s.2
def wb_X8_clear_81 (l0 : Nat)  (Q : PH → Prop) (bk81 : Int32 × PH → Prop) (l1 : Int32) (h : PH) : Prop := (∃ b29, qR h l0 4 = some b29 ∧ (((nI (qL h b29)) ≤ l1 → Q h) ∧ (¬ ((nI (qL h b29)) ≤ l1) → (∃ b32, qR h l0 4 = some b32 ∧ (vp_in l1 (qL h b32) ∧ ∀ h34, h34 = qsI h b32 l1.toNatClampNeg 0 → ∀ v36 : Int32, v36 = l1 + 1 → bk81 (v36, h34))))))
def wp_X8_clear_81 (l0 : Nat)  (Q : PH → Prop) (bk81 : Int32 × PH → Prop) (s : Int32 × PH) : Prop := wb_X8_clear_81 l0 Q bk81 s.1 s.2
set_option maxHeartbeats 4000000 in
set_option maxRecDepth 100000 in
theorem bd_X8_clear_81 (G : GT) (d : Nat) (h0 hb : PH) (l0 : Nat) (Q : PH → Prop)  (hex : qEx h0 hb) (hnn : qn hb = qn h0 + 0) (hzz : qz hb = qz h0 + 0) (okl0 : qOK hb 8 l0) (bk81 : Int32 × PH → Prop) (hbk81 : ∀ s2, bk81 s2 → E_X8_clear_81 G d h0 hb l0 Q s2) (l1 : Int32) (h : PH) (hwp : wb_X8_clear_81 l0 Q bk81 l1 h) (hx81 : qEx hb h) (hn81 : qn h = qn hb) (hz81 : qz h = qz hb) : Ex G (qrm (0 + d) 0 0) mX8_clear (qn h0) (qz h0) (ZN G h0 0 0 (qqv Q)) 81 [(0, .ref l0), (1, .int l1)] [] h := by
  unfold wb_X8_clear_81 at hwp
  have hex := hex.tr hx81
  have hnn := hn81.trans hnn
  have hzz := hz81.trans hzz
  have okl0 := okl0.ex hx81
  refine x_iload_n (pc := 81) dX8_clear_81 rfl ?_
  refine x_aload_n (pc := 82) dX8_clear_82 rfl ?_
  obtain ⟨b29, e30, hwp⟩ := hwp
  refine x_getR (pc := 83) dX8_clear_83 qRX8_24 okl0 e30 (fun okb29 => ?_)
  refine x_alen (pc := 86) dX8_clear_86 okb29 (by decide) ?_
  refine x_icmp_ge (tgt := 103) (pc := 87) dX8_clear_87 (by decide) (fun c31 => ?_) (fun c31 => ?_)
  · have hwp := hwp.1 c31
    exact x_vret (pc := 103) dX8_clear_103 rfl hex hnn hzz ⟨rfl, hwp⟩
  · have hwp := hwp.2 c31
    refine x_aload_n (pc := 90) dX8_clear_90 rfl ?_
    obtain ⟨b32, e33, hwp⟩ := hwp
    refine x_getR (pc := 91) dX8_clear_91 qRX8_24 okl0 e33 (fun okb32 => ?_)
    refine x_iload_n (pc := 94) dX8_clear_94 rfl ?_
    refine x_iconst (v := 0) (pc := 95) dX8_clear_95 (by decide) ?_
    obtain ⟨i35, hwp⟩ := hwp
    refine y_iastore (pc := 96) dX8_clear_96 okb32 i35 (fun h34 eh34 nxh34 => ?_)
    have hwp := hwp h34 eh34
    have hex := hex.tr nxh34.1
    have hnn := nxh34.2.1.trans hnn
    have hzz := nxh34.2.2.trans hzz
    have hx81 := hx81.tr nxh34.1
    have hn81 := nxh34.2.1.trans hn81
    have hz81 := nxh34.2.2.trans hz81
    have okl0 := okl0.ex nxh34.1
    have okb29 := okb29.ex nxh34.1
    have okb32 := okb32.ex nxh34.1
    refine y_iinc (c := 1) (pc := 97) dX8_clear_97 rfl (by decide) (by decide) (fun v36 ev36 => ?_)
    have hwp := hwp v36 ev36
    refine x_lvE (lv2 := [(1, .int v36), (0, .ref l0)]) rfl ?_
    refine x_goto (tgt := 81) (pc := 100) dX8_clear_100 (by decide) ?_
    refine x_sub [1, 0] rfl ?_
    exact hbk81 _ hwp ⟨hx81, hn81, hz81⟩
theorem lp_X8_clear_81 (G : GT) (d : Nat) (h0 hb : PH) (l0 : Nat) (Q : PH → Prop)  (hex : qEx h0 hb) (hnn : qn hb = qn h0 + 0) (hzz : qz hb = qz h0 + 0) (okl0 : qOK hb 8 l0) {s : Int32 × PH} (hwp : qLoop (wp_X8_clear_81 l0 Q) s) : E_X8_clear_81 G d h0 hb l0 Q s :=
  qLoop.use (E := E_X8_clear_81 G d h0 hb l0 Q) (fun back s hbk hw hx => bd_X8_clear_81 G d h0 hb l0 Q hex hnn hzz okl0 back hbk s.1 s.2 hw hx.1 hx.2.1 hx.2.2) hwp
def wb_X8_clear_57 (l0 : Nat)  (Q : PH → Prop) (bk57 : Int32 × PH → Prop) (l1 : Int32) (h : PH) : Prop := (∃ b21, qR h l0 3 = some b21 ∧ (((nI (qL h b21)) ≤ l1 → (qLoop (wp_X8_clear_81 l0 Q) (0, h))) ∧ (¬ ((nI (qL h b21)) ≤ l1) → (∃ b24, qR h l0 3 = some b24 ∧ (vp_in l1 (qL h b24) ∧ ∀ h26, h26 = qsI h b24 l1.toNatClampNeg 0 → ∀ v28 : Int32, v28 = l1 + 1 → bk57 (v28, h26))))))
def wp_X8_clear_57 (l0 : Nat)  (Q : PH → Prop) (bk57 : Int32 × PH → Prop) (s : Int32 × PH) : Prop := wb_X8_clear_57 l0 Q bk57 s.1 s.2
set_option maxHeartbeats 4000000 in
set_option maxRecDepth 100000 in
theorem bd_X8_clear_57 (G : GT) (d : Nat) (h0 hb : PH) (l0 : Nat) (Q : PH → Prop)  (hex : qEx h0 hb) (hnn : qn hb = qn h0 + 0) (hzz : qz hb = qz h0 + 0) (okl0 : qOK hb 8 l0) (bk57 : Int32 × PH → Prop) (hbk57 : ∀ s2, bk57 s2 → E_X8_clear_57 G d h0 hb l0 Q s2) (l1 : Int32) (h : PH) (hwp : wb_X8_clear_57 l0 Q bk57 l1 h) (hx57 : qEx hb h) (hn57 : qn h = qn hb) (hz57 : qz h = qz hb) : Ex G (qrm (0 + d) 0 0) mX8_clear (qn h0) (qz h0) (ZN G h0 0 0 (qqv Q)) 57 [(0, .ref l0), (1, .int l1)] [] h := by
  unfold wb_X8_clear_57 at hwp
  have hex := hex.tr hx57
  have hnn := hn57.trans hnn
  have hzz := hz57.trans hzz
  have okl0 := okl0.ex hx57
  refine x_iload_n (pc := 57) dX8_clear_57 rfl ?_
  refine x_aload_n (pc := 58) dX8_clear_58 rfl ?_
  obtain ⟨b21, e22, hwp⟩ := hwp
  refine x_getR (pc := 59) dX8_clear_59 qRX8_21 okl0 e22 (fun okb21 => ?_)
  refine x_alen (pc := 62) dX8_clear_62 okb21 (by decide) ?_
  refine x_icmp_ge (tgt := 79) (pc := 63) dX8_clear_63 (by decide) (fun c23 => ?_) (fun c23 => ?_)
  · have hwp := hwp.1 c23
    refine x_iconst (v := 0) (pc := 79) dX8_clear_79 (by decide) ?_
    refine x_istore_n (lv2 := [(1, .int 0), (0, .ref l0)]) (pc := 80) dX8_clear_80 (by decide) rfl ?_
    refine x_sub [1, 0] rfl ?_
    exact lp_X8_clear_81 G d h0 h l0 Q hex hnn hzz okl0 hwp ⟨qEx.rf _, rfl, rfl⟩
  · have hwp := hwp.2 c23
    refine x_aload_n (pc := 66) dX8_clear_66 rfl ?_
    obtain ⟨b24, e25, hwp⟩ := hwp
    refine x_getR (pc := 67) dX8_clear_67 qRX8_21 okl0 e25 (fun okb24 => ?_)
    refine x_iload_n (pc := 70) dX8_clear_70 rfl ?_
    refine x_iconst (v := 0) (pc := 71) dX8_clear_71 (by decide) ?_
    obtain ⟨i27, hwp⟩ := hwp
    refine y_iastore (pc := 72) dX8_clear_72 okb24 i27 (fun h26 eh26 nxh26 => ?_)
    have hwp := hwp h26 eh26
    have hex := hex.tr nxh26.1
    have hnn := nxh26.2.1.trans hnn
    have hzz := nxh26.2.2.trans hzz
    have hx57 := hx57.tr nxh26.1
    have hn57 := nxh26.2.1.trans hn57
    have hz57 := nxh26.2.2.trans hz57
    have okl0 := okl0.ex nxh26.1
    have okb21 := okb21.ex nxh26.1
    have okb24 := okb24.ex nxh26.1
    refine y_iinc (c := 1) (pc := 73) dX8_clear_73 rfl (by decide) (by decide) (fun v28 ev28 => ?_)
    have hwp := hwp v28 ev28
    refine x_lvE (lv2 := [(1, .int v28), (0, .ref l0)]) rfl ?_
    refine x_goto (tgt := 57) (pc := 76) dX8_clear_76 (by decide) ?_
    refine x_sub [1, 0] rfl ?_
    exact hbk57 _ hwp ⟨hx57, hn57, hz57⟩
theorem lp_X8_clear_57 (G : GT) (d : Nat) (h0 hb : PH) (l0 : Nat) (Q : PH → Prop)  (hex : qEx h0 hb) (hnn : qn hb = qn h0 + 0) (hzz : qz hb = qz h0 + 0) (okl0 : qOK hb 8 l0) {s : Int32 × PH} (hwp : qLoop (wp_X8_clear_57 l0 Q) s) : E_X8_clear_57 G d h0 hb l0 Q s :=
  qLoop.use (E := E_X8_clear_57 G d h0 hb l0 Q) (fun back s hbk hw hx => bd_X8_clear_57 G d h0 hb l0 Q hex hnn hzz okl0 back hbk s.1 s.2 hw hx.1 hx.2.1 hx.2.2) hwp
def wb_X8_clear_33 (l0 : Nat)  (Q : PH → Prop) (bk33 : Int32 × PH → Prop) (l1 : Int32) (h : PH) : Prop := (∃ b13, qR h l0 2 = some b13 ∧ (((nI (qL h b13)) ≤ l1 → (qLoop (wp_X8_clear_57 l0 Q) (0, h))) ∧ (¬ ((nI (qL h b13)) ≤ l1) → (∃ b16, qR h l0 2 = some b16 ∧ (vp_in l1 (qL h b16) ∧ ∀ h18, h18 = qsI h b16 l1.toNatClampNeg 0 → ∀ v20 : Int32, v20 = l1 + 1 → bk33 (v20, h18))))))
def wp_X8_clear_33 (l0 : Nat)  (Q : PH → Prop) (bk33 : Int32 × PH → Prop) (s : Int32 × PH) : Prop := wb_X8_clear_33 l0 Q bk33 s.1 s.2
set_option maxHeartbeats 4000000 in
set_option maxRecDepth 100000 in
theorem bd_X8_clear_33 (G : GT) (d : Nat) (h0 hb : PH) (l0 : Nat) (Q : PH → Prop)  (hex : qEx h0 hb) (hnn : qn hb = qn h0 + 0) (hzz : qz hb = qz h0 + 0) (okl0 : qOK hb 8 l0) (bk33 : Int32 × PH → Prop) (hbk33 : ∀ s2, bk33 s2 → E_X8_clear_33 G d h0 hb l0 Q s2) (l1 : Int32) (h : PH) (hwp : wb_X8_clear_33 l0 Q bk33 l1 h) (hx33 : qEx hb h) (hn33 : qn h = qn hb) (hz33 : qz h = qz hb) : Ex G (qrm (0 + d) 0 0) mX8_clear (qn h0) (qz h0) (ZN G h0 0 0 (qqv Q)) 33 [(0, .ref l0), (1, .int l1)] [] h := by
  unfold wb_X8_clear_33 at hwp
  have hex := hex.tr hx33
  have hnn := hn33.trans hnn
  have hzz := hz33.trans hzz
  have okl0 := okl0.ex hx33
  refine x_iload_n (pc := 33) dX8_clear_33 rfl ?_
  refine x_aload_n (pc := 34) dX8_clear_34 rfl ?_
  obtain ⟨b13, e14, hwp⟩ := hwp
  refine x_getR (pc := 35) dX8_clear_35 qRX8_18 okl0 e14 (fun okb13 => ?_)
  refine x_alen (pc := 38) dX8_clear_38 okb13 (by decide) ?_
  refine x_icmp_ge (tgt := 55) (pc := 39) dX8_clear_39 (by decide) (fun c15 => ?_) (fun c15 => ?_)
  · have hwp := hwp.1 c15
    refine x_iconst (v := 0) (pc := 55) dX8_clear_55 (by decide) ?_
    refine x_istore_n (lv2 := [(1, .int 0), (0, .ref l0)]) (pc := 56) dX8_clear_56 (by decide) rfl ?_
    refine x_sub [1, 0] rfl ?_
    exact lp_X8_clear_57 G d h0 h l0 Q hex hnn hzz okl0 hwp ⟨qEx.rf _, rfl, rfl⟩
  · have hwp := hwp.2 c15
    refine x_aload_n (pc := 42) dX8_clear_42 rfl ?_
    obtain ⟨b16, e17, hwp⟩ := hwp
    refine x_getR (pc := 43) dX8_clear_43 qRX8_18 okl0 e17 (fun okb16 => ?_)
    refine x_iload_n (pc := 46) dX8_clear_46 rfl ?_
    refine x_iconst (v := 0) (pc := 47) dX8_clear_47 (by decide) ?_
    obtain ⟨i19, hwp⟩ := hwp
    refine y_iastore (pc := 48) dX8_clear_48 okb16 i19 (fun h18 eh18 nxh18 => ?_)
    have hwp := hwp h18 eh18
    have hex := hex.tr nxh18.1
    have hnn := nxh18.2.1.trans hnn
    have hzz := nxh18.2.2.trans hzz
    have hx33 := hx33.tr nxh18.1
    have hn33 := nxh18.2.1.trans hn33
    have hz33 := nxh18.2.2.trans hz33
    have okl0 := okl0.ex nxh18.1
    have okb13 := okb13.ex nxh18.1
    have okb16 := okb16.ex nxh18.1
    refine y_iinc (c := 1) (pc := 49) dX8_clear_49 rfl (by decide) (by decide) (fun v20 ev20 => ?_)
    have hwp := hwp v20 ev20
    refine x_lvE (lv2 := [(1, .int v20), (0, .ref l0)]) rfl ?_
    refine x_goto (tgt := 33) (pc := 52) dX8_clear_52 (by decide) ?_
    refine x_sub [1, 0] rfl ?_
    exact hbk33 _ hwp ⟨hx33, hn33, hz33⟩
theorem lp_X8_clear_33 (G : GT) (d : Nat) (h0 hb : PH) (l0 : Nat) (Q : PH → Prop)  (hex : qEx h0 hb) (hnn : qn hb = qn h0 + 0) (hzz : qz hb = qz h0 + 0) (okl0 : qOK hb 8 l0) {s : Int32 × PH} (hwp : qLoop (wp_X8_clear_33 l0 Q) s) : E_X8_clear_33 G d h0 hb l0 Q s :=
  qLoop.use (E := E_X8_clear_33 G d h0 hb l0 Q) (fun back s hbk hw hx => bd_X8_clear_33 G d h0 hb l0 Q hex hnn hzz okl0 back hbk s.1 s.2 hw hx.1 hx.2.1 hx.2.2) hwp
def wb_X8_clear_2 (l0 : Nat)  (Q : PH → Prop) (bk2 : Int32 × PH → Prop) (l1 : Int32) (h : PH) : Prop := (∃ b1, qR h l0 0 = some b1 ∧ (((nI (qL h b1)) ≤ l1 → (qLoop (wp_X8_clear_33 l0 Q) (0, h))) ∧ (¬ ((nI (qL h b1)) ≤ l1) → (∃ b4, qR h l0 0 = some b4 ∧ (vp_in l1 (qL h b4) ∧ ∀ h6, h6 = qsI h b4 l1.toNatClampNeg 0 → (∃ b8, qR h6 l0 1 = some b8 ∧ (vp_in l1 (qL h6 b8) ∧ ∀ h10, h10 = qsI h6 b8 l1.toNatClampNeg 0 → ∀ v12 : Int32, v12 = l1 + 1 → bk2 (v12, h10))))))))
def wp_X8_clear_2 (l0 : Nat)  (Q : PH → Prop) (bk2 : Int32 × PH → Prop) (s : Int32 × PH) : Prop := wb_X8_clear_2 l0 Q bk2 s.1 s.2
set_option maxHeartbeats 4000000 in
set_option maxRecDepth 100000 in
theorem bd_X8_clear_2 (G : GT) (d : Nat) (h0 hb : PH) (l0 : Nat) (Q : PH → Prop)  (hex : qEx h0 hb) (hnn : qn hb = qn h0 + 0) (hzz : qz hb = qz h0 + 0) (okl0 : qOK hb 8 l0) (bk2 : Int32 × PH → Prop) (hbk2 : ∀ s2, bk2 s2 → E_X8_clear_2 G d h0 hb l0 Q s2) (l1 : Int32) (h : PH) (hwp : wb_X8_clear_2 l0 Q bk2 l1 h) (hx2 : qEx hb h) (hn2 : qn h = qn hb) (hz2 : qz h = qz hb) : Ex G (qrm (0 + d) 0 0) mX8_clear (qn h0) (qz h0) (ZN G h0 0 0 (qqv Q)) 2 [(0, .ref l0), (1, .int l1)] [] h := by
  unfold wb_X8_clear_2 at hwp
  have hex := hex.tr hx2
  have hnn := hn2.trans hnn
  have hzz := hz2.trans hzz
  have okl0 := okl0.ex hx2
  refine x_iload_n (pc := 2) dX8_clear_2 rfl ?_
  refine x_aload_n (pc := 3) dX8_clear_3 rfl ?_
  obtain ⟨b1, e2, hwp⟩ := hwp
  refine x_getR (pc := 4) dX8_clear_4 qRX8_9 okl0 e2 (fun okb1 => ?_)
  refine x_alen (pc := 7) dX8_clear_7 okb1 (by decide) ?_
  refine x_icmp_ge (tgt := 31) (pc := 8) dX8_clear_8 (by decide) (fun c3 => ?_) (fun c3 => ?_)
  · have hwp := hwp.1 c3
    refine x_iconst (v := 0) (pc := 31) dX8_clear_31 (by decide) ?_
    refine x_istore_n (lv2 := [(1, .int 0), (0, .ref l0)]) (pc := 32) dX8_clear_32 (by decide) rfl ?_
    refine x_sub [1, 0] rfl ?_
    exact lp_X8_clear_33 G d h0 h l0 Q hex hnn hzz okl0 hwp ⟨qEx.rf _, rfl, rfl⟩
  · have hwp := hwp.2 c3
    refine x_aload_n (pc := 11) dX8_clear_11 rfl ?_
    obtain ⟨b4, e5, hwp⟩ := hwp
    refine x_getR (pc := 12) dX8_clear_12 qRX8_9 okl0 e5 (fun okb4 => ?_)
    refine x_iload_n (pc := 15) dX8_clear_15 rfl ?_
    refine x_iconst (v := 0) (pc := 16) dX8_clear_16 (by decide) ?_
    obtain ⟨i7, hwp⟩ := hwp
    refine y_iastore (pc := 17) dX8_clear_17 okb4 i7 (fun h6 eh6 nxh6 => ?_)
    have hwp := hwp h6 eh6
    have hex := hex.tr nxh6.1
    have hnn := nxh6.2.1.trans hnn
    have hzz := nxh6.2.2.trans hzz
    have hx2 := hx2.tr nxh6.1
    have hn2 := nxh6.2.1.trans hn2
    have hz2 := nxh6.2.2.trans hz2
    have okl0 := okl0.ex nxh6.1
    have okb1 := okb1.ex nxh6.1
    have okb4 := okb4.ex nxh6.1
    refine x_aload_n (pc := 18) dX8_clear_18 rfl ?_
    obtain ⟨b8, e9, hwp⟩ := hwp
    refine x_getR (pc := 19) dX8_clear_19 qRX8_15 okl0 e9 (fun okb8 => ?_)
    refine x_iload_n (pc := 22) dX8_clear_22 rfl ?_
    refine x_iconst (v := 0) (pc := 23) dX8_clear_23 (by decide) ?_
    obtain ⟨i11, hwp⟩ := hwp
    refine y_iastore (pc := 24) dX8_clear_24 okb8 i11 (fun h10 eh10 nxh10 => ?_)
    have hwp := hwp h10 eh10
    have hex := hex.tr nxh10.1
    have hnn := nxh10.2.1.trans hnn
    have hzz := nxh10.2.2.trans hzz
    have hx2 := hx2.tr nxh10.1
    have hn2 := nxh10.2.1.trans hn2
    have hz2 := nxh10.2.2.trans hz2
    have okl0 := okl0.ex nxh10.1
    have okb1 := okb1.ex nxh10.1
    have okb4 := okb4.ex nxh10.1
    have okb8 := okb8.ex nxh10.1
    refine y_iinc (c := 1) (pc := 25) dX8_clear_25 rfl (by decide) (by decide) (fun v12 ev12 => ?_)
    have hwp := hwp v12 ev12
    refine x_lvE (lv2 := [(1, .int v12), (0, .ref l0)]) rfl ?_
    refine x_goto (tgt := 2) (pc := 28) dX8_clear_28 (by decide) ?_
    refine x_sub [1, 0] rfl ?_
    exact hbk2 _ hwp ⟨hx2, hn2, hz2⟩
theorem lp_X8_clear_2 (G : GT) (d : Nat) (h0 hb : PH) (l0 : Nat) (Q : PH → Prop)  (hex : qEx h0 hb) (hnn : qn hb = qn h0 + 0) (hzz : qz hb = qz h0 + 0) (okl0 : qOK hb 8 l0) {s : Int32 × PH} (hwp : qLoop (wp_X8_clear_2 l0 Q) s) : E_X8_clear_2 G d h0 hb l0 Q s :=
  qLoop.use (E := E_X8_clear_2 G d h0 hb l0 Q) (fun back s hbk hw hx => bd_X8_clear_2 G d h0 hb l0 Q hex hnn hzz okl0 back hbk s.1 s.2 hw hx.1 hx.2.1 hx.2.2) hwp
def wp_X8_clear (l0 : Nat) (h : PH) (Q : PH → Prop) : Prop := (qLoop (wp_X8_clear_2 l0 Q) (0, h))
set_option maxHeartbeats 4000000 in
set_option maxRecDepth 100000 in
theorem sn_X8_clear (G : GT) (d : Nat) (l0 : Nat) (h : PH) (Q : PH → Prop) (okl0 : qOK h 8 l0) (hwp : wp_X8_clear l0 h Q) : Mt G (0 + d) 0 0 mX8_clear [.ref l0] h (qqv Q) := by
  unfold wp_X8_clear at hwp
  refine Mt.of (by decide) rfl (Nat.le_of_ble_eq_true rfl) ?_
  have hex := qEx.rf h
  have hnn : qn h = qn h + 0 := rfl
  have hzz : qz h = qz h + 0 := rfl
  refine x_lvE (lv2 := [(0, .ref l0)]) rfl ?_
  refine x_iconst (v := 0) (pc := 0) dX8_clear_0 (by decide) ?_
  refine x_istore_n (lv2 := [(1, .int 0), (0, .ref l0)]) (pc := 1) dX8_clear_1 (by decide) rfl ?_
  refine x_sub [1, 0] rfl ?_
  exact lp_X8_clear_2 G d h h l0 Q hex hnn hzz okl0 hwp ⟨qEx.rf _, rfl, rfl⟩

theorem dX8_addValue_0 : decode cX8_addValue 0 = .ok (.aload_n 0, 1) := by decide +kernel
theorem dX8_addValue_1 : decode cX8_addValue 1 = .ok (.getfield 21, 3) := by decide +kernel
theorem dX8_addValue_4 : decode cX8_addValue 4 = .ok (.iload_n 1, 1) := by decide +kernel
theorem dX8_addValue_5 : decode cX8_addValue 5 = .ok (.bipush 48, 2) := by decide +kernel
theorem dX8_addValue_7 : decode cX8_addValue 7 = .ok (.imul, 1) := by decide +kernel
theorem dX8_addValue_8 : decode cX8_addValue 8 = .ok (.iload_n 2, 1) := by decide +kernel
theorem dX8_addValue_9 : decode cX8_addValue 9 = .ok (.iadd, 1) := by decide +kernel
theorem dX8_addValue_10 : decode cX8_addValue 10 = .ok (.dup2, 1) := by decide +kernel
theorem dX8_addValue_11 : decode cX8_addValue 11 = .ok (.iaload, 1) := by decide +kernel
theorem dX8_addValue_12 : decode cX8_addValue 12 = .ok (.iload_n 3, 1) := by decide +kernel
theorem dX8_addValue_13 : decode cX8_addValue 13 = .ok (.iadd, 1) := by decide +kernel
theorem dX8_addValue_14 : decode cX8_addValue 14 = .ok (.iastore, 1) := by decide +kernel
theorem dX8_addValue_15 : decode cX8_addValue 15 = .ok (.return_, 1) := by decide +kernel
def wp_X8_addValue (l0 : Nat) (l1 : Int32) (l2 : Int32) (l3 : Int32) (h : PH) (Q : PH → Prop) : Prop := (∃ b1, qR h l0 3 = some b1 ∧ (vp_in ((l1 * 48) + l2) (qL h b1) ∧ (vp_in ((l1 * 48) + l2) (qL h b1) ∧ ∀ h4, h4 = qsI h b1 ((l1 * 48) + l2).toNatClampNeg ((qI h b1 ((l1 * 48) + l2).toNatClampNeg) + l3) → Q h4)))
set_option maxHeartbeats 4000000 in
set_option maxRecDepth 100000 in
theorem sn_X8_addValue (G : GT) (d : Nat) (l0 : Nat) (l1 : Int32) (l2 : Int32) (l3 : Int32) (h : PH) (Q : PH → Prop) (okl0 : qOK h 8 l0) (hwp : wp_X8_addValue l0 l1 l2 l3 h Q) : Mt G (0 + d) 0 0 mX8_addValue [.ref l0, .int l1, .int l2, .int l3] h (qqv Q) := by
  unfold wp_X8_addValue at hwp
  refine Mt.of (by decide) rfl (Nat.le_of_ble_eq_true rfl) ?_
  have hex := qEx.rf h
  have hnn : qn h = qn h + 0 := rfl
  have hzz : qz h = qz h + 0 := rfl
  refine x_lvE (lv2 := [(0, .ref l0), (1, .int l1), (2, .int l2), (3, .int l3)]) rfl ?_
  refine x_aload_n (pc := 0) dX8_addValue_0 rfl ?_
  obtain ⟨b1, e2, hwp⟩ := hwp
  refine x_getR (pc := 1) dX8_addValue_1 qRX8_21 okl0 e2 (fun okb1 => ?_)
  refine x_iload_n (pc := 4) dX8_addValue_4 rfl ?_
  refine x_bipush (v := 48) (pc := 5) dX8_addValue_5 (by decide) ?_
  refine x_imul (pc := 7) dX8_addValue_7 ?_
  refine x_iload_n (pc := 8) dX8_addValue_8 rfl ?_
  refine x_iadd (pc := 9) dX8_addValue_9 ?_
  refine x_dup2 (pc := 10) dX8_addValue_10 rfl rfl ?_
  obtain ⟨i3, hwp⟩ := hwp
  refine x_iaload (pc := 11) dX8_addValue_11 okb1 i3 ?_
  refine x_iload_n (pc := 12) dX8_addValue_12 rfl ?_
  refine x_iadd (pc := 13) dX8_addValue_13 ?_
  obtain ⟨i5, hwp⟩ := hwp
  refine y_iastore (pc := 14) dX8_addValue_14 okb1 i5 (fun h4 eh4 nxh4 => ?_)
  have hwp := hwp h4 eh4
  have hex := hex.tr nxh4.1
  have hnn := nxh4.2.1.trans hnn
  have hzz := nxh4.2.2.trans hzz
  have okl0 := okl0.ex nxh4.1
  have okb1 := okb1.ex nxh4.1
  exact x_vret (pc := 15) dX8_addValue_15 rfl hex hnn hzz ⟨rfl, hwp⟩

theorem dX8_addStep_0 : decode cX8_addStep 0 = .ok (.aload_n 1, 1) := by decide +kernel
theorem dX8_addStep_1 : decode cX8_addStep 1 = .ok (.iload_n 2, 1) := by decide +kernel
theorem dX8_addStep_2 : decode cX8_addStep 2 = .ok (.iconst 0, 1) := by decide +kernel
theorem dX8_addStep_3 : decode cX8_addStep 3 = .ok (.aload_n 0, 1) := by decide +kernel
theorem dX8_addStep_4 : decode cX8_addStep 4 = .ok (.getfield 29, 3) := by decide +kernel
theorem dX8_addStep_7 : decode cX8_addStep 7 = .ok (.invokevirtual 55, 3) := by decide +kernel
theorem dX8_addStep_10 : decode cX8_addStep 10 = .ok (.istore_n 3, 1) := by decide +kernel
theorem dX8_addStep_11 : decode cX8_addStep 11 = .ok (.aload_n 0, 1) := by decide +kernel
theorem dX8_addStep_12 : decode cX8_addStep 12 = .ok (.getfield 9, 3) := by decide +kernel
theorem dX8_addStep_15 : decode cX8_addStep 15 = .ok (.iload_n 2, 1) := by decide +kernel
theorem dX8_addStep_16 : decode cX8_addStep 16 = .ok (.dup2, 1) := by decide +kernel
theorem dX8_addStep_17 : decode cX8_addStep 17 = .ok (.iaload, 1) := by decide +kernel
theorem dX8_addStep_18 : decode cX8_addStep 18 = .ok (.iload_n 3, 1) := by decide +kernel
theorem dX8_addStep_19 : decode cX8_addStep 19 = .ok (.iadd, 1) := by decide +kernel
theorem dX8_addStep_20 : decode cX8_addStep 20 = .ok (.iastore, 1) := by decide +kernel
theorem dX8_addStep_21 : decode cX8_addStep 21 = .ok (.aload_n 0, 1) := by decide +kernel
theorem dX8_addStep_22 : decode cX8_addStep 22 = .ok (.iload_n 3, 1) := by decide +kernel
theorem dX8_addStep_23 : decode cX8_addStep 23 = .ok (.ifCond .le 7, 3) := by decide +kernel
theorem dX8_addStep_26 : decode cX8_addStep 26 = .ok (.iconst 5, 1) := by decide +kernel
theorem dX8_addStep_27 : decode cX8_addStep 27 = .ok (.goto 5, 3) := by decide +kernel
theorem dX8_addStep_30 : decode cX8_addStep 30 = .ok (.bipush 6, 2) := by decide +kernel
theorem dX8_addStep_32 : decode cX8_addStep 32 = .ok (.iload_n 2, 1) := by decide +kernel
theorem dX8_addStep_33 : decode cX8_addStep 33 = .ok (.iload_n 3, 1) := by decide +kernel
theorem dX8_addStep_34 : decode cX8_addStep 34 = .ok (.invokestatic 61, 3) := by decide +kernel
theorem dX8_addStep_37 : decode cX8_addStep 37 = .ok (.invokevirtual 67, 3) := by decide +kernel
theorem dX8_addStep_40 : decode cX8_addStep 40 = .ok (.aload_n 1, 1) := by decide +kernel
theorem dX8_addStep_41 : decode cX8_addStep 41 = .ok (.getfield 71, 3) := by decide +kernel
theorem dX8_addStep_44 : decode cX8_addStep 44 = .ok (.iconst 4, 1) := by decide +kernel
theorem dX8_addStep_45 : decode cX8_addStep 45 = .ok (.if_icmp .ne 13, 3) := by decide +kernel
theorem dX8_addStep_48 : decode cX8_addStep 48 = .ok (.aload_n 0, 1) := by decide +kernel
theorem dX8_addStep_49 : decode cX8_addStep 49 = .ok (.getfield 15, 3) := by decide +kernel
theorem dX8_addStep_52 : decode cX8_addStep 52 = .ok (.iload_n 2, 1) := by decide +kernel
theorem dX8_addStep_53 : decode cX8_addStep 53 = .ok (.dup2, 1) := by decide +kernel
theorem dX8_addStep_54 : decode cX8_addStep 54 = .ok (.iaload, 1) := by decide +kernel
theorem dX8_addStep_55 : decode cX8_addStep 55 = .ok (.iload_n 3, 1) := by decide +kernel
theorem dX8_addStep_56 : decode cX8_addStep 56 = .ok (.iadd, 1) := by decide +kernel
theorem dX8_addStep_57 : decode cX8_addStep 57 = .ok (.iastore, 1) := by decide +kernel
theorem dX8_addStep_58 : decode cX8_addStep 58 = .ok (.iconst 0, 1) := by decide +kernel
theorem dX8_addStep_59 : decode cX8_addStep 59 = .ok (.istore 4, 2) := by decide +kernel
theorem dX8_addStep_61 : decode cX8_addStep 61 = .ok (.iload 4, 2) := by decide +kernel
theorem dX8_addStep_63 : decode cX8_addStep 63 = .ok (.iconst 4, 1) := by decide +kernel
theorem dX8_addStep_64 : decode cX8_addStep 64 = .ok (.if_icmp .ge 50, 3) := by decide +kernel
theorem dX8_addStep_67 : decode cX8_addStep 67 = .ok (.aload_n 1, 1) := by decide +kernel
theorem dX8_addStep_68 : decode cX8_addStep 68 = .ok (.invokevirtual 74, 3) := by decide +kernel
theorem dX8_addStep_71 : decode cX8_addStep 71 = .ok (.iconst 1, 1) := by decide +kernel
theorem dX8_addStep_72 : decode cX8_addStep 72 = .ok (.iload 4, 2) := by decide +kernel
theorem dX8_addStep_74 : decode cX8_addStep 74 = .ok (.ishl, 1) := by decide +kernel
theorem dX8_addStep_75 : decode cX8_addStep 75 = .ok (.if_icmp .ne 33, 3) := by decide +kernel
theorem dX8_addStep_78 : decode cX8_addStep 78 = .ok (.aload_n 0, 1) := by decide +kernel
theorem dX8_addStep_79 : decode cX8_addStep 79 = .ok (.getfield 18, 3) := by decide +kernel
theorem dX8_addStep_82 : decode cX8_addStep 82 = .ok (.iload 4, 2) := by decide +kernel
theorem dX8_addStep_84 : decode cX8_addStep 84 = .ok (.bipush 48, 2) := by decide +kernel
theorem dX8_addStep_86 : decode cX8_addStep 86 = .ok (.imul, 1) := by decide +kernel
theorem dX8_addStep_87 : decode cX8_addStep 87 = .ok (.iload_n 2, 1) := by decide +kernel
theorem dX8_addStep_88 : decode cX8_addStep 88 = .ok (.iadd, 1) := by decide +kernel
theorem dX8_addStep_89 : decode cX8_addStep 89 = .ok (.dup2, 1) := by decide +kernel
theorem dX8_addStep_90 : decode cX8_addStep 90 = .ok (.iaload, 1) := by decide +kernel
theorem dX8_addStep_91 : decode cX8_addStep 91 = .ok (.aload_n 1, 1) := by decide +kernel
theorem dX8_addStep_92 : decode cX8_addStep 92 = .ok (.iload_n 2, 1) := by decide +kernel
theorem dX8_addStep_93 : decode cX8_addStep 93 = .ok (.aload_n 1, 1) := by decide +kernel
theorem dX8_addStep_94 : decode cX8_addStep 94 = .ok (.invokevirtual 74, 3) := by decide +kernel
theorem dX8_addStep_97 : decode cX8_addStep 97 = .ok (.aload_n 0, 1) := by decide +kernel
theorem dX8_addStep_98 : decode cX8_addStep 98 = .ok (.getfield 29, 3) := by decide +kernel
theorem dX8_addStep_101 : decode cX8_addStep 101 = .ok (.invokevirtual 55, 3) := by decide +kernel
theorem dX8_addStep_104 : decode cX8_addStep 104 = .ok (.iload_n 3, 1) := by decide +kernel
theorem dX8_addStep_105 : decode cX8_addStep 105 = .ok (.isub, 1) := by decide +kernel
theorem dX8_addStep_106 : decode cX8_addStep 106 = .ok (.iadd, 1) := by decide +kernel
theorem dX8_addStep_107 : decode cX8_addStep 107 = .ok (.iastore, 1) := by decide +kernel
theorem dX8_addStep_108 : decode cX8_addStep 108 = .ok (.iinc 4 1, 3) := by decide +kernel
theorem dX8_addStep_111 : decode cX8_addStep 111 = .ok (.goto (-50), 3) := by decide +kernel
theorem dX8_addStep_114 : decode cX8_addStep 114 = .ok (.return_, 1) := by decide +kernel
def E_X8_addStep_61 (G : GT) (d : Nat) (h0 hb : PH) (l0 : Nat) (l1 : Nat) (l2 : Int32) (l3 : Int32) (Q : PH → Prop) (s : Int32 × PH) : Prop := qEx hb s.2 ∧ qn s.2 = qn hb ∧ qz s.2 = qz hb → Ex G (qrm (4 + d) 0 0) mX8_addStep (qn h0) (qz h0) (ZN G h0 0 0 (qqv Q)) 61 [(0, .ref l0), (1, .ref l1), (2, .int l2), (3, .int l3), (4, .int s.1)] [] s.2
def wb_X8_addStep_61 (l0 : Nat) (l1 : Nat) (l2 : Int32) (l3 : Int32)  (Q : PH → Prop) (bk61 : Int32 × PH → Prop) (l4 : Int32) (h : PH) : Prop := ((4 ≤ l4 → Q h) ∧ (¬ (4 ≤ l4) → (wp_X4_law l1 h (fun r21 h20 => ((¬ r21 = (1 <<< (l4 &&& 31)) → ∀ v23 : Int32, v23 = l4 + 1 → bk61 (v23, h20)) ∧ (r21 = (1 <<< (l4 &&& 31)) → (∃ b24, qR h20 l0 2 = some b24 ∧ (vp_in ((l4 * 48) + l2) (qL h20 b24) ∧ (wp_X4_law l1 h20 (fun r28 h27 => (wp_X4_givesIn l1 l2 r28 (qI h27 l0 5) h27 (fun r30 h29 => (vp_in ((l4 * 48) + l2) (qL h29 b24) ∧ ∀ h31, h31 = qsI h29 b24 ((l4 * 48) + l2).toNatClampNeg ((qI h20 b24 ((l4 * 48) + l2).toNatClampNeg) + (r30 - l3)) → ∀ v33 : Int32, v33 = l4 + 1 → bk61 (v33, h31))))))))))))))
def wp_X8_addStep_61 (l0 : Nat) (l1 : Nat) (l2 : Int32) (l3 : Int32)  (Q : PH → Prop) (bk61 : Int32 × PH → Prop) (s : Int32 × PH) : Prop := wb_X8_addStep_61 l0 l1 l2 l3 Q bk61 s.1 s.2
set_option maxHeartbeats 4000000 in
set_option maxRecDepth 100000 in
theorem bd_X8_addStep_61 (G : GT) (d : Nat) (h0 hb : PH) (l0 : Nat) (l1 : Nat) (l2 : Int32) (l3 : Int32) (Q : PH → Prop)  (hex : qEx h0 hb) (hnn : qn hb = qn h0 + 0) (hzz : qz hb = qz h0 + 0) (okl0 : qOK hb 8 l0) (okl1 : qOK hb 4 l1) (bk61 : Int32 × PH → Prop) (hbk61 : ∀ s2, bk61 s2 → E_X8_addStep_61 G d h0 hb l0 l1 l2 l3 Q s2) (l4 : Int32) (h : PH) (hwp : wb_X8_addStep_61 l0 l1 l2 l3 Q bk61 l4 h) (hx61 : qEx hb h) (hn61 : qn h = qn hb) (hz61 : qz h = qz hb) : Ex G (qrm (4 + d) 0 0) mX8_addStep (qn h0) (qz h0) (ZN G h0 0 0 (qqv Q)) 61 [(0, .ref l0), (1, .ref l1), (2, .int l2), (3, .int l3), (4, .int l4)] [] h := by
  unfold wb_X8_addStep_61 at hwp
  have hex := hex.tr hx61
  have hnn := hn61.trans hnn
  have hzz := hz61.trans hzz
  have okl0 := okl0.ex hx61
  have okl1 := okl1.ex hx61
  refine x_iload (pc := 61) dX8_addStep_61 rfl ?_
  refine x_iconst (v := 4) (pc := 63) dX8_addStep_63 (by decide) ?_
  refine x_icmp_ge (tgt := 114) (pc := 64) dX8_addStep_64 (by decide) (fun c19 => ?_) (fun c19 => ?_)
  · have hwp := hwp.1 c19
    exact x_vret (pc := 114) dX8_addStep_114 rfl hex hnn hzz ⟨rfl, hwp⟩
  · have hwp := hwp.2 c19
    refine x_aload_n (pc := 67) dX8_addStep_67 rfl ?_
    refine x_invV (As := []) (st := []) (pc := 68) dX8_addStep_68 lRX8_74 fX4_law vX4_law okl1 rfl (Nat.le_of_ble_eq_true rfl) (q_R (by omega) (by decide)) (q_C hnn hzz (by decide) (by decide)) (sn_X4_law G (d + 3) l1 h _ okl1 hwp) (k_i (fun r21 h20 hwp cxh20 => ?_))
    have hex := hex.tr cxh20.1
    have hnn : qn h20 = qn h0 + 0 := by have := cxh20.2.1; omega
    have hzz : qz h20 = qz h0 + 0 := by have := cxh20.2.2; omega
    have hx61 := hx61.tr cxh20.1
    have hn61 : qn h20 = qn hb := by have := cxh20.2.1; omega
    have hz61 : qz h20 = qz hb := by have := cxh20.2.2; omega
    have okl0 := okl0.ex cxh20.1
    have okl1 := okl1.ex cxh20.1
    refine x_iconst (v := 1) (pc := 71) dX8_addStep_71 (by decide) ?_
    refine x_iload (pc := 72) dX8_addStep_72 rfl ?_
    refine x_ishl (pc := 74) dX8_addStep_74 ?_
    refine x_icmp_ne (tgt := 108) (pc := 75) dX8_addStep_75 (by decide) (fun c22 => ?_) (fun c22 => ?_)
    · have hwp := hwp.1 c22
      refine y_iinc (c := 1) (pc := 108) dX8_addStep_108 rfl (by decide) (by decide) (fun v23 ev23 => ?_)
      have hwp := hwp v23 ev23
      refine x_lvE (lv2 := [(4, .int v23), (0, .ref l0), (1, .ref l1), (2, .int l2), (3, .int l3)]) rfl ?_
      refine x_goto (tgt := 61) (pc := 111) dX8_addStep_111 (by decide) ?_
      refine x_sub [1, 2, 3, 4, 0] rfl ?_
      exact hbk61 _ hwp ⟨hx61, hn61, hz61⟩
    · have hwp := hwp.2 c22
      refine x_aload_n (pc := 78) dX8_addStep_78 rfl ?_
      obtain ⟨b24, e25, hwp⟩ := hwp
      refine x_getR (pc := 79) dX8_addStep_79 qRX8_18 okl0 e25 (fun okb24 => ?_)
      refine x_iload (pc := 82) dX8_addStep_82 rfl ?_
      refine x_bipush (v := 48) (pc := 84) dX8_addStep_84 (by decide) ?_
      refine x_imul (pc := 86) dX8_addStep_86 ?_
      refine x_iload_n (pc := 87) dX8_addStep_87 rfl ?_
      refine x_iadd (pc := 88) dX8_addStep_88 ?_
      refine x_dup2 (pc := 89) dX8_addStep_89 rfl rfl ?_
      obtain ⟨i26, hwp⟩ := hwp
      refine x_iaload (pc := 90) dX8_addStep_90 okb24 i26 ?_
      refine x_aload_n (pc := 91) dX8_addStep_91 rfl ?_
      refine x_iload_n (pc := 92) dX8_addStep_92 rfl ?_
      refine x_aload_n (pc := 93) dX8_addStep_93 rfl ?_
      refine x_invV (As := []) (st := [.int l2, .ref l1, .int (qI h20 b24 ((l4 * 48) + l2).toNatClampNeg), .int ((l4 * 48) + l2), .ref b24]) (pc := 94) dX8_addStep_94 lRX8_74 fX4_law vX4_law okl1 rfl (Nat.le_of_ble_eq_true rfl) (q_R (by omega) (by decide)) (q_C hnn hzz (by decide) (by decide)) (sn_X4_law G (d + 3) l1 h20 _ okl1 hwp) (k_i (fun r28 h27 hwp cxh27 => ?_))
      have hex := hex.tr cxh27.1
      have hnn : qn h27 = qn h0 + 0 := by have := cxh27.2.1; omega
      have hzz : qz h27 = qz h0 + 0 := by have := cxh27.2.2; omega
      have hx61 := hx61.tr cxh27.1
      have hn61 : qn h27 = qn hb := by have := cxh27.2.1; omega
      have hz61 : qz h27 = qz hb := by have := cxh27.2.2; omega
      have okl0 := okl0.ex cxh27.1
      have okl1 := okl1.ex cxh27.1
      have okb24 := okb24.ex cxh27.1
      refine x_aload_n (pc := 97) dX8_addStep_97 rfl ?_
      refine x_getI (pc := 98) dX8_addStep_98 qRX8_29 okl0 (by decide) ?_
      refine x_invV (As := [.int l2, .int r28, .int (qI h27 l0 5)]) (st := [.int (qI h20 b24 ((l4 * 48) + l2).toNatClampNeg), .int ((l4 * 48) + l2), .ref b24]) (pc := 101) dX8_addStep_101 lRX8_55 fX4_givesIn vX4_givesIn okl1 rfl (Nat.le_of_ble_eq_true rfl) (q_R (by omega) (by decide)) (q_C hnn hzz (by decide) (by decide)) (sn_X4_givesIn G (d + 0) l1 l2 r28 (qI h27 l0 5) h27 _ okl1 hwp) (k_i (fun r30 h29 hwp cxh29 => ?_))
      have hex := hex.tr cxh29.1
      have hnn : qn h29 = qn h0 + 0 := by have := cxh29.2.1; omega
      have hzz : qz h29 = qz h0 + 0 := by have := cxh29.2.2; omega
      have hx61 := hx61.tr cxh29.1
      have hn61 : qn h29 = qn hb := by have := cxh29.2.1; omega
      have hz61 : qz h29 = qz hb := by have := cxh29.2.2; omega
      have okl0 := okl0.ex cxh29.1
      have okl1 := okl1.ex cxh29.1
      have okb24 := okb24.ex cxh29.1
      refine x_iload_n (pc := 104) dX8_addStep_104 rfl ?_
      refine x_isub (pc := 105) dX8_addStep_105 ?_
      refine x_iadd (pc := 106) dX8_addStep_106 ?_
      obtain ⟨i32, hwp⟩ := hwp
      refine y_iastore (pc := 107) dX8_addStep_107 okb24 i32 (fun h31 eh31 nxh31 => ?_)
      have hwp := hwp h31 eh31
      have hex := hex.tr nxh31.1
      have hnn := nxh31.2.1.trans hnn
      have hzz := nxh31.2.2.trans hzz
      have hx61 := hx61.tr nxh31.1
      have hn61 := nxh31.2.1.trans hn61
      have hz61 := nxh31.2.2.trans hz61
      have okl0 := okl0.ex nxh31.1
      have okl1 := okl1.ex nxh31.1
      have okb24 := okb24.ex nxh31.1
      refine y_iinc (c := 1) (pc := 108) dX8_addStep_108 rfl (by decide) (by decide) (fun v33 ev33 => ?_)
      have hwp := hwp v33 ev33
      refine x_lvE (lv2 := [(4, .int v33), (0, .ref l0), (1, .ref l1), (2, .int l2), (3, .int l3)]) rfl ?_
      refine x_goto (tgt := 61) (pc := 111) dX8_addStep_111 (by decide) ?_
      refine x_sub [1, 2, 3, 4, 0] rfl ?_
      exact hbk61 _ hwp ⟨hx61, hn61, hz61⟩
theorem lp_X8_addStep_61 (G : GT) (d : Nat) (h0 hb : PH) (l0 : Nat) (l1 : Nat) (l2 : Int32) (l3 : Int32) (Q : PH → Prop)  (hex : qEx h0 hb) (hnn : qn hb = qn h0 + 0) (hzz : qz hb = qz h0 + 0) (okl0 : qOK hb 8 l0) (okl1 : qOK hb 4 l1) {s : Int32 × PH} (hwp : qLoop (wp_X8_addStep_61 l0 l1 l2 l3 Q) s) : E_X8_addStep_61 G d h0 hb l0 l1 l2 l3 Q s :=
  qLoop.use (E := E_X8_addStep_61 G d h0 hb l0 l1 l2 l3 Q) (fun back s hbk hw hx => bd_X8_addStep_61 G d h0 hb l0 l1 l2 l3 Q hex hnn hzz okl0 okl1 back hbk s.1 s.2 hw hx.1 hx.2.1 hx.2.2) hwp
def wp_X8_addStep_32 (l0 : Nat) (l1 : Nat) (l2 : Int32) (l3 : Int32) (s0 : Int32) (s1 : Nat)  (h : PH) (Q : PH → Prop) : Prop := (wp_J9_abs_0f7a4 l3 h (fun r10 h9 => (wp_X8_addValue s1 s0 l2 r10 h9 (fun h11 => ((¬ (qI h11 l1 0) = 4 → (qLoop (wp_X8_addStep_61 l0 l1 l2 l3 Q) (0, h11))) ∧ ((qI h11 l1 0) = 4 → (∃ b14, qR h11 l0 1 = some b14 ∧ (vp_in l2 (qL h11 b14) ∧ (vp_in l2 (qL h11 b14) ∧ ∀ h17, h17 = qsI h11 b14 l2.toNatClampNeg ((qI h11 b14 l2.toNatClampNeg) + l3) → (qLoop (wp_X8_addStep_61 l0 l1 l2 l3 Q) (0, h17)))))))))))
set_option maxHeartbeats 4000000 in
set_option maxRecDepth 100000 in
theorem sg_X8_addStep_32 (G : GT) (d : Nat) (h0 : PH) (l0 : Nat) (l1 : Nat) (l2 : Int32) (l3 : Int32) (s0 : Int32) (s1 : Nat) (h : PH) (Q : PH → Prop) (hex : qEx h0 h) (hnn : qn h = qn h0 + 0) (hzz : qz h = qz h0 + 0) (okl0 : qOK h 8 l0) (okl1 : qOK h 4 l1) (oks1 : qOK h 8 s1) (hwp : wp_X8_addStep_32 l0 l1 l2 l3 s0 s1 h Q) : Ex G (qrm (4 + d) 0 0) mX8_addStep (qn h0) (qz h0) (ZN G h0 0 0 (qqv Q)) 32 [(0, .ref l0), (1, .ref l1), (2, .int l2), (3, .int l3)] [.int s0, .ref s1] h := by
  unfold wp_X8_addStep_32 at hwp
  refine x_iload_n (pc := 32) dX8_addStep_32 rfl ?_
  refine x_iload_n (pc := 33) dX8_addStep_33 rfl ?_
  refine x_invS (As := [.int l3]) (st := [.int l2, .int s0, .ref s1]) (pc := 34) dX8_addStep_34 lRX8_61 fJ9_abs_0f7a4 sJ9_abs_0f7a4 rfl (Nat.le_of_ble_eq_true rfl) (q_R (by omega) (by decide)) (q_C hnn hzz (by decide) (by decide)) (sn_J9_abs_0f7a4 G (d + 3) l3 h _  hwp) (k_i (fun r10 h9 hwp cxh9 => ?_))
  have hex := hex.tr cxh9.1
  have hnn : qn h9 = qn h0 + 0 := by have := cxh9.2.1; omega
  have hzz : qz h9 = qz h0 + 0 := by have := cxh9.2.2; omega
  have okl0 := okl0.ex cxh9.1
  have okl1 := okl1.ex cxh9.1
  have oks1 := oks1.ex cxh9.1
  refine x_invV (As := [.int s0, .int l2, .int r10]) (st := []) (pc := 37) dX8_addStep_37 lRX8_67 fX8_addValue vX8_addValue oks1 rfl (Nat.le_of_ble_eq_true rfl) (q_R (by omega) (by decide)) (q_C hnn hzz (by decide) (by decide)) (sn_X8_addValue G (d + 3) s1 s0 l2 r10 h9 _ oks1 hwp) (k_v (fun h11 hwp cxh11 => ?_))
  have hex := hex.tr cxh11.1
  have hnn : qn h11 = qn h0 + 0 := by have := cxh11.2.1; omega
  have hzz : qz h11 = qz h0 + 0 := by have := cxh11.2.2; omega
  have okl0 := okl0.ex cxh11.1
  have okl1 := okl1.ex cxh11.1
  have oks1 := oks1.ex cxh11.1
  refine x_aload_n (pc := 40) dX8_addStep_40 rfl ?_
  refine x_getI (pc := 41) dX8_addStep_41 qRX8_71 okl1 (by decide) ?_
  refine x_iconst (v := 4) (pc := 44) dX8_addStep_44 (by decide) ?_
  refine x_icmp_ne (tgt := 58) (pc := 45) dX8_addStep_45 (by decide) (fun c13 => ?_) (fun c13 => ?_)
  · have hwp := hwp.1 c13
    refine x_iconst (v := 0) (pc := 58) dX8_addStep_58 (by decide) ?_
    refine x_istore (lv2 := [(4, .int 0), (0, .ref l0), (1, .ref l1), (2, .int l2), (3, .int l3)]) (pc := 59) dX8_addStep_59 (by decide) rfl ?_
    refine x_sub [1, 2, 3, 4, 0] rfl ?_
    exact lp_X8_addStep_61 G d h0 h11 l0 l1 l2 l3 Q hex hnn hzz okl0 okl1 hwp ⟨qEx.rf _, rfl, rfl⟩
  · have hwp := hwp.2 c13
    refine x_aload_n (pc := 48) dX8_addStep_48 rfl ?_
    obtain ⟨b14, e15, hwp⟩ := hwp
    refine x_getR (pc := 49) dX8_addStep_49 qRX8_15 okl0 e15 (fun okb14 => ?_)
    refine x_iload_n (pc := 52) dX8_addStep_52 rfl ?_
    refine x_dup2 (pc := 53) dX8_addStep_53 rfl rfl ?_
    obtain ⟨i16, hwp⟩ := hwp
    refine x_iaload (pc := 54) dX8_addStep_54 okb14 i16 ?_
    refine x_iload_n (pc := 55) dX8_addStep_55 rfl ?_
    refine x_iadd (pc := 56) dX8_addStep_56 ?_
    obtain ⟨i18, hwp⟩ := hwp
    refine y_iastore (pc := 57) dX8_addStep_57 okb14 i18 (fun h17 eh17 nxh17 => ?_)
    have hwp := hwp h17 eh17
    have hex := hex.tr nxh17.1
    have hnn := nxh17.2.1.trans hnn
    have hzz := nxh17.2.2.trans hzz
    have okl0 := okl0.ex nxh17.1
    have okl1 := okl1.ex nxh17.1
    have oks1 := oks1.ex nxh17.1
    have okb14 := okb14.ex nxh17.1
    refine x_iconst (v := 0) (pc := 58) dX8_addStep_58 (by decide) ?_
    refine x_istore (lv2 := [(4, .int 0), (0, .ref l0), (1, .ref l1), (2, .int l2), (3, .int l3)]) (pc := 59) dX8_addStep_59 (by decide) rfl ?_
    refine x_sub [1, 2, 3, 4, 0] rfl ?_
    exact lp_X8_addStep_61 G d h0 h17 l0 l1 l2 l3 Q hex hnn hzz okl0 okl1 hwp ⟨qEx.rf _, rfl, rfl⟩
def wp_X8_addStep (l0 : Nat) (l1 : Nat) (l2 : Int32) (h : PH) (Q : PH → Prop) : Prop := (wp_X4_givesIn l1 l2 0 (qI h l0 5) h (fun r2 h1 => (∃ b3, qR h1 l0 0 = some b3 ∧ (vp_in l2 (qL h1 b3) ∧ (vp_in l2 (qL h1 b3) ∧ ∀ h6, h6 = qsI h1 b3 l2.toNatClampNeg ((qI h1 b3 l2.toNatClampNeg) + r2) → ((r2 ≤ 0 → (wp_X8_addStep_32 l0 l1 l2 r2 6 l0 h6 Q)) ∧ (¬ (r2 ≤ 0) → (wp_X8_addStep_32 l0 l1 l2 r2 5 l0 h6 Q))))))))
set_option maxHeartbeats 4000000 in
set_option maxRecDepth 100000 in
theorem sn_X8_addStep (G : GT) (d : Nat) (l0 : Nat) (l1 : Nat) (l2 : Int32) (h : PH) (Q : PH → Prop) (okl0 : qOK h 8 l0) (okl1 : qOK h 4 l1) (hwp : wp_X8_addStep l0 l1 l2 h Q) : Mt G (4 + d) 0 0 mX8_addStep [.ref l0, .ref l1, .int l2] h (qqv Q) := by
  unfold wp_X8_addStep at hwp
  refine Mt.of (by decide) rfl (Nat.le_of_ble_eq_true rfl) ?_
  have hex := qEx.rf h
  have hnn : qn h = qn h + 0 := rfl
  have hzz : qz h = qz h + 0 := rfl
  refine x_lvE (lv2 := [(0, .ref l0), (1, .ref l1), (2, .int l2)]) rfl ?_
  refine x_aload_n (pc := 0) dX8_addStep_0 rfl ?_
  refine x_iload_n (pc := 1) dX8_addStep_1 rfl ?_
  refine x_iconst (v := 0) (pc := 2) dX8_addStep_2 (by decide) ?_
  refine x_aload_n (pc := 3) dX8_addStep_3 rfl ?_
  refine x_getI (pc := 4) dX8_addStep_4 qRX8_29 okl0 (by decide) ?_
  refine x_invV (As := [.int l2, .int 0, .int (qI h l0 5)]) (st := []) (pc := 7) dX8_addStep_7 lRX8_55 fX4_givesIn vX4_givesIn okl1 rfl (Nat.le_of_ble_eq_true rfl) (q_R (by omega) (by decide)) (q_C hnn hzz (by decide) (by decide)) (sn_X4_givesIn G (d + 0) l1 l2 0 (qI h l0 5) h _ okl1 hwp) (k_i (fun r2 h1 hwp cxh1 => ?_))
  have hex := hex.tr cxh1.1
  have hnn : qn h1 = qn h + 0 := by have := cxh1.2.1; omega
  have hzz : qz h1 = qz h + 0 := by have := cxh1.2.2; omega
  have okl0 := okl0.ex cxh1.1
  have okl1 := okl1.ex cxh1.1
  refine x_istore_n (lv2 := [(3, .int r2), (0, .ref l0), (1, .ref l1), (2, .int l2)]) (pc := 10) dX8_addStep_10 (by decide) rfl ?_
  refine x_aload_n (pc := 11) dX8_addStep_11 rfl ?_
  obtain ⟨b3, e4, hwp⟩ := hwp
  refine x_getR (pc := 12) dX8_addStep_12 qRX8_9 okl0 e4 (fun okb3 => ?_)
  refine x_iload_n (pc := 15) dX8_addStep_15 rfl ?_
  refine x_dup2 (pc := 16) dX8_addStep_16 rfl rfl ?_
  obtain ⟨i5, hwp⟩ := hwp
  refine x_iaload (pc := 17) dX8_addStep_17 okb3 i5 ?_
  refine x_iload_n (pc := 18) dX8_addStep_18 rfl ?_
  refine x_iadd (pc := 19) dX8_addStep_19 ?_
  obtain ⟨i7, hwp⟩ := hwp
  refine y_iastore (pc := 20) dX8_addStep_20 okb3 i7 (fun h6 eh6 nxh6 => ?_)
  have hwp := hwp h6 eh6
  have hex := hex.tr nxh6.1
  have hnn := nxh6.2.1.trans hnn
  have hzz := nxh6.2.2.trans hzz
  have okl0 := okl0.ex nxh6.1
  have okl1 := okl1.ex nxh6.1
  have okb3 := okb3.ex nxh6.1
  refine x_aload_n (pc := 21) dX8_addStep_21 rfl ?_
  refine x_iload_n (pc := 22) dX8_addStep_22 rfl ?_
  refine x_if_le (tgt := 30) (pc := 23) dX8_addStep_23 (by decide) (fun c8 => ?_) (fun c8 => ?_)
  · have hwp := hwp.1 c8
    refine x_bipush (v := 6) (pc := 30) dX8_addStep_30 (by decide) ?_
    refine x_sub [1, 2, 3, 0] rfl ?_
    exact sg_X8_addStep_32 G d h l0 l1 l2 r2 6 l0 h6 Q hex hnn hzz okl0 okl1 okl0 hwp
  · have hwp := hwp.2 c8
    refine x_iconst (v := 5) (pc := 26) dX8_addStep_26 (by decide) ?_
    refine x_goto (tgt := 32) (pc := 27) dX8_addStep_27 (by decide) ?_
    refine x_sub [1, 2, 3, 0] rfl ?_
    exact sg_X8_addStep_32 G d h l0 l1 l2 r2 5 l0 h6 Q hex hnn hzz okl0 okl1 okl0 hwp

theorem dX8_addPlace_0 : decode cX8_addPlace 0 = .ok (.aload_n 1, 1) := by decide +kernel
theorem dX8_addPlace_1 : decode cX8_addPlace 1 = .ok (.iload_n 2, 1) := by decide +kernel
theorem dX8_addPlace_2 : decode cX8_addPlace 2 = .ok (.aload_n 0, 1) := by decide +kernel
theorem dX8_addPlace_3 : decode cX8_addPlace 3 = .ok (.getfield 29, 3) := by decide +kernel
theorem dX8_addPlace_6 : decode cX8_addPlace 6 = .ok (.invokevirtual 78, 3) := by decide +kernel
theorem dX8_addPlace_9 : decode cX8_addPlace 9 = .ok (.istore_n 3, 1) := by decide +kernel
theorem dX8_addPlace_10 : decode cX8_addPlace 10 = .ok (.aload_n 1, 1) := by decide +kernel
theorem dX8_addPlace_11 : decode cX8_addPlace 11 = .ok (.getfield 71, 3) := by decide +kernel
theorem dX8_addPlace_14 : decode cX8_addPlace 14 = .ok (.iconst 1, 1) := by decide +kernel
theorem dX8_addPlace_15 : decode cX8_addPlace 15 = .ok (.if_icmp .ne 18, 3) := by decide +kernel
theorem dX8_addPlace_18 : decode cX8_addPlace 18 = .ok (.aload_n 1, 1) := by decide +kernel
theorem dX8_addPlace_19 : decode cX8_addPlace 19 = .ok (.iload_n 3, 1) := by decide +kernel
theorem dX8_addPlace_20 : decode cX8_addPlace 20 = .ok (.invokevirtual 82, 3) := by decide +kernel
theorem dX8_addPlace_23 : decode cX8_addPlace 23 = .ok (.ifCond .eq 10, 3) := by decide +kernel
theorem dX8_addPlace_26 : decode cX8_addPlace 26 = .ok (.aload_n 0, 1) := by decide +kernel
theorem dX8_addPlace_27 : decode cX8_addPlace 27 = .ok (.iconst 4, 1) := by decide +kernel
theorem dX8_addPlace_28 : decode cX8_addPlace 28 = .ok (.iload_n 2, 1) := by decide +kernel
theorem dX8_addPlace_29 : decode cX8_addPlace 29 = .ok (.iconst 1, 1) := by decide +kernel
theorem dX8_addPlace_30 : decode cX8_addPlace 30 = .ok (.invokevirtual 67, 3) := by decide +kernel
theorem dX8_addPlace_33 : decode cX8_addPlace 33 = .ok (.aload_n 1, 1) := by decide +kernel
theorem dX8_addPlace_34 : decode cX8_addPlace 34 = .ok (.getfield 71, 3) := by decide +kernel
theorem dX8_addPlace_37 : decode cX8_addPlace 37 = .ok (.ifCond .eq 4, 3) := by decide +kernel
theorem dX8_addPlace_40 : decode cX8_addPlace 40 = .ok (.return_, 1) := by decide +kernel
theorem dX8_addPlace_41 : decode cX8_addPlace 41 = .ok (.aload_n 0, 1) := by decide +kernel
theorem dX8_addPlace_42 : decode cX8_addPlace 42 = .ok (.bipush 7, 2) := by decide +kernel
theorem dX8_addPlace_44 : decode cX8_addPlace 44 = .ok (.iload_n 2, 1) := by decide +kernel
theorem dX8_addPlace_45 : decode cX8_addPlace 45 = .ok (.iload_n 3, 1) := by decide +kernel
theorem dX8_addPlace_46 : decode cX8_addPlace 46 = .ok (.aload_n 0, 1) := by decide +kernel
theorem dX8_addPlace_47 : decode cX8_addPlace 47 = .ok (.getfield 29, 3) := by decide +kernel
theorem dX8_addPlace_50 : decode cX8_addPlace 50 = .ok (.invokestatic 86, 3) := by decide +kernel
theorem dX8_addPlace_53 : decode cX8_addPlace 53 = .ok (.invokevirtual 67, 3) := by decide +kernel
theorem dX8_addPlace_56 : decode cX8_addPlace 56 = .ok (.iload_n 3, 1) := by decide +kernel
theorem dX8_addPlace_57 : decode cX8_addPlace 57 = .ok (.aload_n 0, 1) := by decide +kernel
theorem dX8_addPlace_58 : decode cX8_addPlace 58 = .ok (.getfield 29, 3) := by decide +kernel
theorem dX8_addPlace_61 : decode cX8_addPlace 61 = .ok (.iconst 2, 1) := by decide +kernel
theorem dX8_addPlace_62 : decode cX8_addPlace 62 = .ok (.idiv, 1) := by decide +kernel
theorem dX8_addPlace_63 : decode cX8_addPlace 63 = .ok (.if_icmp .le 29, 3) := by decide +kernel
theorem dX8_addPlace_66 : decode cX8_addPlace 66 = .ok (.aload_n 0, 1) := by decide +kernel
theorem dX8_addPlace_67 : decode cX8_addPlace 67 = .ok (.iconst 0, 1) := by decide +kernel
theorem dX8_addPlace_68 : decode cX8_addPlace 68 = .ok (.iload_n 2, 1) := by decide +kernel
theorem dX8_addPlace_69 : decode cX8_addPlace 69 = .ok (.aload_n 1, 1) := by decide +kernel
theorem dX8_addPlace_70 : decode cX8_addPlace 70 = .ok (.getfield 89, 3) := by decide +kernel
theorem dX8_addPlace_73 : decode cX8_addPlace 73 = .ok (.aload_n 1, 1) := by decide +kernel
theorem dX8_addPlace_74 : decode cX8_addPlace 74 = .ok (.iload_n 3, 1) := by decide +kernel
theorem dX8_addPlace_75 : decode cX8_addPlace 75 = .ok (.invokevirtual 92, 3) := by decide +kernel
theorem dX8_addPlace_78 : decode cX8_addPlace 78 = .ok (.imul, 1) := by decide +kernel
theorem dX8_addPlace_79 : decode cX8_addPlace 79 = .ok (.invokevirtual 67, 3) := by decide +kernel
theorem dX8_addPlace_82 : decode cX8_addPlace 82 = .ok (.aload_n 0, 1) := by decide +kernel
theorem dX8_addPlace_83 : decode cX8_addPlace 83 = .ok (.iconst 2, 1) := by decide +kernel
theorem dX8_addPlace_84 : decode cX8_addPlace 84 = .ok (.iload_n 2, 1) := by decide +kernel
theorem dX8_addPlace_85 : decode cX8_addPlace 85 = .ok (.iconst 1, 1) := by decide +kernel
theorem dX8_addPlace_86 : decode cX8_addPlace 86 = .ok (.invokevirtual 67, 3) := by decide +kernel
theorem dX8_addPlace_89 : decode cX8_addPlace 89 = .ok (.goto 40, 3) := by decide +kernel
theorem dX8_addPlace_92 : decode cX8_addPlace 92 = .ok (.iload_n 3, 1) := by decide +kernel
theorem dX8_addPlace_93 : decode cX8_addPlace 93 = .ok (.ifCond .le 36, 3) := by decide +kernel
theorem dX8_addPlace_96 : decode cX8_addPlace 96 = .ok (.iload_n 3, 1) := by decide +kernel
theorem dX8_addPlace_97 : decode cX8_addPlace 97 = .ok (.aload_n 0, 1) := by decide +kernel
theorem dX8_addPlace_98 : decode cX8_addPlace 98 = .ok (.getfield 29, 3) := by decide +kernel
theorem dX8_addPlace_101 : decode cX8_addPlace 101 = .ok (.iconst 2, 1) := by decide +kernel
theorem dX8_addPlace_102 : decode cX8_addPlace 102 = .ok (.idiv, 1) := by decide +kernel
theorem dX8_addPlace_103 : decode cX8_addPlace 103 = .ok (.if_icmp .ge 26, 3) := by decide +kernel
theorem dX8_addPlace_106 : decode cX8_addPlace 106 = .ok (.aload_n 0, 1) := by decide +kernel
theorem dX8_addPlace_107 : decode cX8_addPlace 107 = .ok (.iconst 1, 1) := by decide +kernel
theorem dX8_addPlace_108 : decode cX8_addPlace 108 = .ok (.iload_n 2, 1) := by decide +kernel
theorem dX8_addPlace_109 : decode cX8_addPlace 109 = .ok (.aload_n 1, 1) := by decide +kernel
theorem dX8_addPlace_110 : decode cX8_addPlace 110 = .ok (.getfield 89, 3) := by decide +kernel
theorem dX8_addPlace_113 : decode cX8_addPlace 113 = .ok (.aload_n 1, 1) := by decide +kernel
theorem dX8_addPlace_114 : decode cX8_addPlace 114 = .ok (.iload_n 3, 1) := by decide +kernel
theorem dX8_addPlace_115 : decode cX8_addPlace 115 = .ok (.invokevirtual 92, 3) := by decide +kernel
theorem dX8_addPlace_118 : decode cX8_addPlace 118 = .ok (.imul, 1) := by decide +kernel
theorem dX8_addPlace_119 : decode cX8_addPlace 119 = .ok (.invokevirtual 67, 3) := by decide +kernel
theorem dX8_addPlace_122 : decode cX8_addPlace 122 = .ok (.aload_n 0, 1) := by decide +kernel
theorem dX8_addPlace_123 : decode cX8_addPlace 123 = .ok (.iconst 3, 1) := by decide +kernel
theorem dX8_addPlace_124 : decode cX8_addPlace 124 = .ok (.iload_n 2, 1) := by decide +kernel
theorem dX8_addPlace_125 : decode cX8_addPlace 125 = .ok (.iconst 1, 1) := by decide +kernel
theorem dX8_addPlace_126 : decode cX8_addPlace 126 = .ok (.invokevirtual 67, 3) := by decide +kernel
theorem dX8_addPlace_129 : decode cX8_addPlace 129 = .ok (.return_, 1) := by decide +kernel
def wp_X8_addPlace_33 (l0 : Nat) (l1 : Nat) (l2 : Int32) (l3 : Int32)  (h : PH) (Q : PH → Prop) : Prop := (((qI h l1 0) = 0 → (wp_X4_highOf l3 (qI h l0 5) h (fun r11 h10 => (wp_X8_addValue l0 7 l2 r11 h10 (fun h12 => ((l3 ≤ ((qI h12 l0 5) / 2) → ((l3 ≤ 0 → Q h12) ∧ (¬ (l3 ≤ 0) → ((((qI h12 l0 5) / 2) ≤ l3 → Q h12) ∧ (¬ (((qI h12 l0 5) / 2) ≤ l3) → (wp_X4_armAt l1 l3 h12 (fun r18 h17 => (wp_X8_addValue l0 1 l2 ((qI h12 l1 3) * r18) h17 (fun h19 => (wp_X8_addValue l0 3 l2 1 h19 (fun h21 => Q h21))))))))))) ∧ (¬ (l3 ≤ ((qI h12 l0 5) / 2)) → (wp_X4_armAt l1 l3 h12 (fun r24 h23 => (wp_X8_addValue l0 0 l2 ((qI h12 l1 3) * r24) h23 (fun h25 => (wp_X8_addValue l0 2 l2 1 h25 (fun h27 => Q h27))))))))))))) ∧ (¬ ((qI h l1 0) = 0) → Q h))
set_option maxHeartbeats 4000000 in
set_option maxRecDepth 100000 in
theorem sg_X8_addPlace_33 (G : GT) (d : Nat) (h0 : PH) (l0 : Nat) (l1 : Nat) (l2 : Int32) (l3 : Int32) (h : PH) (Q : PH → Prop) (hex : qEx h0 h) (hnn : qn h = qn h0 + 0) (hzz : qz h = qz h0 + 0) (okl0 : qOK h 8 l0) (okl1 : qOK h 4 l1) (hwp : wp_X8_addPlace_33 l0 l1 l2 l3 h Q) : Ex G (qrm (2 + d) 0 0) mX8_addPlace (qn h0) (qz h0) (ZN G h0 0 0 (qqv Q)) 33 [(0, .ref l0), (1, .ref l1), (2, .int l2), (3, .int l3)] [] h := by
  unfold wp_X8_addPlace_33 at hwp
  refine x_aload_n (pc := 33) dX8_addPlace_33 rfl ?_
  refine x_getI (pc := 34) dX8_addPlace_34 qRX8_71 okl1 (by decide) ?_
  refine x_if_eq (tgt := 41) (pc := 37) dX8_addPlace_37 (by decide) (fun c9 => ?_) (fun c9 => ?_)
  · have hwp := hwp.1 c9
    refine x_aload_n (pc := 41) dX8_addPlace_41 rfl ?_
    refine x_bipush (v := 7) (pc := 42) dX8_addPlace_42 (by decide) ?_
    refine x_iload_n (pc := 44) dX8_addPlace_44 rfl ?_
    refine x_iload_n (pc := 45) dX8_addPlace_45 rfl ?_
    refine x_aload_n (pc := 46) dX8_addPlace_46 rfl ?_
    refine x_getI (pc := 47) dX8_addPlace_47 qRX8_29 okl0 (by decide) ?_
    refine x_invS (As := [.int l3, .int (qI h l0 5)]) (st := [.int l2, .int 7, .ref l0]) (pc := 50) dX8_addPlace_50 lRX8_86 fX4_highOf sX4_highOf rfl (Nat.le_of_ble_eq_true rfl) (q_R (by omega) (by decide)) (q_C hnn hzz (by decide) (by decide)) (sn_X4_highOf G (d + 1) l3 (qI h l0 5) h _  hwp) (k_i (fun r11 h10 hwp cxh10 => ?_))
    have hex := hex.tr cxh10.1
    have hnn : qn h10 = qn h0 + 0 := by have := cxh10.2.1; omega
    have hzz : qz h10 = qz h0 + 0 := by have := cxh10.2.2; omega
    have okl0 := okl0.ex cxh10.1
    have okl1 := okl1.ex cxh10.1
    refine x_invV (As := [.int 7, .int l2, .int r11]) (st := []) (pc := 53) dX8_addPlace_53 lRX8_67 fX8_addValue vX8_addValue okl0 rfl (Nat.le_of_ble_eq_true rfl) (q_R (by omega) (by decide)) (q_C hnn hzz (by decide) (by decide)) (sn_X8_addValue G (d + 1) l0 7 l2 r11 h10 _ okl0 hwp) (k_v (fun h12 hwp cxh12 => ?_))
    have hex := hex.tr cxh12.1
    have hnn : qn h12 = qn h0 + 0 := by have := cxh12.2.1; omega
    have hzz : qz h12 = qz h0 + 0 := by have := cxh12.2.2; omega
    have okl0 := okl0.ex cxh12.1
    have okl1 := okl1.ex cxh12.1
    refine x_iload_n (pc := 56) dX8_addPlace_56 rfl ?_
    refine x_aload_n (pc := 57) dX8_addPlace_57 rfl ?_
    refine x_getI (pc := 58) dX8_addPlace_58 qRX8_29 okl0 (by decide) ?_
    refine x_iconst (v := 2) (pc := 61) dX8_addPlace_61 (by decide) ?_
    refine x_idiv (pc := 62) dX8_addPlace_62 (by decide) ?_
    refine x_icmp_le (tgt := 92) (pc := 63) dX8_addPlace_63 (by decide) (fun c14 => ?_) (fun c14 => ?_)
    · have hwp := hwp.1 c14
      refine x_iload_n (pc := 92) dX8_addPlace_92 rfl ?_
      refine x_if_le (tgt := 129) (pc := 93) dX8_addPlace_93 (by decide) (fun c15 => ?_) (fun c15 => ?_)
      · have hwp := hwp.1 c15
        exact x_vret (pc := 129) dX8_addPlace_129 rfl hex hnn hzz ⟨rfl, hwp⟩
      · have hwp := hwp.2 c15
        refine x_iload_n (pc := 96) dX8_addPlace_96 rfl ?_
        refine x_aload_n (pc := 97) dX8_addPlace_97 rfl ?_
        refine x_getI (pc := 98) dX8_addPlace_98 qRX8_29 okl0 (by decide) ?_
        refine x_iconst (v := 2) (pc := 101) dX8_addPlace_101 (by decide) ?_
        refine x_idiv (pc := 102) dX8_addPlace_102 (by decide) ?_
        refine x_icmp_ge (tgt := 129) (pc := 103) dX8_addPlace_103 (by decide) (fun c16 => ?_) (fun c16 => ?_)
        · have hwp := hwp.1 c16
          exact x_vret (pc := 129) dX8_addPlace_129 rfl hex hnn hzz ⟨rfl, hwp⟩
        · have hwp := hwp.2 c16
          refine x_aload_n (pc := 106) dX8_addPlace_106 rfl ?_
          refine x_iconst (v := 1) (pc := 107) dX8_addPlace_107 (by decide) ?_
          refine x_iload_n (pc := 108) dX8_addPlace_108 rfl ?_
          refine x_aload_n (pc := 109) dX8_addPlace_109 rfl ?_
          refine x_getI (pc := 110) dX8_addPlace_110 qRX8_89 okl1 (by decide) ?_
          refine x_aload_n (pc := 113) dX8_addPlace_113 rfl ?_
          refine x_iload_n (pc := 114) dX8_addPlace_114 rfl ?_
          refine x_invV (As := [.int l3]) (st := [.int (qI h12 l1 3), .int l2, .int 1, .ref l0]) (pc := 115) dX8_addPlace_115 lRX8_92 fX4_armAt vX4_armAt okl1 rfl (Nat.le_of_ble_eq_true rfl) (q_R (by omega) (by decide)) (q_C hnn hzz (by decide) (by decide)) (sn_X4_armAt G (d + 0) l1 l3 h12 _ okl1 hwp) (k_i (fun r18 h17 hwp cxh17 => ?_))
          have hex := hex.tr cxh17.1
          have hnn : qn h17 = qn h0 + 0 := by have := cxh17.2.1; omega
          have hzz : qz h17 = qz h0 + 0 := by have := cxh17.2.2; omega
          have okl0 := okl0.ex cxh17.1
          have okl1 := okl1.ex cxh17.1
          refine x_imul (pc := 118) dX8_addPlace_118 ?_
          refine x_invV (As := [.int 1, .int l2, .int ((qI h12 l1 3) * r18)]) (st := []) (pc := 119) dX8_addPlace_119 lRX8_67 fX8_addValue vX8_addValue okl0 rfl (Nat.le_of_ble_eq_true rfl) (q_R (by omega) (by decide)) (q_C hnn hzz (by decide) (by decide)) (sn_X8_addValue G (d + 1) l0 1 l2 ((qI h12 l1 3) * r18) h17 _ okl0 hwp) (k_v (fun h19 hwp cxh19 => ?_))
          have hex := hex.tr cxh19.1
          have hnn : qn h19 = qn h0 + 0 := by have := cxh19.2.1; omega
          have hzz : qz h19 = qz h0 + 0 := by have := cxh19.2.2; omega
          have okl0 := okl0.ex cxh19.1
          have okl1 := okl1.ex cxh19.1
          refine x_aload_n (pc := 122) dX8_addPlace_122 rfl ?_
          refine x_iconst (v := 3) (pc := 123) dX8_addPlace_123 (by decide) ?_
          refine x_iload_n (pc := 124) dX8_addPlace_124 rfl ?_
          refine x_iconst (v := 1) (pc := 125) dX8_addPlace_125 (by decide) ?_
          refine x_invV (As := [.int 3, .int l2, .int 1]) (st := []) (pc := 126) dX8_addPlace_126 lRX8_67 fX8_addValue vX8_addValue okl0 rfl (Nat.le_of_ble_eq_true rfl) (q_R (by omega) (by decide)) (q_C hnn hzz (by decide) (by decide)) (sn_X8_addValue G (d + 1) l0 3 l2 1 h19 _ okl0 hwp) (k_v (fun h21 hwp cxh21 => ?_))
          have hex := hex.tr cxh21.1
          have hnn : qn h21 = qn h0 + 0 := by have := cxh21.2.1; omega
          have hzz : qz h21 = qz h0 + 0 := by have := cxh21.2.2; omega
          have okl0 := okl0.ex cxh21.1
          have okl1 := okl1.ex cxh21.1
          exact x_vret (pc := 129) dX8_addPlace_129 rfl hex hnn hzz ⟨rfl, hwp⟩
    · have hwp := hwp.2 c14
      refine x_aload_n (pc := 66) dX8_addPlace_66 rfl ?_
      refine x_iconst (v := 0) (pc := 67) dX8_addPlace_67 (by decide) ?_
      refine x_iload_n (pc := 68) dX8_addPlace_68 rfl ?_
      refine x_aload_n (pc := 69) dX8_addPlace_69 rfl ?_
      refine x_getI (pc := 70) dX8_addPlace_70 qRX8_89 okl1 (by decide) ?_
      refine x_aload_n (pc := 73) dX8_addPlace_73 rfl ?_
      refine x_iload_n (pc := 74) dX8_addPlace_74 rfl ?_
      refine x_invV (As := [.int l3]) (st := [.int (qI h12 l1 3), .int l2, .int 0, .ref l0]) (pc := 75) dX8_addPlace_75 lRX8_92 fX4_armAt vX4_armAt okl1 rfl (Nat.le_of_ble_eq_true rfl) (q_R (by omega) (by decide)) (q_C hnn hzz (by decide) (by decide)) (sn_X4_armAt G (d + 0) l1 l3 h12 _ okl1 hwp) (k_i (fun r24 h23 hwp cxh23 => ?_))
      have hex := hex.tr cxh23.1
      have hnn : qn h23 = qn h0 + 0 := by have := cxh23.2.1; omega
      have hzz : qz h23 = qz h0 + 0 := by have := cxh23.2.2; omega
      have okl0 := okl0.ex cxh23.1
      have okl1 := okl1.ex cxh23.1
      refine x_imul (pc := 78) dX8_addPlace_78 ?_
      refine x_invV (As := [.int 0, .int l2, .int ((qI h12 l1 3) * r24)]) (st := []) (pc := 79) dX8_addPlace_79 lRX8_67 fX8_addValue vX8_addValue okl0 rfl (Nat.le_of_ble_eq_true rfl) (q_R (by omega) (by decide)) (q_C hnn hzz (by decide) (by decide)) (sn_X8_addValue G (d + 1) l0 0 l2 ((qI h12 l1 3) * r24) h23 _ okl0 hwp) (k_v (fun h25 hwp cxh25 => ?_))
      have hex := hex.tr cxh25.1
      have hnn : qn h25 = qn h0 + 0 := by have := cxh25.2.1; omega
      have hzz : qz h25 = qz h0 + 0 := by have := cxh25.2.2; omega
      have okl0 := okl0.ex cxh25.1
      have okl1 := okl1.ex cxh25.1
      refine x_aload_n (pc := 82) dX8_addPlace_82 rfl ?_
      refine x_iconst (v := 2) (pc := 83) dX8_addPlace_83 (by decide) ?_
      refine x_iload_n (pc := 84) dX8_addPlace_84 rfl ?_
      refine x_iconst (v := 1) (pc := 85) dX8_addPlace_85 (by decide) ?_
      refine x_invV (As := [.int 2, .int l2, .int 1]) (st := []) (pc := 86) dX8_addPlace_86 lRX8_67 fX8_addValue vX8_addValue okl0 rfl (Nat.le_of_ble_eq_true rfl) (q_R (by omega) (by decide)) (q_C hnn hzz (by decide) (by decide)) (sn_X8_addValue G (d + 1) l0 2 l2 1 h25 _ okl0 hwp) (k_v (fun h27 hwp cxh27 => ?_))
      have hex := hex.tr cxh27.1
      have hnn : qn h27 = qn h0 + 0 := by have := cxh27.2.1; omega
      have hzz : qz h27 = qz h0 + 0 := by have := cxh27.2.2; omega
      have okl0 := okl0.ex cxh27.1
      have okl1 := okl1.ex cxh27.1
      refine x_goto (tgt := 129) (pc := 89) dX8_addPlace_89 (by decide) ?_
      exact x_vret (pc := 129) dX8_addPlace_129 rfl hex hnn hzz ⟨rfl, hwp⟩
  · have hwp := hwp.2 c9
    exact x_vret (pc := 40) dX8_addPlace_40 rfl hex hnn hzz ⟨rfl, hwp⟩
def wp_X8_addPlace (l0 : Nat) (l1 : Nat) (l2 : Int32) (h : PH) (Q : PH → Prop) : Prop := (wp_X4_placeAt l1 l2 (qI h l0 5) h (fun r2 h1 => ((¬ (qI h1 l1 0) = 1 → (wp_X8_addPlace_33 l0 l1 l2 r2 h1 Q)) ∧ ((qI h1 l1 0) = 1 → (wp_X4_isWithin l1 r2 h1 (fun r5 h4 => ((r5 = 0 → (wp_X8_addPlace_33 l0 l1 l2 r2 h4 Q)) ∧ (¬ (r5 = 0) → (wp_X8_addValue l0 4 l2 1 h4 (fun h7 => (wp_X8_addPlace_33 l0 l1 l2 r2 h7 Q)))))))))))
set_option maxHeartbeats 4000000 in
set_option maxRecDepth 100000 in
theorem sn_X8_addPlace (G : GT) (d : Nat) (l0 : Nat) (l1 : Nat) (l2 : Int32) (h : PH) (Q : PH → Prop) (okl0 : qOK h 8 l0) (okl1 : qOK h 4 l1) (hwp : wp_X8_addPlace l0 l1 l2 h Q) : Mt G (2 + d) 0 0 mX8_addPlace [.ref l0, .ref l1, .int l2] h (qqv Q) := by
  unfold wp_X8_addPlace at hwp
  refine Mt.of (by decide) rfl (Nat.le_of_ble_eq_true rfl) ?_
  have hex := qEx.rf h
  have hnn : qn h = qn h + 0 := rfl
  have hzz : qz h = qz h + 0 := rfl
  refine x_lvE (lv2 := [(0, .ref l0), (1, .ref l1), (2, .int l2)]) rfl ?_
  refine x_aload_n (pc := 0) dX8_addPlace_0 rfl ?_
  refine x_iload_n (pc := 1) dX8_addPlace_1 rfl ?_
  refine x_aload_n (pc := 2) dX8_addPlace_2 rfl ?_
  refine x_getI (pc := 3) dX8_addPlace_3 qRX8_29 okl0 (by decide) ?_
  refine x_invV (As := [.int l2, .int (qI h l0 5)]) (st := []) (pc := 6) dX8_addPlace_6 lRX8_78 fX4_placeAt vX4_placeAt okl1 rfl (Nat.le_of_ble_eq_true rfl) (q_R (by omega) (by decide)) (q_C hnn hzz (by decide) (by decide)) (sn_X4_placeAt G (d + 1) l1 l2 (qI h l0 5) h _ okl1 hwp) (k_i (fun r2 h1 hwp cxh1 => ?_))
  have hex := hex.tr cxh1.1
  have hnn : qn h1 = qn h + 0 := by have := cxh1.2.1; omega
  have hzz : qz h1 = qz h + 0 := by have := cxh1.2.2; omega
  have okl0 := okl0.ex cxh1.1
  have okl1 := okl1.ex cxh1.1
  refine x_istore_n (lv2 := [(3, .int r2), (0, .ref l0), (1, .ref l1), (2, .int l2)]) (pc := 9) dX8_addPlace_9 (by decide) rfl ?_
  refine x_aload_n (pc := 10) dX8_addPlace_10 rfl ?_
  refine x_getI (pc := 11) dX8_addPlace_11 qRX8_71 okl1 (by decide) ?_
  refine x_iconst (v := 1) (pc := 14) dX8_addPlace_14 (by decide) ?_
  refine x_icmp_ne (tgt := 33) (pc := 15) dX8_addPlace_15 (by decide) (fun c3 => ?_) (fun c3 => ?_)
  · have hwp := hwp.1 c3
    refine x_sub [1, 2, 3, 0] rfl ?_
    exact sg_X8_addPlace_33 G d h l0 l1 l2 r2 h1 Q hex hnn hzz okl0 okl1 hwp
  · have hwp := hwp.2 c3
    refine x_aload_n (pc := 18) dX8_addPlace_18 rfl ?_
    refine x_iload_n (pc := 19) dX8_addPlace_19 rfl ?_
    refine x_invV (As := [.int r2]) (st := []) (pc := 20) dX8_addPlace_20 lRX8_82 fX4_isWithin vX4_isWithin okl1 rfl (Nat.le_of_ble_eq_true rfl) (q_R (by omega) (by decide)) (q_C hnn hzz (by decide) (by decide)) (sn_X4_isWithin G (d + 1) l1 r2 h1 _ okl1 hwp) (k_b (fun r5 h4 hwp zbr5 cxh4 => ?_))
    have hex := hex.tr cxh4.1
    have hnn : qn h4 = qn h + 0 := by have := cxh4.2.1; omega
    have hzz : qz h4 = qz h + 0 := by have := cxh4.2.2; omega
    have okl0 := okl0.ex cxh4.1
    have okl1 := okl1.ex cxh4.1
    refine x_if_eq (tgt := 33) (pc := 23) dX8_addPlace_23 (by decide) (fun c6 => ?_) (fun c6 => ?_)
    · have hwp := hwp.1 c6
      refine x_sub [1, 2, 3, 0] rfl ?_
      exact sg_X8_addPlace_33 G d h l0 l1 l2 r2 h4 Q hex hnn hzz okl0 okl1 hwp
    · have hwp := hwp.2 c6
      refine x_aload_n (pc := 26) dX8_addPlace_26 rfl ?_
      refine x_iconst (v := 4) (pc := 27) dX8_addPlace_27 (by decide) ?_
      refine x_iload_n (pc := 28) dX8_addPlace_28 rfl ?_
      refine x_iconst (v := 1) (pc := 29) dX8_addPlace_29 (by decide) ?_
      refine x_invV (As := [.int 4, .int l2, .int 1]) (st := []) (pc := 30) dX8_addPlace_30 lRX8_67 fX8_addValue vX8_addValue okl0 rfl (Nat.le_of_ble_eq_true rfl) (q_R (by omega) (by decide)) (q_C hnn hzz (by decide) (by decide)) (sn_X8_addValue G (d + 1) l0 4 l2 1 h4 _ okl0 hwp) (k_v (fun h7 hwp cxh7 => ?_))
      have hex := hex.tr cxh7.1
      have hnn : qn h7 = qn h + 0 := by have := cxh7.2.1; omega
      have hzz : qz h7 = qz h + 0 := by have := cxh7.2.2; omega
      have okl0 := okl0.ex cxh7.1
      have okl1 := okl1.ex cxh7.1
      refine x_sub [1, 2, 3, 0] rfl ?_
      exact sg_X8_addPlace_33 G d h l0 l1 l2 r2 h7 Q hex hnn hzz okl0 okl1 hwp

theorem dX8_tell_0 : decode cX8_tell 0 = .ok (.aload_n 0, 1) := by decide +kernel
theorem dX8_tell_1 : decode cX8_tell 1 = .ok (.aload_n 1, 1) := by decide +kernel
theorem dX8_tell_2 : decode cX8_tell 2 = .ok (.getfield 36, 3) := by decide +kernel
theorem dX8_tell_5 : decode cX8_tell 5 = .ok (.putfield 29, 3) := by decide +kernel
theorem dX8_tell_8 : decode cX8_tell 8 = .ok (.aload_n 0, 1) := by decide +kernel
theorem dX8_tell_9 : decode cX8_tell 9 = .ok (.aload_n 1, 1) := by decide +kernel
theorem dX8_tell_10 : decode cX8_tell 10 = .ok (.getfield 37, 3) := by decide +kernel
theorem dX8_tell_13 : decode cX8_tell 13 = .ok (.putfield 33, 3) := by decide +kernel
theorem dX8_tell_16 : decode cX8_tell 16 = .ok (.aload_n 0, 1) := by decide +kernel
theorem dX8_tell_17 : decode cX8_tell 17 = .ok (.invokevirtual 38, 3) := by decide +kernel
theorem dX8_tell_20 : decode cX8_tell 20 = .ok (.iconst 0, 1) := by decide +kernel
theorem dX8_tell_21 : decode cX8_tell 21 = .ok (.istore_n 2, 1) := by decide +kernel
theorem dX8_tell_22 : decode cX8_tell 22 = .ok (.iload_n 2, 1) := by decide +kernel
theorem dX8_tell_23 : decode cX8_tell 23 = .ok (.aload_n 1, 1) := by decide +kernel
theorem dX8_tell_24 : decode cX8_tell 24 = .ok (.getfield 41, 3) := by decide +kernel
theorem dX8_tell_27 : decode cX8_tell 27 = .ok (.if_icmp .ge 48, 3) := by decide +kernel
theorem dX8_tell_30 : decode cX8_tell 30 = .ok (.aload_n 1, 1) := by decide +kernel
theorem dX8_tell_31 : decode cX8_tell 31 = .ok (.getfield 44, 3) := by decide +kernel
theorem dX8_tell_34 : decode cX8_tell 34 = .ok (.iload_n 2, 1) := by decide +kernel
theorem dX8_tell_35 : decode cX8_tell 35 = .ok (.aaload, 1) := by decide +kernel
theorem dX8_tell_36 : decode cX8_tell 36 = .ok (.astore_n 3, 1) := by decide +kernel
theorem dX8_tell_37 : decode cX8_tell 37 = .ok (.iconst 0, 1) := by decide +kernel
theorem dX8_tell_38 : decode cX8_tell 38 = .ok (.istore 4, 2) := by decide +kernel
theorem dX8_tell_40 : decode cX8_tell 40 = .ok (.iload 4, 2) := by decide +kernel
theorem dX8_tell_42 : decode cX8_tell 42 = .ok (.aload_n 0, 1) := by decide +kernel
theorem dX8_tell_43 : decode cX8_tell 43 = .ok (.getfield 29, 3) := by decide +kernel
theorem dX8_tell_46 : decode cX8_tell 46 = .ok (.if_icmp .ge 23, 3) := by decide +kernel
theorem dX8_tell_49 : decode cX8_tell 49 = .ok (.aload_n 0, 1) := by decide +kernel
theorem dX8_tell_50 : decode cX8_tell 50 = .ok (.aload_n 3, 1) := by decide +kernel
theorem dX8_tell_51 : decode cX8_tell 51 = .ok (.iload 4, 2) := by decide +kernel
theorem dX8_tell_53 : decode cX8_tell 53 = .ok (.invokevirtual 48, 3) := by decide +kernel
theorem dX8_tell_56 : decode cX8_tell 56 = .ok (.aload_n 0, 1) := by decide +kernel
theorem dX8_tell_57 : decode cX8_tell 57 = .ok (.aload_n 3, 1) := by decide +kernel
theorem dX8_tell_58 : decode cX8_tell 58 = .ok (.iload 4, 2) := by decide +kernel
theorem dX8_tell_60 : decode cX8_tell 60 = .ok (.invokevirtual 52, 3) := by decide +kernel
theorem dX8_tell_63 : decode cX8_tell 63 = .ok (.iinc 4 1, 3) := by decide +kernel
theorem dX8_tell_66 : decode cX8_tell 66 = .ok (.goto (-26), 3) := by decide +kernel
theorem dX8_tell_69 : decode cX8_tell 69 = .ok (.iinc 2 1, 3) := by decide +kernel
theorem dX8_tell_72 : decode cX8_tell 72 = .ok (.goto (-50), 3) := by decide +kernel
theorem dX8_tell_75 : decode cX8_tell 75 = .ok (.iconst 0, 1) := by decide +kernel
theorem dX8_tell_76 : decode cX8_tell 76 = .ok (.istore_n 2, 1) := by decide +kernel
theorem dX8_tell_77 : decode cX8_tell 77 = .ok (.iload_n 2, 1) := by decide +kernel
theorem dX8_tell_78 : decode cX8_tell 78 = .ok (.bipush 8, 2) := by decide +kernel
theorem dX8_tell_80 : decode cX8_tell 80 = .ok (.if_icmp .ge 45, 3) := by decide +kernel
theorem dX8_tell_83 : decode cX8_tell 83 = .ok (.iconst 0, 1) := by decide +kernel
theorem dX8_tell_84 : decode cX8_tell 84 = .ok (.istore_n 3, 1) := by decide +kernel
theorem dX8_tell_85 : decode cX8_tell 85 = .ok (.iload_n 3, 1) := by decide +kernel
theorem dX8_tell_86 : decode cX8_tell 86 = .ok (.aload_n 0, 1) := by decide +kernel
theorem dX8_tell_87 : decode cX8_tell 87 = .ok (.getfield 29, 3) := by decide +kernel
theorem dX8_tell_90 : decode cX8_tell 90 = .ok (.if_icmp .ge 29, 3) := by decide +kernel
theorem dX8_tell_93 : decode cX8_tell 93 = .ok (.aload_n 0, 1) := by decide +kernel
theorem dX8_tell_94 : decode cX8_tell 94 = .ok (.getfield 24, 3) := by decide +kernel
theorem dX8_tell_97 : decode cX8_tell 97 = .ok (.iload_n 2, 1) := by decide +kernel
theorem dX8_tell_98 : decode cX8_tell 98 = .ok (.dup2, 1) := by decide +kernel
theorem dX8_tell_99 : decode cX8_tell 99 = .ok (.iaload, 1) := by decide +kernel
theorem dX8_tell_100 : decode cX8_tell 100 = .ok (.aload_n 0, 1) := by decide +kernel
theorem dX8_tell_101 : decode cX8_tell 101 = .ok (.getfield 21, 3) := by decide +kernel
theorem dX8_tell_104 : decode cX8_tell 104 = .ok (.iload_n 2, 1) := by decide +kernel
theorem dX8_tell_105 : decode cX8_tell 105 = .ok (.bipush 48, 2) := by decide +kernel
theorem dX8_tell_107 : decode cX8_tell 107 = .ok (.imul, 1) := by decide +kernel
theorem dX8_tell_108 : decode cX8_tell 108 = .ok (.iload_n 3, 1) := by decide +kernel
theorem dX8_tell_109 : decode cX8_tell 109 = .ok (.iadd, 1) := by decide +kernel
theorem dX8_tell_110 : decode cX8_tell 110 = .ok (.iaload, 1) := by decide +kernel
theorem dX8_tell_111 : decode cX8_tell 111 = .ok (.iadd, 1) := by decide +kernel
theorem dX8_tell_112 : decode cX8_tell 112 = .ok (.iastore, 1) := by decide +kernel
theorem dX8_tell_113 : decode cX8_tell 113 = .ok (.iinc 3 1, 3) := by decide +kernel
theorem dX8_tell_116 : decode cX8_tell 116 = .ok (.goto (-31), 3) := by decide +kernel
theorem dX8_tell_119 : decode cX8_tell 119 = .ok (.iinc 2 1, 3) := by decide +kernel
theorem dX8_tell_122 : decode cX8_tell 122 = .ok (.goto (-45), 3) := by decide +kernel
theorem dX8_tell_125 : decode cX8_tell 125 = .ok (.return_, 1) := by decide +kernel
def E_X8_tell_22 (G : GT) (d : Nat) (h0 hb : PH) (l0 : Nat) (l1 : Nat) (Q : PH → Prop) (s : Int32 × PH) : Prop := qEx hb s.2 ∧ qn s.2 = qn hb ∧ qz s.2 = qz hb → Ex G (qrm (5 + d) 0 0) mX8_tell (qn h0) (qz h0) (ZN G h0 0 0 (qqv Q)) 22 [(0, .ref l0), (1, .ref l1), (2, .int s.1)] [] s.2
def E_X8_tell_40 (G : GT) (d : Nat) (h0 hb : PH) (l0 : Nat) (l1 : Nat) (l2 : Int32) (l3 : Nat) (Q : PH → Prop) (s : Int32 × PH) : Prop := qEx hb s.2 ∧ qn s.2 = qn hb ∧ qz s.2 = qz hb → Ex G (qrm (5 + d) 0 0) mX8_tell (qn h0) (qz h0) (ZN G h0 0 0 (qqv Q)) 40 [(0, .ref l0), (1, .ref l1), (2, .int l2), (3, .ref l3), (4, .int s.1)] [] s.2
def E_X8_tell_77 (G : GT) (d : Nat) (h0 hb : PH) (l0 : Nat) (Q : PH → Prop) (s : Int32 × PH) : Prop := qEx hb s.2 ∧ qn s.2 = qn hb ∧ qz s.2 = qz hb → Ex G (qrm (5 + d) 0 0) mX8_tell (qn h0) (qz h0) (ZN G h0 0 0 (qqv Q)) 77 [(0, .ref l0), (2, .int s.1)] [] s.2
def E_X8_tell_85 (G : GT) (d : Nat) (h0 hb : PH) (l0 : Nat) (l2 : Int32) (Q : PH → Prop) (s : Int32 × PH) : Prop := qEx hb s.2 ∧ qn s.2 = qn hb ∧ qz s.2 = qz hb → Ex G (qrm (5 + d) 0 0) mX8_tell (qn h0) (qz h0) (ZN G h0 0 0 (qqv Q)) 85 [(0, .ref l0), (2, .int l2), (3, .int s.1)] [] s.2
def wb_X8_tell_40 (l0 : Nat) (l1 : Nat) (l2 : Int32) (l3 : Nat) (bk22 : Int32 × PH → Prop) (Q : PH → Prop) (bk40 : Int32 × PH → Prop) (l4 : Int32) (h : PH) : Prop := (((qI h l0 5) ≤ l4 → ∀ v13 : Int32, v13 = l2 + 1 → bk22 (v13, h)) ∧ (¬ ((qI h l0 5) ≤ l4) → (wp_X8_addStep l0 l3 l4 h (fun h14 => (wp_X8_addPlace l0 l3 l4 h14 (fun h16 => ∀ v18 : Int32, v18 = l4 + 1 → bk40 (v18, h16)))))))
def wp_X8_tell_40 (l0 : Nat) (l1 : Nat) (l2 : Int32) (l3 : Nat) (bk22 : Int32 × PH → Prop) (Q : PH → Prop) (bk40 : Int32 × PH → Prop) (s : Int32 × PH) : Prop := wb_X8_tell_40 l0 l1 l2 l3 bk22 Q bk40 s.1 s.2
set_option maxHeartbeats 4000000 in
set_option maxRecDepth 100000 in
theorem bd_X8_tell_40 (G : GT) (d : Nat) (h0 hb : PH) (l0 : Nat) (l1 : Nat) (l2 : Int32) (l3 : Nat) (Q : PH → Prop) (hb22 : PH) (bk22 : Int32 × PH → Prop) (hbk22 : ∀ s2, bk22 s2 → E_X8_tell_22 G d h0 hb22 l0 l1 Q s2) (hx22 : qEx hb22 hb) (hn22 : qn hb = qn hb22) (hz22 : qz hb = qz hb22) (hex : qEx h0 hb) (hnn : qn hb = qn h0 + 0) (hzz : qz hb = qz h0 + 0) (okl0 : qOK hb 8 l0) (okl1 : qOK hb 1 l1) (okl3 : qOK hb 4 l3) (bk40 : Int32 × PH → Prop) (hbk40 : ∀ s2, bk40 s2 → E_X8_tell_40 G d h0 hb l0 l1 l2 l3 Q s2) (l4 : Int32) (h : PH) (hwp : wb_X8_tell_40 l0 l1 l2 l3 bk22 Q bk40 l4 h) (hx40 : qEx hb h) (hn40 : qn h = qn hb) (hz40 : qz h = qz hb) : Ex G (qrm (5 + d) 0 0) mX8_tell (qn h0) (qz h0) (ZN G h0 0 0 (qqv Q)) 40 [(0, .ref l0), (1, .ref l1), (2, .int l2), (3, .ref l3), (4, .int l4)] [] h := by
  unfold wb_X8_tell_40 at hwp
  have hex := hex.tr hx40
  have hnn := hn40.trans hnn
  have hzz := hz40.trans hzz
  have hx22 := hx22.tr hx40
  have hn22 := hn40.trans hn22
  have hz22 := hz40.trans hz22
  have okl0 := okl0.ex hx40
  have okl1 := okl1.ex hx40
  have okl3 := okl3.ex hx40
  refine x_iload (pc := 40) dX8_tell_40 rfl ?_
  refine x_aload_n (pc := 42) dX8_tell_42 rfl ?_
  refine x_getI (pc := 43) dX8_tell_43 qRX8_29 okl0 (by decide) ?_
  refine x_icmp_ge (tgt := 69) (pc := 46) dX8_tell_46 (by decide) (fun c12 => ?_) (fun c12 => ?_)
  · have hwp := hwp.1 c12
    refine y_iinc (c := 1) (pc := 69) dX8_tell_69 rfl (by decide) (by decide) (fun v13 ev13 => ?_)
    have hwp := hwp v13 ev13
    refine x_lvE (lv2 := [(2, .int v13), (0, .ref l0), (1, .ref l1), (3, .ref l3), (4, .int l4)]) rfl ?_
    refine x_goto (tgt := 22) (pc := 72) dX8_tell_72 (by decide) ?_
    refine x_sub [1, 2, 0] rfl ?_
    exact hbk22 _ hwp ⟨hx22, hn22, hz22⟩
  · have hwp := hwp.2 c12
    refine x_aload_n (pc := 49) dX8_tell_49 rfl ?_
    refine x_aload_n (pc := 50) dX8_tell_50 rfl ?_
    refine x_iload (pc := 51) dX8_tell_51 rfl ?_
    refine x_invV (As := [.ref l3, .int l4]) (st := []) (pc := 53) dX8_tell_53 lRX8_48 fX8_addStep vX8_addStep okl0 rfl (Nat.le_of_ble_eq_true rfl) (q_R (by omega) (by decide)) (q_C hnn hzz (by decide) (by decide)) (sn_X8_addStep G (d + 0) l0 l3 l4 h _ okl0 okl3 hwp) (k_v (fun h14 hwp cxh14 => ?_))
    have hex := hex.tr cxh14.1
    have hnn : qn h14 = qn h0 + 0 := by have := cxh14.2.1; omega
    have hzz : qz h14 = qz h0 + 0 := by have := cxh14.2.2; omega
    have hx22 := hx22.tr cxh14.1
    have hn22 : qn h14 = qn hb22 := by have := cxh14.2.1; omega
    have hz22 : qz h14 = qz hb22 := by have := cxh14.2.2; omega
    have hx40 := hx40.tr cxh14.1
    have hn40 : qn h14 = qn hb := by have := cxh14.2.1; omega
    have hz40 : qz h14 = qz hb := by have := cxh14.2.2; omega
    have okl0 := okl0.ex cxh14.1
    have okl1 := okl1.ex cxh14.1
    have okl3 := okl3.ex cxh14.1
    refine x_aload_n (pc := 56) dX8_tell_56 rfl ?_
    refine x_aload_n (pc := 57) dX8_tell_57 rfl ?_
    refine x_iload (pc := 58) dX8_tell_58 rfl ?_
    refine x_invV (As := [.ref l3, .int l4]) (st := []) (pc := 60) dX8_tell_60 lRX8_52 fX8_addPlace vX8_addPlace okl0 rfl (Nat.le_of_ble_eq_true rfl) (q_R (by omega) (by decide)) (q_C hnn hzz (by decide) (by decide)) (sn_X8_addPlace G (d + 2) l0 l3 l4 h14 _ okl0 okl3 hwp) (k_v (fun h16 hwp cxh16 => ?_))
    have hex := hex.tr cxh16.1
    have hnn : qn h16 = qn h0 + 0 := by have := cxh16.2.1; omega
    have hzz : qz h16 = qz h0 + 0 := by have := cxh16.2.2; omega
    have hx22 := hx22.tr cxh16.1
    have hn22 : qn h16 = qn hb22 := by have := cxh16.2.1; omega
    have hz22 : qz h16 = qz hb22 := by have := cxh16.2.2; omega
    have hx40 := hx40.tr cxh16.1
    have hn40 : qn h16 = qn hb := by have := cxh16.2.1; omega
    have hz40 : qz h16 = qz hb := by have := cxh16.2.2; omega
    have okl0 := okl0.ex cxh16.1
    have okl1 := okl1.ex cxh16.1
    have okl3 := okl3.ex cxh16.1
    refine y_iinc (c := 1) (pc := 63) dX8_tell_63 rfl (by decide) (by decide) (fun v18 ev18 => ?_)
    have hwp := hwp v18 ev18
    refine x_lvE (lv2 := [(4, .int v18), (0, .ref l0), (1, .ref l1), (2, .int l2), (3, .ref l3)]) rfl ?_
    refine x_goto (tgt := 40) (pc := 66) dX8_tell_66 (by decide) ?_
    refine x_sub [1, 2, 3, 4, 0] rfl ?_
    exact hbk40 _ hwp ⟨hx40, hn40, hz40⟩
theorem lp_X8_tell_40 (G : GT) (d : Nat) (h0 hb : PH) (l0 : Nat) (l1 : Nat) (l2 : Int32) (l3 : Nat) (Q : PH → Prop) (hb22 : PH) (bk22 : Int32 × PH → Prop) (hbk22 : ∀ s2, bk22 s2 → E_X8_tell_22 G d h0 hb22 l0 l1 Q s2) (hx22 : qEx hb22 hb) (hn22 : qn hb = qn hb22) (hz22 : qz hb = qz hb22) (hex : qEx h0 hb) (hnn : qn hb = qn h0 + 0) (hzz : qz hb = qz h0 + 0) (okl0 : qOK hb 8 l0) (okl1 : qOK hb 1 l1) (okl3 : qOK hb 4 l3) {s : Int32 × PH} (hwp : qLoop (wp_X8_tell_40 l0 l1 l2 l3 bk22 Q) s) : E_X8_tell_40 G d h0 hb l0 l1 l2 l3 Q s :=
  qLoop.use (E := E_X8_tell_40 G d h0 hb l0 l1 l2 l3 Q) (fun back s hbk hw hx => bd_X8_tell_40 G d h0 hb l0 l1 l2 l3 Q hb22 bk22 hbk22 hx22 hn22 hz22 hex hnn hzz okl0 okl1 okl3 back hbk s.1 s.2 hw hx.1 hx.2.1 hx.2.2) hwp
def wb_X8_tell_85 (l0 : Nat) (l2 : Int32) (bk77 : Int32 × PH → Prop) (Q : PH → Prop) (bk85 : Int32 × PH → Prop) (l3 : Int32) (h : PH) : Prop := (((qI h l0 5) ≤ l3 → ∀ v20 : Int32, v20 = l2 + 1 → bk77 (v20, h)) ∧ (¬ ((qI h l0 5) ≤ l3) → (∃ b21, qR h l0 4 = some b21 ∧ (vp_in l2 (qL h b21) ∧ (∃ b24, qR h l0 3 = some b24 ∧ (vp_in ((l2 * 48) + l3) (qL h b24) ∧ (vp_in l2 (qL h b21) ∧ ∀ h27, h27 = qsI h b21 l2.toNatClampNeg ((qI h b21 l2.toNatClampNeg) + (qI h b24 ((l2 * 48) + l3).toNatClampNeg)) → ∀ v29 : Int32, v29 = l3 + 1 → bk85 (v29, h27))))))))
def wp_X8_tell_85 (l0 : Nat) (l2 : Int32) (bk77 : Int32 × PH → Prop) (Q : PH → Prop) (bk85 : Int32 × PH → Prop) (s : Int32 × PH) : Prop := wb_X8_tell_85 l0 l2 bk77 Q bk85 s.1 s.2
set_option maxHeartbeats 4000000 in
set_option maxRecDepth 100000 in
theorem bd_X8_tell_85 (G : GT) (d : Nat) (h0 hb : PH) (l0 : Nat) (l2 : Int32) (Q : PH → Prop) (hb77 : PH) (bk77 : Int32 × PH → Prop) (hbk77 : ∀ s2, bk77 s2 → E_X8_tell_77 G d h0 hb77 l0 Q s2) (hx77 : qEx hb77 hb) (hn77 : qn hb = qn hb77) (hz77 : qz hb = qz hb77) (hex : qEx h0 hb) (hnn : qn hb = qn h0 + 0) (hzz : qz hb = qz h0 + 0) (okl0 : qOK hb 8 l0) (bk85 : Int32 × PH → Prop) (hbk85 : ∀ s2, bk85 s2 → E_X8_tell_85 G d h0 hb l0 l2 Q s2) (l3 : Int32) (h : PH) (hwp : wb_X8_tell_85 l0 l2 bk77 Q bk85 l3 h) (hx85 : qEx hb h) (hn85 : qn h = qn hb) (hz85 : qz h = qz hb) : Ex G (qrm (5 + d) 0 0) mX8_tell (qn h0) (qz h0) (ZN G h0 0 0 (qqv Q)) 85 [(0, .ref l0), (2, .int l2), (3, .int l3)] [] h := by
  unfold wb_X8_tell_85 at hwp
  have hex := hex.tr hx85
  have hnn := hn85.trans hnn
  have hzz := hz85.trans hzz
  have hx77 := hx77.tr hx85
  have hn77 := hn85.trans hn77
  have hz77 := hz85.trans hz77
  have okl0 := okl0.ex hx85
  refine x_iload_n (pc := 85) dX8_tell_85 rfl ?_
  refine x_aload_n (pc := 86) dX8_tell_86 rfl ?_
  refine x_getI (pc := 87) dX8_tell_87 qRX8_29 okl0 (by decide) ?_
  refine x_icmp_ge (tgt := 119) (pc := 90) dX8_tell_90 (by decide) (fun c19 => ?_) (fun c19 => ?_)
  · have hwp := hwp.1 c19
    refine y_iinc (c := 1) (pc := 119) dX8_tell_119 rfl (by decide) (by decide) (fun v20 ev20 => ?_)
    have hwp := hwp v20 ev20
    refine x_lvE (lv2 := [(2, .int v20), (0, .ref l0), (3, .int l3)]) rfl ?_
    refine x_goto (tgt := 77) (pc := 122) dX8_tell_122 (by decide) ?_
    refine x_sub [1, 0] rfl ?_
    exact hbk77 _ hwp ⟨hx77, hn77, hz77⟩
  · have hwp := hwp.2 c19
    refine x_aload_n (pc := 93) dX8_tell_93 rfl ?_
    obtain ⟨b21, e22, hwp⟩ := hwp
    refine x_getR (pc := 94) dX8_tell_94 qRX8_24 okl0 e22 (fun okb21 => ?_)
    refine x_iload_n (pc := 97) dX8_tell_97 rfl ?_
    refine x_dup2 (pc := 98) dX8_tell_98 rfl rfl ?_
    obtain ⟨i23, hwp⟩ := hwp
    refine x_iaload (pc := 99) dX8_tell_99 okb21 i23 ?_
    refine x_aload_n (pc := 100) dX8_tell_100 rfl ?_
    obtain ⟨b24, e25, hwp⟩ := hwp
    refine x_getR (pc := 101) dX8_tell_101 qRX8_21 okl0 e25 (fun okb24 => ?_)
    refine x_iload_n (pc := 104) dX8_tell_104 rfl ?_
    refine x_bipush (v := 48) (pc := 105) dX8_tell_105 (by decide) ?_
    refine x_imul (pc := 107) dX8_tell_107 ?_
    refine x_iload_n (pc := 108) dX8_tell_108 rfl ?_
    refine x_iadd (pc := 109) dX8_tell_109 ?_
    obtain ⟨i26, hwp⟩ := hwp
    refine x_iaload (pc := 110) dX8_tell_110 okb24 i26 ?_
    refine x_iadd (pc := 111) dX8_tell_111 ?_
    obtain ⟨i28, hwp⟩ := hwp
    refine y_iastore (pc := 112) dX8_tell_112 okb21 i28 (fun h27 eh27 nxh27 => ?_)
    have hwp := hwp h27 eh27
    have hex := hex.tr nxh27.1
    have hnn := nxh27.2.1.trans hnn
    have hzz := nxh27.2.2.trans hzz
    have hx77 := hx77.tr nxh27.1
    have hn77 := nxh27.2.1.trans hn77
    have hz77 := nxh27.2.2.trans hz77
    have hx85 := hx85.tr nxh27.1
    have hn85 := nxh27.2.1.trans hn85
    have hz85 := nxh27.2.2.trans hz85
    have okl0 := okl0.ex nxh27.1
    have okb21 := okb21.ex nxh27.1
    have okb24 := okb24.ex nxh27.1
    refine y_iinc (c := 1) (pc := 113) dX8_tell_113 rfl (by decide) (by decide) (fun v29 ev29 => ?_)
    have hwp := hwp v29 ev29
    refine x_lvE (lv2 := [(3, .int v29), (0, .ref l0), (2, .int l2)]) rfl ?_
    refine x_goto (tgt := 85) (pc := 116) dX8_tell_116 (by decide) ?_
    refine x_sub [1, 2, 0] rfl ?_
    exact hbk85 _ hwp ⟨hx85, hn85, hz85⟩
theorem lp_X8_tell_85 (G : GT) (d : Nat) (h0 hb : PH) (l0 : Nat) (l2 : Int32) (Q : PH → Prop) (hb77 : PH) (bk77 : Int32 × PH → Prop) (hbk77 : ∀ s2, bk77 s2 → E_X8_tell_77 G d h0 hb77 l0 Q s2) (hx77 : qEx hb77 hb) (hn77 : qn hb = qn hb77) (hz77 : qz hb = qz hb77) (hex : qEx h0 hb) (hnn : qn hb = qn h0 + 0) (hzz : qz hb = qz h0 + 0) (okl0 : qOK hb 8 l0) {s : Int32 × PH} (hwp : qLoop (wp_X8_tell_85 l0 l2 bk77 Q) s) : E_X8_tell_85 G d h0 hb l0 l2 Q s :=
  qLoop.use (E := E_X8_tell_85 G d h0 hb l0 l2 Q) (fun back s hbk hw hx => bd_X8_tell_85 G d h0 hb l0 l2 Q hb77 bk77 hbk77 hx77 hn77 hz77 hex hnn hzz okl0 back hbk s.1 s.2 hw hx.1 hx.2.1 hx.2.2) hwp
def wb_X8_tell_77 (l0 : Nat)  (Q : PH → Prop) (bk77 : Int32 × PH → Prop) (l2 : Int32) (h : PH) : Prop := ((8 ≤ l2 → Q h) ∧ (¬ (8 ≤ l2) → (qLoop (wp_X8_tell_85 l0 l2 bk77 Q) (0, h))))
def wp_X8_tell_77 (l0 : Nat)  (Q : PH → Prop) (bk77 : Int32 × PH → Prop) (s : Int32 × PH) : Prop := wb_X8_tell_77 l0 Q bk77 s.1 s.2
set_option maxHeartbeats 4000000 in
set_option maxRecDepth 100000 in
theorem bd_X8_tell_77 (G : GT) (d : Nat) (h0 hb : PH) (l0 : Nat) (Q : PH → Prop)  (hex : qEx h0 hb) (hnn : qn hb = qn h0 + 0) (hzz : qz hb = qz h0 + 0) (okl0 : qOK hb 8 l0) (bk77 : Int32 × PH → Prop) (hbk77 : ∀ s2, bk77 s2 → E_X8_tell_77 G d h0 hb l0 Q s2) (l2 : Int32) (h : PH) (hwp : wb_X8_tell_77 l0 Q bk77 l2 h) (hx77 : qEx hb h) (hn77 : qn h = qn hb) (hz77 : qz h = qz hb) : Ex G (qrm (5 + d) 0 0) mX8_tell (qn h0) (qz h0) (ZN G h0 0 0 (qqv Q)) 77 [(0, .ref l0), (2, .int l2)] [] h := by
  unfold wb_X8_tell_77 at hwp
  have hex := hex.tr hx77
  have hnn := hn77.trans hnn
  have hzz := hz77.trans hzz
  have okl0 := okl0.ex hx77
  refine x_iload_n (pc := 77) dX8_tell_77 rfl ?_
  refine x_bipush (v := 8) (pc := 78) dX8_tell_78 (by decide) ?_
  refine x_icmp_ge (tgt := 125) (pc := 80) dX8_tell_80 (by decide) (fun c11 => ?_) (fun c11 => ?_)
  · have hwp := hwp.1 c11
    exact x_vret (pc := 125) dX8_tell_125 rfl hex hnn hzz ⟨rfl, hwp⟩
  · have hwp := hwp.2 c11
    refine x_iconst (v := 0) (pc := 83) dX8_tell_83 (by decide) ?_
    refine x_istore_n (lv2 := [(3, .int 0), (0, .ref l0), (2, .int l2)]) (pc := 84) dX8_tell_84 (by decide) rfl ?_
    refine x_sub [1, 2, 0] rfl ?_
    exact lp_X8_tell_85 G d h0 h l0 l2 Q hb bk77 hbk77 hx77 hn77 hz77 hex hnn hzz okl0 hwp ⟨qEx.rf _, rfl, rfl⟩
theorem lp_X8_tell_77 (G : GT) (d : Nat) (h0 hb : PH) (l0 : Nat) (Q : PH → Prop)  (hex : qEx h0 hb) (hnn : qn hb = qn h0 + 0) (hzz : qz hb = qz h0 + 0) (okl0 : qOK hb 8 l0) {s : Int32 × PH} (hwp : qLoop (wp_X8_tell_77 l0 Q) s) : E_X8_tell_77 G d h0 hb l0 Q s :=
  qLoop.use (E := E_X8_tell_77 G d h0 hb l0 Q) (fun back s hbk hw hx => bd_X8_tell_77 G d h0 hb l0 Q hex hnn hzz okl0 back hbk s.1 s.2 hw hx.1 hx.2.1 hx.2.2) hwp
def wb_X8_tell_22 (l0 : Nat) (l1 : Nat)  (Q : PH → Prop) (bk22 : Int32 × PH → Prop) (l2 : Int32) (h : PH) : Prop := (((qI h l1 1) ≤ l2 → (qLoop (wp_X8_tell_77 l0 Q) (0, h))) ∧ (¬ ((qI h l1 1) ≤ l2) → (∃ b6, qR h l1 0 = some b6 ∧ (vp_in l2 (qL h b6) ∧ ∃ b9, qR h b6 l2.toNatClampNeg = some b9 ∧ (qLoop (wp_X8_tell_40 l0 l1 l2 b9 bk22 Q) (0, h))))))
def wp_X8_tell_22 (l0 : Nat) (l1 : Nat)  (Q : PH → Prop) (bk22 : Int32 × PH → Prop) (s : Int32 × PH) : Prop := wb_X8_tell_22 l0 l1 Q bk22 s.1 s.2
set_option maxHeartbeats 4000000 in
set_option maxRecDepth 100000 in
theorem bd_X8_tell_22 (G : GT) (d : Nat) (h0 hb : PH) (l0 : Nat) (l1 : Nat) (Q : PH → Prop)  (hex : qEx h0 hb) (hnn : qn hb = qn h0 + 0) (hzz : qz hb = qz h0 + 0) (okl0 : qOK hb 8 l0) (okl1 : qOK hb 1 l1) (bk22 : Int32 × PH → Prop) (hbk22 : ∀ s2, bk22 s2 → E_X8_tell_22 G d h0 hb l0 l1 Q s2) (l2 : Int32) (h : PH) (hwp : wb_X8_tell_22 l0 l1 Q bk22 l2 h) (hx22 : qEx hb h) (hn22 : qn h = qn hb) (hz22 : qz h = qz hb) : Ex G (qrm (5 + d) 0 0) mX8_tell (qn h0) (qz h0) (ZN G h0 0 0 (qqv Q)) 22 [(0, .ref l0), (1, .ref l1), (2, .int l2)] [] h := by
  unfold wb_X8_tell_22 at hwp
  have hex := hex.tr hx22
  have hnn := hn22.trans hnn
  have hzz := hz22.trans hzz
  have okl0 := okl0.ex hx22
  have okl1 := okl1.ex hx22
  refine x_iload_n (pc := 22) dX8_tell_22 rfl ?_
  refine x_aload_n (pc := 23) dX8_tell_23 rfl ?_
  refine x_getI (pc := 24) dX8_tell_24 qRX8_41 okl1 (by decide) ?_
  refine x_icmp_ge (tgt := 75) (pc := 27) dX8_tell_27 (by decide) (fun c5 => ?_) (fun c5 => ?_)
  · have hwp := hwp.1 c5
    refine x_iconst (v := 0) (pc := 75) dX8_tell_75 (by decide) ?_
    refine x_istore_n (lv2 := [(2, .int 0), (0, .ref l0), (1, .ref l1)]) (pc := 76) dX8_tell_76 (by decide) rfl ?_
    refine x_sub [1, 0] rfl ?_
    exact lp_X8_tell_77 G d h0 h l0 Q hex hnn hzz okl0 hwp ⟨qEx.rf _, rfl, rfl⟩
  · have hwp := hwp.2 c5
    refine x_aload_n (pc := 30) dX8_tell_30 rfl ?_
    obtain ⟨b6, e7, hwp⟩ := hwp
    refine x_getR (pc := 31) dX8_tell_31 qRX8_44 okl1 e7 (fun okb6 => ?_)
    refine x_iload_n (pc := 34) dX8_tell_34 rfl ?_
    obtain ⟨i8, b9, e10, hwp⟩ := hwp
    refine x_aaload (t := 18) (pc := 35) dX8_tell_35 okb6 (by decide) i8 e10 (fun okb9 => ?_)
    refine x_astore_n (lv2 := [(3, .ref b9), (0, .ref l0), (1, .ref l1), (2, .int l2)]) (pc := 36) dX8_tell_36 (by decide) rfl ?_
    refine x_iconst (v := 0) (pc := 37) dX8_tell_37 (by decide) ?_
    refine x_istore (lv2 := [(4, .int 0), (3, .ref b9), (0, .ref l0), (1, .ref l1), (2, .int l2)]) (pc := 38) dX8_tell_38 (by decide) rfl ?_
    refine x_sub [2, 3, 4, 1, 0] rfl ?_
    exact lp_X8_tell_40 G d h0 h l0 l1 l2 b9 Q hb bk22 hbk22 hx22 hn22 hz22 hex hnn hzz okl0 okl1 okb9 hwp ⟨qEx.rf _, rfl, rfl⟩
theorem lp_X8_tell_22 (G : GT) (d : Nat) (h0 hb : PH) (l0 : Nat) (l1 : Nat) (Q : PH → Prop)  (hex : qEx h0 hb) (hnn : qn hb = qn h0 + 0) (hzz : qz hb = qz h0 + 0) (okl0 : qOK hb 8 l0) (okl1 : qOK hb 1 l1) {s : Int32 × PH} (hwp : qLoop (wp_X8_tell_22 l0 l1 Q) s) : E_X8_tell_22 G d h0 hb l0 l1 Q s :=
  qLoop.use (E := E_X8_tell_22 G d h0 hb l0 l1 Q) (fun back s hbk hw hx => bd_X8_tell_22 G d h0 hb l0 l1 Q hex hnn hzz okl0 okl1 back hbk s.1 s.2 hw hx.1 hx.2.1 hx.2.2) hwp
def wp_X8_tell (l0 : Nat) (l1 : Nat) (h : PH) (Q : PH → Prop) : Prop := (∀ h1, h1 = qsI h l0 5 (qI h l1 2) → (∀ h2, h2 = qsI h1 l0 6 (qI h1 l1 3) → (wp_X8_clear l0 h2 (fun h3 => (qLoop (wp_X8_tell_22 l0 l1 Q) (0, h3))))))
set_option maxHeartbeats 4000000 in
set_option maxRecDepth 100000 in
theorem sn_X8_tell (G : GT) (d : Nat) (l0 : Nat) (l1 : Nat) (h : PH) (Q : PH → Prop) (okl0 : qOK h 8 l0) (okl1 : qOK h 1 l1) (hwp : wp_X8_tell l0 l1 h Q) : Mt G (5 + d) 0 0 mX8_tell [.ref l0, .ref l1] h (qqv Q) := by
  unfold wp_X8_tell at hwp
  refine Mt.of (by decide) rfl (Nat.le_of_ble_eq_true rfl) ?_
  have hex := qEx.rf h
  have hnn : qn h = qn h + 0 := rfl
  have hzz : qz h = qz h + 0 := rfl
  refine x_lvE (lv2 := [(0, .ref l0), (1, .ref l1)]) rfl ?_
  refine x_aload_n (pc := 0) dX8_tell_0 rfl ?_
  refine x_aload_n (pc := 1) dX8_tell_1 rfl ?_
  refine x_getI (pc := 2) dX8_tell_2 qRX8_36 okl1 (by decide) ?_
  refine y_putI (pc := 5) dX8_tell_5 qRX8_29 okl0 (fun h1 eh1 nxh1 => ?_)
  have hwp := hwp h1 eh1
  have hex := hex.tr nxh1.1
  have hnn := nxh1.2.1.trans hnn
  have hzz := nxh1.2.2.trans hzz
  have okl0 := okl0.ex nxh1.1
  have okl1 := okl1.ex nxh1.1
  refine x_aload_n (pc := 8) dX8_tell_8 rfl ?_
  refine x_aload_n (pc := 9) dX8_tell_9 rfl ?_
  refine x_getI (pc := 10) dX8_tell_10 qRX8_37 okl1 (by decide) ?_
  refine y_putI (pc := 13) dX8_tell_13 qRX8_33 okl0 (fun h2 eh2 nxh2 => ?_)
  have hwp := hwp h2 eh2
  have hex := hex.tr nxh2.1
  have hnn := nxh2.2.1.trans hnn
  have hzz := nxh2.2.2.trans hzz
  have okl0 := okl0.ex nxh2.1
  have okl1 := okl1.ex nxh2.1
  refine x_aload_n (pc := 16) dX8_tell_16 rfl ?_
  refine x_invV (As := []) (st := []) (pc := 17) dX8_tell_17 lRX8_38 fX8_clear vX8_clear okl0 rfl (Nat.le_of_ble_eq_true rfl) (q_R (by omega) (by decide)) (q_C hnn hzz (by decide) (by decide)) (sn_X8_clear G (d + 4) l0 h2 _ okl0 hwp) (k_v (fun h3 hwp cxh3 => ?_))
  have hex := hex.tr cxh3.1
  have hnn : qn h3 = qn h + 0 := by have := cxh3.2.1; omega
  have hzz : qz h3 = qz h + 0 := by have := cxh3.2.2; omega
  have okl0 := okl0.ex cxh3.1
  have okl1 := okl1.ex cxh3.1
  refine x_iconst (v := 0) (pc := 20) dX8_tell_20 (by decide) ?_
  refine x_istore_n (lv2 := [(2, .int 0), (0, .ref l0), (1, .ref l1)]) (pc := 21) dX8_tell_21 (by decide) rfl ?_
  refine x_sub [1, 2, 0] rfl ?_
  exact lp_X8_tell_22 G d h h3 l0 l1 Q hex hnn hzz okl0 okl1 hwp ⟨qEx.rf _, rfl, rfl⟩

theorem dX8_givenWith_0 : decode cX8_givenWith 0 = .ok (.aload_n 0, 1) := by decide +kernel
theorem dX8_givenWith_1 : decode cX8_givenWith 1 = .ok (.getfield 9, 3) := by decide +kernel
theorem dX8_givenWith_4 : decode cX8_givenWith 4 = .ok (.iload_n 1, 1) := by decide +kernel
theorem dX8_givenWith_5 : decode cX8_givenWith 5 = .ok (.iaload, 1) := by decide +kernel
theorem dX8_givenWith_6 : decode cX8_givenWith 6 = .ok (.istore_n 3, 1) := by decide +kernel
theorem dX8_givenWith_7 : decode cX8_givenWith 7 = .ok (.iconst 0, 1) := by decide +kernel
theorem dX8_givenWith_8 : decode cX8_givenWith 8 = .ok (.istore 4, 2) := by decide +kernel
theorem dX8_givenWith_10 : decode cX8_givenWith 10 = .ok (.iload 4, 2) := by decide +kernel
theorem dX8_givenWith_12 : decode cX8_givenWith 12 = .ok (.iconst 4, 1) := by decide +kernel
theorem dX8_givenWith_13 : decode cX8_givenWith 13 = .ok (.if_icmp .ge 33, 3) := by decide +kernel
theorem dX8_givenWith_16 : decode cX8_givenWith 16 = .ok (.iload_n 2, 1) := by decide +kernel
theorem dX8_givenWith_17 : decode cX8_givenWith 17 = .ok (.iload 4, 2) := by decide +kernel
theorem dX8_givenWith_19 : decode cX8_givenWith 19 = .ok (.iushr, 1) := by decide +kernel
theorem dX8_givenWith_20 : decode cX8_givenWith 20 = .ok (.iconst 1, 1) := by decide +kernel
theorem dX8_givenWith_21 : decode cX8_givenWith 21 = .ok (.iand, 1) := by decide +kernel
theorem dX8_givenWith_22 : decode cX8_givenWith 22 = .ok (.ifCond .eq 18, 3) := by decide +kernel
theorem dX8_givenWith_25 : decode cX8_givenWith 25 = .ok (.iload_n 3, 1) := by decide +kernel
theorem dX8_givenWith_26 : decode cX8_givenWith 26 = .ok (.aload_n 0, 1) := by decide +kernel
theorem dX8_givenWith_27 : decode cX8_givenWith 27 = .ok (.getfield 18, 3) := by decide +kernel
theorem dX8_givenWith_30 : decode cX8_givenWith 30 = .ok (.iload 4, 2) := by decide +kernel
theorem dX8_givenWith_32 : decode cX8_givenWith 32 = .ok (.bipush 48, 2) := by decide +kernel
theorem dX8_givenWith_34 : decode cX8_givenWith 34 = .ok (.imul, 1) := by decide +kernel
theorem dX8_givenWith_35 : decode cX8_givenWith 35 = .ok (.iload_n 1, 1) := by decide +kernel
theorem dX8_givenWith_36 : decode cX8_givenWith 36 = .ok (.iadd, 1) := by decide +kernel
theorem dX8_givenWith_37 : decode cX8_givenWith 37 = .ok (.iaload, 1) := by decide +kernel
theorem dX8_givenWith_38 : decode cX8_givenWith 38 = .ok (.iadd, 1) := by decide +kernel
theorem dX8_givenWith_39 : decode cX8_givenWith 39 = .ok (.istore_n 3, 1) := by decide +kernel
theorem dX8_givenWith_40 : decode cX8_givenWith 40 = .ok (.iinc 4 1, 3) := by decide +kernel
theorem dX8_givenWith_43 : decode cX8_givenWith 43 = .ok (.goto (-33), 3) := by decide +kernel
theorem dX8_givenWith_46 : decode cX8_givenWith 46 = .ok (.iload_n 3, 1) := by decide +kernel
theorem dX8_givenWith_47 : decode cX8_givenWith 47 = .ok (.ireturn, 1) := by decide +kernel
def E_X8_givenWith_10 (G : GT) (d : Nat) (h0 hb : PH) (l0 : Nat) (l1 : Int32) (l2 : Int32) (Q : Int32 → PH → Prop) (s : Int32 × Int32 × PH) : Prop := qEx hb s.2.2 ∧ qn s.2.2 = qn hb ∧ qz s.2.2 = qz hb → Ex G (qrm (0 + d) 0 0) mX8_givenWith (qn h0) (qz h0) (ZN G h0 0 0 (qqi Q)) 10 [(0, .ref l0), (1, .int l1), (2, .int l2), (3, .int s.1), (4, .int s.2.1)] [] s.2.2
def wb_X8_givenWith_10 (l0 : Nat) (l1 : Int32) (l2 : Int32)  (Q : Int32 → PH → Prop) (bk10 : Int32 × Int32 × PH → Prop) (l3 : Int32) (l4 : Int32) (h : PH) : Prop := ((4 ≤ l4 → Q l3 h) ∧ (¬ (4 ≤ l4) → ((((q_ushr l2 l4) &&& 1) = 0 → ∀ v7 : Int32, v7 = l4 + 1 → bk10 (l3, v7, h)) ∧ (¬ (((q_ushr l2 l4) &&& 1) = 0) → (∃ b8, qR h l0 2 = some b8 ∧ (vp_in ((l4 * 48) + l1) (qL h b8) ∧ ∀ v11 : Int32, v11 = l3 + (qI h b8 ((l4 * 48) + l1).toNatClampNeg) → ∀ v12 : Int32, v12 = l4 + 1 → bk10 (v11, v12, h)))))))
def wp_X8_givenWith_10 (l0 : Nat) (l1 : Int32) (l2 : Int32)  (Q : Int32 → PH → Prop) (bk10 : Int32 × Int32 × PH → Prop) (s : Int32 × Int32 × PH) : Prop := wb_X8_givenWith_10 l0 l1 l2 Q bk10 s.1 s.2.1 s.2.2
set_option maxHeartbeats 4000000 in
set_option maxRecDepth 100000 in
theorem bd_X8_givenWith_10 (G : GT) (d : Nat) (h0 hb : PH) (l0 : Nat) (l1 : Int32) (l2 : Int32) (Q : Int32 → PH → Prop)  (hex : qEx h0 hb) (hnn : qn hb = qn h0 + 0) (hzz : qz hb = qz h0 + 0) (okl0 : qOK hb 8 l0) (bk10 : Int32 × Int32 × PH → Prop) (hbk10 : ∀ s2, bk10 s2 → E_X8_givenWith_10 G d h0 hb l0 l1 l2 Q s2) (l3 : Int32) (l4 : Int32) (h : PH) (hwp : wb_X8_givenWith_10 l0 l1 l2 Q bk10 l3 l4 h) (hx10 : qEx hb h) (hn10 : qn h = qn hb) (hz10 : qz h = qz hb) : Ex G (qrm (0 + d) 0 0) mX8_givenWith (qn h0) (qz h0) (ZN G h0 0 0 (qqi Q)) 10 [(0, .ref l0), (1, .int l1), (2, .int l2), (3, .int l3), (4, .int l4)] [] h := by
  unfold wb_X8_givenWith_10 at hwp
  have hex := hex.tr hx10
  have hnn := hn10.trans hnn
  have hzz := hz10.trans hzz
  have okl0 := okl0.ex hx10
  refine x_iload (pc := 10) dX8_givenWith_10 rfl ?_
  refine x_iconst (v := 4) (pc := 12) dX8_givenWith_12 (by decide) ?_
  refine x_icmp_ge (tgt := 46) (pc := 13) dX8_givenWith_13 (by decide) (fun c5 => ?_) (fun c5 => ?_)
  · have hwp := hwp.1 c5
    refine x_iload_n (pc := 46) dX8_givenWith_46 rfl ?_
    exact x_iret (pc := 47) dX8_givenWith_47 rfl hex hnn hzz ⟨_, rfl, hwp⟩
  · have hwp := hwp.2 c5
    refine x_iload_n (pc := 16) dX8_givenWith_16 rfl ?_
    refine x_iload (pc := 17) dX8_givenWith_17 rfl ?_
    refine x_iushr (pc := 19) dX8_givenWith_19 ?_
    refine x_iconst (v := 1) (pc := 20) dX8_givenWith_20 (by decide) ?_
    refine x_iand (pc := 21) dX8_givenWith_21 ?_
    refine x_if_eq (tgt := 40) (pc := 22) dX8_givenWith_22 (by decide) (fun c6 => ?_) (fun c6 => ?_)
    · have hwp := hwp.1 c6
      refine y_iinc (c := 1) (pc := 40) dX8_givenWith_40 rfl (by decide) (by decide) (fun v7 ev7 => ?_)
      have hwp := hwp v7 ev7
      refine x_lvE (lv2 := [(4, .int v7), (0, .ref l0), (1, .int l1), (2, .int l2), (3, .int l3)]) rfl ?_
      refine x_goto (tgt := 10) (pc := 43) dX8_givenWith_43 (by decide) ?_
      refine x_sub [1, 2, 3, 4, 0] rfl ?_
      exact hbk10 _ hwp ⟨hx10, hn10, hz10⟩
    · have hwp := hwp.2 c6
      refine x_iload_n (pc := 25) dX8_givenWith_25 rfl ?_
      refine x_aload_n (pc := 26) dX8_givenWith_26 rfl ?_
      obtain ⟨b8, e9, hwp⟩ := hwp
      refine x_getR (pc := 27) dX8_givenWith_27 qRX8_18 okl0 e9 (fun okb8 => ?_)
      refine x_iload (pc := 30) dX8_givenWith_30 rfl ?_
      refine x_bipush (v := 48) (pc := 32) dX8_givenWith_32 (by decide) ?_
      refine x_imul (pc := 34) dX8_givenWith_34 ?_
      refine x_iload_n (pc := 35) dX8_givenWith_35 rfl ?_
      refine x_iadd (pc := 36) dX8_givenWith_36 ?_
      obtain ⟨i10, hwp⟩ := hwp
      refine x_iaload (pc := 37) dX8_givenWith_37 okb8 i10 ?_
      refine x_iadd (pc := 38) dX8_givenWith_38 ?_
      refine x_nmI (fun v11 ev11 => ?_)
      have hwp := hwp v11 ev11
      refine x_istore_n (lv2 := [(3, .int v11), (0, .ref l0), (1, .int l1), (2, .int l2), (4, .int l4)]) (pc := 39) dX8_givenWith_39 (by decide) rfl ?_
      refine y_iinc (c := 1) (pc := 40) dX8_givenWith_40 rfl (by decide) (by decide) (fun v12 ev12 => ?_)
      have hwp := hwp v12 ev12
      refine x_lvE (lv2 := [(4, .int v12), (3, .int v11), (0, .ref l0), (1, .int l1), (2, .int l2)]) rfl ?_
      refine x_goto (tgt := 10) (pc := 43) dX8_givenWith_43 (by decide) ?_
      refine x_sub [2, 3, 4, 1, 0] rfl ?_
      exact hbk10 _ hwp ⟨hx10, hn10, hz10⟩
theorem lp_X8_givenWith_10 (G : GT) (d : Nat) (h0 hb : PH) (l0 : Nat) (l1 : Int32) (l2 : Int32) (Q : Int32 → PH → Prop)  (hex : qEx h0 hb) (hnn : qn hb = qn h0 + 0) (hzz : qz hb = qz h0 + 0) (okl0 : qOK hb 8 l0) {s : Int32 × Int32 × PH} (hwp : qLoop (wp_X8_givenWith_10 l0 l1 l2 Q) s) : E_X8_givenWith_10 G d h0 hb l0 l1 l2 Q s :=
  qLoop.use (E := E_X8_givenWith_10 G d h0 hb l0 l1 l2 Q) (fun back s hbk hw hx => bd_X8_givenWith_10 G d h0 hb l0 l1 l2 Q hex hnn hzz okl0 back hbk s.1 s.2.1 s.2.2 hw hx.1 hx.2.1 hx.2.2) hwp
def wp_X8_givenWith (l0 : Nat) (l1 : Int32) (l2 : Int32) (h : PH) (Q : Int32 → PH → Prop) : Prop := (∃ b1, qR h l0 0 = some b1 ∧ (vp_in l1 (qL h b1) ∧ ∀ v4 : Int32, v4 = qI h b1 l1.toNatClampNeg → (qLoop (wp_X8_givenWith_10 l0 l1 l2 Q) (v4, 0, h))))
set_option maxHeartbeats 4000000 in
set_option maxRecDepth 100000 in
theorem sn_X8_givenWith (G : GT) (d : Nat) (l0 : Nat) (l1 : Int32) (l2 : Int32) (h : PH) (Q : Int32 → PH → Prop) (okl0 : qOK h 8 l0) (hwp : wp_X8_givenWith l0 l1 l2 h Q) : Mt G (0 + d) 0 0 mX8_givenWith [.ref l0, .int l1, .int l2] h (qqi Q) := by
  unfold wp_X8_givenWith at hwp
  refine Mt.of (by decide) rfl (Nat.le_of_ble_eq_true rfl) ?_
  have hex := qEx.rf h
  have hnn : qn h = qn h + 0 := rfl
  have hzz : qz h = qz h + 0 := rfl
  refine x_lvE (lv2 := [(0, .ref l0), (1, .int l1), (2, .int l2)]) rfl ?_
  refine x_aload_n (pc := 0) dX8_givenWith_0 rfl ?_
  obtain ⟨b1, e2, hwp⟩ := hwp
  refine x_getR (pc := 1) dX8_givenWith_1 qRX8_9 okl0 e2 (fun okb1 => ?_)
  refine x_iload_n (pc := 4) dX8_givenWith_4 rfl ?_
  obtain ⟨i3, hwp⟩ := hwp
  refine x_iaload (pc := 5) dX8_givenWith_5 okb1 i3 ?_
  refine x_nmI (fun v4 ev4 => ?_)
  have hwp := hwp v4 ev4
  refine x_istore_n (lv2 := [(3, .int v4), (0, .ref l0), (1, .int l1), (2, .int l2)]) (pc := 6) dX8_givenWith_6 (by decide) rfl ?_
  refine x_iconst (v := 0) (pc := 7) dX8_givenWith_7 (by decide) ?_
  refine x_istore (lv2 := [(4, .int 0), (3, .int v4), (0, .ref l0), (1, .int l1), (2, .int l2)]) (pc := 8) dX8_givenWith_8 (by decide) rfl ?_
  refine x_sub [2, 3, 4, 1, 0] rfl ?_
  exact lp_X8_givenWith_10 G d h h l0 l1 l2 Q hex hnn hzz okl0 hwp ⟨qEx.rf _, rfl, rfl⟩

theorem dX8_rubWith_0 : decode cX8_rubWith 0 = .ok (.iload_n 1, 1) := by decide +kernel
theorem dX8_rubWith_1 : decode cX8_rubWith 1 = .ok (.bipush 16, 2) := by decide +kernel
theorem dX8_rubWith_3 : decode cX8_rubWith 3 = .ok (.iand, 1) := by decide +kernel
theorem dX8_rubWith_4 : decode cX8_rubWith 4 = .ok (.ifCond .eq 7, 3) := by decide +kernel
theorem dX8_rubWith_7 : decode cX8_rubWith 7 = .ok (.iconst 0, 1) := by decide +kernel
theorem dX8_rubWith_8 : decode cX8_rubWith 8 = .ok (.goto 7, 3) := by decide +kernel
theorem dX8_rubWith_11 : decode cX8_rubWith 11 = .ok (.aload_n 0, 1) := by decide +kernel
theorem dX8_rubWith_12 : decode cX8_rubWith 12 = .ok (.getfield 33, 3) := by decide +kernel
theorem dX8_rubWith_15 : decode cX8_rubWith 15 = .ok (.ireturn, 1) := by decide +kernel
def wp_X8_rubWith (l0 : Nat) (l1 : Int32) (h : PH) (Q : Int32 → PH → Prop) : Prop := (((l1 &&& 16) = 0 → Q (qI h l0 6) h) ∧ (¬ ((l1 &&& 16) = 0) → Q 0 h))
set_option maxHeartbeats 4000000 in
set_option maxRecDepth 100000 in
theorem sn_X8_rubWith (G : GT) (d : Nat) (l0 : Nat) (l1 : Int32) (h : PH) (Q : Int32 → PH → Prop) (okl0 : qOK h 8 l0) (hwp : wp_X8_rubWith l0 l1 h Q) : Mt G (0 + d) 0 0 mX8_rubWith [.ref l0, .int l1] h (qqi Q) := by
  unfold wp_X8_rubWith at hwp
  refine Mt.of (by decide) rfl (Nat.le_of_ble_eq_true rfl) ?_
  have hex := qEx.rf h
  have hnn : qn h = qn h + 0 := rfl
  have hzz : qz h = qz h + 0 := rfl
  refine x_lvE (lv2 := [(0, .ref l0), (1, .int l1)]) rfl ?_
  refine x_iload_n (pc := 0) dX8_rubWith_0 rfl ?_
  refine x_bipush (v := 16) (pc := 1) dX8_rubWith_1 (by decide) ?_
  refine x_iand (pc := 3) dX8_rubWith_3 ?_
  refine x_if_eq (tgt := 11) (pc := 4) dX8_rubWith_4 (by decide) (fun c1 => ?_) (fun c1 => ?_)
  · have hwp := hwp.1 c1
    refine x_aload_n (pc := 11) dX8_rubWith_11 rfl ?_
    refine x_getI (pc := 12) dX8_rubWith_12 qRX8_33 okl0 (by decide) ?_
    exact x_iret (pc := 15) dX8_rubWith_15 rfl hex hnn hzz ⟨_, rfl, hwp⟩
  · have hwp := hwp.2 c1
    refine x_iconst (v := 0) (pc := 7) dX8_rubWith_7 (by decide) ?_
    refine x_goto (tgt := 15) (pc := 8) dX8_rubWith_8 (by decide) ?_
    exact x_iret (pc := 15) dX8_rubWith_15 rfl hex hnn hzz ⟨_, rfl, hwp⟩

theorem dX8_wholeWith_0 : decode cX8_wholeWith 0 = .ok (.aload_n 0, 1) := by decide +kernel
theorem dX8_wholeWith_1 : decode cX8_wholeWith 1 = .ok (.getfield 29, 3) := by decide +kernel
theorem dX8_wholeWith_4 : decode cX8_wholeWith 4 = .ok (.ineg, 1) := by decide +kernel
theorem dX8_wholeWith_5 : decode cX8_wholeWith 5 = .ok (.aload_n 0, 1) := by decide +kernel
theorem dX8_wholeWith_6 : decode cX8_wholeWith 6 = .ok (.iload_n 1, 1) := by decide +kernel
theorem dX8_wholeWith_7 : decode cX8_wholeWith 7 = .ok (.invokevirtual 95, 3) := by decide +kernel
theorem dX8_wholeWith_10 : decode cX8_wholeWith 10 = .ok (.imul, 1) := by decide +kernel
theorem dX8_wholeWith_11 : decode cX8_wholeWith 11 = .ok (.istore_n 2, 1) := by decide +kernel
theorem dX8_wholeWith_12 : decode cX8_wholeWith 12 = .ok (.iconst 0, 1) := by decide +kernel
theorem dX8_wholeWith_13 : decode cX8_wholeWith 13 = .ok (.istore_n 3, 1) := by decide +kernel
theorem dX8_wholeWith_14 : decode cX8_wholeWith 14 = .ok (.iload_n 3, 1) := by decide +kernel
theorem dX8_wholeWith_15 : decode cX8_wholeWith 15 = .ok (.aload_n 0, 1) := by decide +kernel
theorem dX8_wholeWith_16 : decode cX8_wholeWith 16 = .ok (.getfield 29, 3) := by decide +kernel
theorem dX8_wholeWith_19 : decode cX8_wholeWith 19 = .ok (.if_icmp .ge 18, 3) := by decide +kernel
theorem dX8_wholeWith_22 : decode cX8_wholeWith 22 = .ok (.iload_n 2, 1) := by decide +kernel
theorem dX8_wholeWith_23 : decode cX8_wholeWith 23 = .ok (.aload_n 0, 1) := by decide +kernel
theorem dX8_wholeWith_24 : decode cX8_wholeWith 24 = .ok (.iload_n 3, 1) := by decide +kernel
theorem dX8_wholeWith_25 : decode cX8_wholeWith 25 = .ok (.iload_n 1, 1) := by decide +kernel
theorem dX8_wholeWith_26 : decode cX8_wholeWith 26 = .ok (.invokevirtual 98, 3) := by decide +kernel
theorem dX8_wholeWith_29 : decode cX8_wholeWith 29 = .ok (.iadd, 1) := by decide +kernel
theorem dX8_wholeWith_30 : decode cX8_wholeWith 30 = .ok (.istore_n 2, 1) := by decide +kernel
theorem dX8_wholeWith_31 : decode cX8_wholeWith 31 = .ok (.iinc 3 1, 3) := by decide +kernel
theorem dX8_wholeWith_34 : decode cX8_wholeWith 34 = .ok (.goto (-20), 3) := by decide +kernel
theorem dX8_wholeWith_37 : decode cX8_wholeWith 37 = .ok (.iload_n 2, 1) := by decide +kernel
theorem dX8_wholeWith_38 : decode cX8_wholeWith 38 = .ok (.ireturn, 1) := by decide +kernel
def E_X8_wholeWith_14 (G : GT) (d : Nat) (h0 hb : PH) (l0 : Nat) (l1 : Int32) (Q : Int32 → PH → Prop) (s : Int32 × Int32 × PH) : Prop := qEx hb s.2.2 ∧ qn s.2.2 = qn hb ∧ qz s.2.2 = qz hb → Ex G (qrm (1 + d) 0 0) mX8_wholeWith (qn h0) (qz h0) (ZN G h0 0 0 (qqi Q)) 14 [(0, .ref l0), (1, .int l1), (2, .int s.1), (3, .int s.2.1)] [] s.2.2
def wb_X8_wholeWith_14 (l0 : Nat) (l1 : Int32)  (Q : Int32 → PH → Prop) (bk14 : Int32 × Int32 × PH → Prop) (l2 : Int32) (l3 : Int32) (h : PH) : Prop := (((qI h l0 5) ≤ l3 → Q l2 h) ∧ (¬ ((qI h l0 5) ≤ l3) → (wp_X8_givenWith l0 l3 l1 h (fun r6 h5 => ∀ v7 : Int32, v7 = l2 + r6 → ∀ v8 : Int32, v8 = l3 + 1 → bk14 (v7, v8, h5)))))
def wp_X8_wholeWith_14 (l0 : Nat) (l1 : Int32)  (Q : Int32 → PH → Prop) (bk14 : Int32 × Int32 × PH → Prop) (s : Int32 × Int32 × PH) : Prop := wb_X8_wholeWith_14 l0 l1 Q bk14 s.1 s.2.1 s.2.2
set_option maxHeartbeats 4000000 in
set_option maxRecDepth 100000 in
theorem bd_X8_wholeWith_14 (G : GT) (d : Nat) (h0 hb : PH) (l0 : Nat) (l1 : Int32) (Q : Int32 → PH → Prop)  (hex : qEx h0 hb) (hnn : qn hb = qn h0 + 0) (hzz : qz hb = qz h0 + 0) (okl0 : qOK hb 8 l0) (bk14 : Int32 × Int32 × PH → Prop) (hbk14 : ∀ s2, bk14 s2 → E_X8_wholeWith_14 G d h0 hb l0 l1 Q s2) (l2 : Int32) (l3 : Int32) (h : PH) (hwp : wb_X8_wholeWith_14 l0 l1 Q bk14 l2 l3 h) (hx14 : qEx hb h) (hn14 : qn h = qn hb) (hz14 : qz h = qz hb) : Ex G (qrm (1 + d) 0 0) mX8_wholeWith (qn h0) (qz h0) (ZN G h0 0 0 (qqi Q)) 14 [(0, .ref l0), (1, .int l1), (2, .int l2), (3, .int l3)] [] h := by
  unfold wb_X8_wholeWith_14 at hwp
  have hex := hex.tr hx14
  have hnn := hn14.trans hnn
  have hzz := hz14.trans hzz
  have okl0 := okl0.ex hx14
  refine x_iload_n (pc := 14) dX8_wholeWith_14 rfl ?_
  refine x_aload_n (pc := 15) dX8_wholeWith_15 rfl ?_
  refine x_getI (pc := 16) dX8_wholeWith_16 qRX8_29 okl0 (by decide) ?_
  refine x_icmp_ge (tgt := 37) (pc := 19) dX8_wholeWith_19 (by decide) (fun c4 => ?_) (fun c4 => ?_)
  · have hwp := hwp.1 c4
    refine x_iload_n (pc := 37) dX8_wholeWith_37 rfl ?_
    exact x_iret (pc := 38) dX8_wholeWith_38 rfl hex hnn hzz ⟨_, rfl, hwp⟩
  · have hwp := hwp.2 c4
    refine x_iload_n (pc := 22) dX8_wholeWith_22 rfl ?_
    refine x_aload_n (pc := 23) dX8_wholeWith_23 rfl ?_
    refine x_iload_n (pc := 24) dX8_wholeWith_24 rfl ?_
    refine x_iload_n (pc := 25) dX8_wholeWith_25 rfl ?_
    refine x_invV (As := [.int l3, .int l1]) (st := [.int l2]) (pc := 26) dX8_wholeWith_26 lRX8_98 fX8_givenWith vX8_givenWith okl0 rfl (Nat.le_of_ble_eq_true rfl) (q_R (by omega) (by decide)) (q_C hnn hzz (by decide) (by decide)) (sn_X8_givenWith G (d + 0) l0 l3 l1 h _ okl0 hwp) (k_i (fun r6 h5 hwp cxh5 => ?_))
    have hex := hex.tr cxh5.1
    have hnn : qn h5 = qn h0 + 0 := by have := cxh5.2.1; omega
    have hzz : qz h5 = qz h0 + 0 := by have := cxh5.2.2; omega
    have hx14 := hx14.tr cxh5.1
    have hn14 : qn h5 = qn hb := by have := cxh5.2.1; omega
    have hz14 : qz h5 = qz hb := by have := cxh5.2.2; omega
    have okl0 := okl0.ex cxh5.1
    refine x_iadd (pc := 29) dX8_wholeWith_29 ?_
    refine x_nmI (fun v7 ev7 => ?_)
    have hwp := hwp v7 ev7
    refine x_istore_n (lv2 := [(2, .int v7), (0, .ref l0), (1, .int l1), (3, .int l3)]) (pc := 30) dX8_wholeWith_30 (by decide) rfl ?_
    refine y_iinc (c := 1) (pc := 31) dX8_wholeWith_31 rfl (by decide) (by decide) (fun v8 ev8 => ?_)
    have hwp := hwp v8 ev8
    refine x_lvE (lv2 := [(3, .int v8), (2, .int v7), (0, .ref l0), (1, .int l1)]) rfl ?_
    refine x_goto (tgt := 14) (pc := 34) dX8_wholeWith_34 (by decide) ?_
    refine x_sub [2, 3, 1, 0] rfl ?_
    exact hbk14 _ hwp ⟨hx14, hn14, hz14⟩
theorem lp_X8_wholeWith_14 (G : GT) (d : Nat) (h0 hb : PH) (l0 : Nat) (l1 : Int32) (Q : Int32 → PH → Prop)  (hex : qEx h0 hb) (hnn : qn hb = qn h0 + 0) (hzz : qz hb = qz h0 + 0) (okl0 : qOK hb 8 l0) {s : Int32 × Int32 × PH} (hwp : qLoop (wp_X8_wholeWith_14 l0 l1 Q) s) : E_X8_wholeWith_14 G d h0 hb l0 l1 Q s :=
  qLoop.use (E := E_X8_wholeWith_14 G d h0 hb l0 l1 Q) (fun back s hbk hw hx => bd_X8_wholeWith_14 G d h0 hb l0 l1 Q hex hnn hzz okl0 back hbk s.1 s.2.1 s.2.2 hw hx.1 hx.2.1 hx.2.2) hwp
def wp_X8_wholeWith (l0 : Nat) (l1 : Int32) (h : PH) (Q : Int32 → PH → Prop) : Prop := (wp_X8_rubWith l0 l1 h (fun r2 h1 => ∀ v3 : Int32, v3 = (-(qI h l0 5)) * r2 → (qLoop (wp_X8_wholeWith_14 l0 l1 Q) (v3, 0, h1))))
set_option maxHeartbeats 4000000 in
set_option maxRecDepth 100000 in
theorem sn_X8_wholeWith (G : GT) (d : Nat) (l0 : Nat) (l1 : Int32) (h : PH) (Q : Int32 → PH → Prop) (okl0 : qOK h 8 l0) (hwp : wp_X8_wholeWith l0 l1 h Q) : Mt G (1 + d) 0 0 mX8_wholeWith [.ref l0, .int l1] h (qqi Q) := by
  unfold wp_X8_wholeWith at hwp
  refine Mt.of (by decide) rfl (Nat.le_of_ble_eq_true rfl) ?_
  have hex := qEx.rf h
  have hnn : qn h = qn h + 0 := rfl
  have hzz : qz h = qz h + 0 := rfl
  refine x_lvE (lv2 := [(0, .ref l0), (1, .int l1)]) rfl ?_
  refine x_aload_n (pc := 0) dX8_wholeWith_0 rfl ?_
  refine x_getI (pc := 1) dX8_wholeWith_1 qRX8_29 okl0 (by decide) ?_
  refine x_ineg (pc := 4) dX8_wholeWith_4 ?_
  refine x_aload_n (pc := 5) dX8_wholeWith_5 rfl ?_
  refine x_iload_n (pc := 6) dX8_wholeWith_6 rfl ?_
  refine x_invV (As := [.int l1]) (st := [.int (-(qI h l0 5))]) (pc := 7) dX8_wholeWith_7 lRX8_95 fX8_rubWith vX8_rubWith okl0 rfl (Nat.le_of_ble_eq_true rfl) (q_R (by omega) (by decide)) (q_C hnn hzz (by decide) (by decide)) (sn_X8_rubWith G (d + 0) l0 l1 h _ okl0 hwp) (k_i (fun r2 h1 hwp cxh1 => ?_))
  have hex := hex.tr cxh1.1
  have hnn : qn h1 = qn h + 0 := by have := cxh1.2.1; omega
  have hzz : qz h1 = qz h + 0 := by have := cxh1.2.2; omega
  have okl0 := okl0.ex cxh1.1
  refine x_imul (pc := 10) dX8_wholeWith_10 ?_
  refine x_nmI (fun v3 ev3 => ?_)
  have hwp := hwp v3 ev3
  refine x_istore_n (lv2 := [(2, .int v3), (0, .ref l0), (1, .int l1)]) (pc := 11) dX8_wholeWith_11 (by decide) rfl ?_
  refine x_iconst (v := 0) (pc := 12) dX8_wholeWith_12 (by decide) ?_
  refine x_istore_n (lv2 := [(3, .int 0), (2, .int v3), (0, .ref l0), (1, .int l1)]) (pc := 13) dX8_wholeWith_13 (by decide) rfl ?_
  refine x_sub [2, 3, 1, 0] rfl ?_
  exact lp_X8_wholeWith_14 G d h h1 l0 l1 Q hex hnn hzz okl0 hwp ⟨qEx.rf _, rfl, rfl⟩

theorem dX10_init_0 : decode cX10_init 0 = .ok (.aload_n 0, 1) := by decide +kernel
theorem dX10_init_1 : decode cX10_init 1 = .ok (.invokespecial 3, 3) := by decide +kernel
theorem dX10_init_4 : decode cX10_init 4 = .ok (.aload_n 0, 1) := by decide +kernel
theorem dX10_init_5 : decode cX10_init 5 = .ok (.bipush 48, 2) := by decide +kernel
theorem dX10_init_7 : decode cX10_init 7 = .ok (.newarray .int, 2) := by decide +kernel
theorem dX10_init_9 : decode cX10_init 9 = .ok (.putfield 9, 3) := by decide +kernel
theorem dX10_init_12 : decode cX10_init 12 = .ok (.aload_n 0, 1) := by decide +kernel
theorem dX10_init_13 : decode cX10_init 13 = .ok (.bipush 48, 2) := by decide +kernel
theorem dX10_init_15 : decode cX10_init 15 = .ok (.newarray .int, 2) := by decide +kernel
theorem dX10_init_17 : decode cX10_init 17 = .ok (.putfield 15, 3) := by decide +kernel
theorem dX10_init_20 : decode cX10_init 20 = .ok (.aload_n 0, 1) := by decide +kernel
theorem dX10_init_21 : decode cX10_init 21 = .ok (.iconst 0, 1) := by decide +kernel
theorem dX10_init_22 : decode cX10_init 22 = .ok (.putfield 18, 3) := by decide +kernel
theorem dX10_init_25 : decode cX10_init 25 = .ok (.return_, 1) := by decide +kernel
def wp_X10_init (l0 : Nat) (h : PH) (Q : PH → Prop) : Prop := (qn h + 1 ≤ 1000000 ∧ ∀ h1, h1 = qnew h 14 48 48 → (∀ h3, h3 = qsR h1 l0 0 (some (qn h)) → (qn h3 + 1 ≤ 1000000 ∧ ∀ h4, h4 = qnew h3 14 48 48 → (∀ h6, h6 = qsR h4 l0 1 (some (qn h3)) → (∀ h7, h7 = qsI h6 l0 2 0 → Q h7)))))
set_option maxHeartbeats 4000000 in
set_option maxRecDepth 100000 in
theorem sn_X10_init (G : GT) (d : Nat) (l0 : Nat) (h : PH) (Q : PH → Prop) (okl0 : qOK h 9 l0) (hwp : wp_X10_init l0 h Q) : Mt G (1 + d) 2 96 mX10_init [.ref l0] h (qqv Q) := by
  unfold wp_X10_init at hwp
  refine Mt.of (by decide) rfl (Nat.le_of_ble_eq_true rfl) ?_
  have hex := qEx.rf h
  have hnn : qn h = qn h + 0 := rfl
  have hzz : qz h = qz h + 0 := rfl
  refine x_lvE (lv2 := [(0, .ref l0)]) rfl ?_
  refine x_aload_n (pc := 0) dX10_init_0 rfl ?_
  refine x_objInit (pc := 1) dX10_init_1 lRX10_3 wk_oi wk_oc (q_R1 (by omega)) (Nat.le_of_ble_eq_true rfl) ?_
  refine x_aload_n (pc := 4) dX10_init_4 rfl ?_
  refine x_bipush (v := 48) (pc := 5) dX10_init_5 (by decide) ?_
  obtain ⟨m2, hwp⟩ := hwp
  refine y_newa (t := 14) (N := 48) (t0 := 1) (ty := .int) (pc := 7) dX10_init_7 rfl (by decide) wk_ac_int (by decide) (by decide) (by decide) (q_C hnn hzz (by decide) (by decide)) m2 (fun h1 eh1 nwh1 okbh1 => ?_)
  have hwp := hwp h1 eh1
  have hex := hex.tr nwh1.1
  have hnn : qn h1 = qn h + 1 := by have := nwh1.2.1; omega
  have hzz : qz h1 = qz h + 48 := by have := nwh1.2.2; omega
  have okl0 := okl0.ex nwh1.1
  refine y_putF rfl (pc := 9) dX10_init_9 FRX10_9 okl0 okbh1 (fun h3 eh3 nxh3 => ?_)
  have hwp := hwp h3 eh3
  have hex := hex.tr nxh3.1
  have hnn := nxh3.2.1.trans hnn
  have hzz := nxh3.2.2.trans hzz
  have okl0 := okl0.ex nxh3.1
  have okbh1 := okbh1.ex nxh3.1
  refine x_aload_n (pc := 12) dX10_init_12 rfl ?_
  refine x_bipush (v := 48) (pc := 13) dX10_init_13 (by decide) ?_
  obtain ⟨m5, hwp⟩ := hwp
  refine y_newa (t := 14) (N := 48) (t0 := 1) (ty := .int) (pc := 15) dX10_init_15 rfl (by decide) wk_ac_int (by decide) (by decide) (by decide) (q_C hnn hzz (by decide) (by decide)) m5 (fun h4 eh4 nwh4 okbh4 => ?_)
  have hwp := hwp h4 eh4
  have hex := hex.tr nwh4.1
  have hnn : qn h4 = qn h + 2 := by have := nwh4.2.1; omega
  have hzz : qz h4 = qz h + 96 := by have := nwh4.2.2; omega
  have okl0 := okl0.ex nwh4.1
  have okbh1 := okbh1.ex nwh4.1
  refine y_putF rfl (pc := 17) dX10_init_17 FRX10_15 okl0 okbh4 (fun h6 eh6 nxh6 => ?_)
  have hwp := hwp h6 eh6
  have hex := hex.tr nxh6.1
  have hnn := nxh6.2.1.trans hnn
  have hzz := nxh6.2.2.trans hzz
  have okl0 := okl0.ex nxh6.1
  have okbh1 := okbh1.ex nxh6.1
  have okbh4 := okbh4.ex nxh6.1
  refine x_aload_n (pc := 20) dX10_init_20 rfl ?_
  refine x_iconst (v := 0) (pc := 21) dX10_init_21 (by decide) ?_
  refine y_putI (pc := 22) dX10_init_22 qRX10_18 okl0 (fun h7 eh7 nxh7 => ?_)
  have hwp := hwp h7 eh7
  have hex := hex.tr nxh7.1
  have hnn := nxh7.2.1.trans hnn
  have hzz := nxh7.2.2.trans hzz
  have okl0 := okl0.ex nxh7.1
  have okbh1 := okbh1.ex nxh7.1
  have okbh4 := okbh4.ex nxh7.1
  exact x_vret (pc := 25) dX10_init_25 rfl hex hnn hzz ⟨rfl, hwp⟩

theorem dX10_prepare_0 : decode cX10_prepare 0 = .ok (.aload_n 0, 1) := by decide +kernel
theorem dX10_prepare_1 : decode cX10_prepare 1 = .ok (.aload_n 1, 1) := by decide +kernel
theorem dX10_prepare_2 : decode cX10_prepare 2 = .ok (.getfield 22, 3) := by decide +kernel
theorem dX10_prepare_5 : decode cX10_prepare 5 = .ok (.putfield 18, 3) := by decide +kernel
theorem dX10_prepare_8 : decode cX10_prepare 8 = .ok (.aload_n 1, 1) := by decide +kernel
theorem dX10_prepare_9 : decode cX10_prepare 9 = .ok (.iload_n 2, 1) := by decide +kernel
theorem dX10_prepare_10 : decode cX10_prepare 10 = .ok (.invokevirtual 25, 3) := by decide +kernel
theorem dX10_prepare_13 : decode cX10_prepare 13 = .ok (.istore_n 3, 1) := by decide +kernel
theorem dX10_prepare_14 : decode cX10_prepare 14 = .ok (.iconst 0, 1) := by decide +kernel
theorem dX10_prepare_15 : decode cX10_prepare 15 = .ok (.istore 4, 2) := by decide +kernel
theorem dX10_prepare_17 : decode cX10_prepare 17 = .ok (.iload 4, 2) := by decide +kernel
theorem dX10_prepare_19 : decode cX10_prepare 19 = .ok (.aload_n 0, 1) := by decide +kernel
theorem dX10_prepare_20 : decode cX10_prepare 20 = .ok (.getfield 18, 3) := by decide +kernel
theorem dX10_prepare_23 : decode cX10_prepare 23 = .ok (.if_icmp .ge 52, 3) := by decide +kernel
theorem dX10_prepare_26 : decode cX10_prepare 26 = .ok (.aload_n 1, 1) := by decide +kernel
theorem dX10_prepare_27 : decode cX10_prepare 27 = .ok (.iload 4, 2) := by decide +kernel
theorem dX10_prepare_29 : decode cX10_prepare 29 = .ok (.iload_n 2, 1) := by decide +kernel
theorem dX10_prepare_30 : decode cX10_prepare 30 = .ok (.invokevirtual 29, 3) := by decide +kernel
theorem dX10_prepare_33 : decode cX10_prepare 33 = .ok (.istore 5, 2) := by decide +kernel
theorem dX10_prepare_35 : decode cX10_prepare 35 = .ok (.aload_n 0, 1) := by decide +kernel
theorem dX10_prepare_36 : decode cX10_prepare 36 = .ok (.getfield 9, 3) := by decide +kernel
theorem dX10_prepare_39 : decode cX10_prepare 39 = .ok (.iload 4, 2) := by decide +kernel
theorem dX10_prepare_41 : decode cX10_prepare 41 = .ok (.iload 5, 2) := by decide +kernel
theorem dX10_prepare_43 : decode cX10_prepare 43 = .ok (.iload_n 3, 1) := by decide +kernel
theorem dX10_prepare_44 : decode cX10_prepare 44 = .ok (.isub, 1) := by decide +kernel
theorem dX10_prepare_45 : decode cX10_prepare 45 = .ok (.iastore, 1) := by decide +kernel
theorem dX10_prepare_46 : decode cX10_prepare 46 = .ok (.aload_n 0, 1) := by decide +kernel
theorem dX10_prepare_47 : decode cX10_prepare 47 = .ok (.getfield 15, 3) := by decide +kernel
theorem dX10_prepare_50 : decode cX10_prepare 50 = .ok (.aload_n 0, 1) := by decide +kernel
theorem dX10_prepare_51 : decode cX10_prepare 51 = .ok (.iload 4, 2) := by decide +kernel
theorem dX10_prepare_53 : decode cX10_prepare 53 = .ok (.invokevirtual 33, 3) := by decide +kernel
theorem dX10_prepare_56 : decode cX10_prepare 56 = .ok (.aload_n 1, 1) := by decide +kernel
theorem dX10_prepare_57 : decode cX10_prepare 57 = .ok (.getfield 36, 3) := by decide +kernel
theorem dX10_prepare_60 : decode cX10_prepare 60 = .ok (.iload 4, 2) := by decide +kernel
theorem dX10_prepare_62 : decode cX10_prepare 62 = .ok (.iaload, 1) := by decide +kernel
theorem dX10_prepare_63 : decode cX10_prepare 63 = .ok (.iload 5, 2) := by decide +kernel
theorem dX10_prepare_65 : decode cX10_prepare 65 = .ok (.isub, 1) := by decide +kernel
theorem dX10_prepare_66 : decode cX10_prepare 66 = .ok (.iload_n 3, 1) := by decide +kernel
theorem dX10_prepare_67 : decode cX10_prepare 67 = .ok (.isub, 1) := by decide +kernel
theorem dX10_prepare_68 : decode cX10_prepare 68 = .ok (.iastore, 1) := by decide +kernel
theorem dX10_prepare_69 : decode cX10_prepare 69 = .ok (.iinc 4 1, 3) := by decide +kernel
theorem dX10_prepare_72 : decode cX10_prepare 72 = .ok (.goto (-55), 3) := by decide +kernel
theorem dX10_prepare_75 : decode cX10_prepare 75 = .ok (.return_, 1) := by decide +kernel
def E_X10_prepare_17 (G : GT) (d : Nat) (h0 hb : PH) (l0 : Nat) (l1 : Nat) (l2 : Int32) (l3 : Int32) (Q : PH → Prop) (s : Int32 × PH) : Prop := qEx hb s.2 ∧ qn s.2 = qn hb ∧ qz s.2 = qz hb → Ex G (qrm (1 + d) 0 0) mX10_prepare (qn h0) (qz h0) (ZN G h0 0 0 (qqv Q)) 17 [(0, .ref l0), (1, .ref l1), (2, .int l2), (3, .int l3), (4, .int s.1)] [] s.2
def wb_X10_prepare_17 (l0 : Nat) (l1 : Nat) (l2 : Int32) (l3 : Int32)  (Q : PH → Prop) (bk17 : Int32 × PH → Prop) (l4 : Int32) (h : PH) : Prop := (((qI h l0 2) ≤ l4 → Q h) ∧ (¬ ((qI h l0 2) ≤ l4) → (wp_X8_givenWith l1 l4 l2 h (fun r6 h5 => (∃ b7, qR h5 l0 0 = some b7 ∧ (vp_in l4 (qL h5 b7) ∧ ∀ h9, h9 = qsI h5 b7 l4.toNatClampNeg (r6 - l3) → (∃ b11, qR h9 l0 1 = some b11 ∧ (wp_X10_after l0 l4 h9 (fun r14 h13 => (∃ b15, qR h13 l1 1 = some b15 ∧ (vp_in l4 (qL h13 b15) ∧ (vp_in r14 (qL h13 b11) ∧ ∀ h18, h18 = qsI h13 b11 r14.toNatClampNeg (((qI h13 b15 l4.toNatClampNeg) - r6) - l3) → ∀ v20 : Int32, v20 = l4 + 1 → bk17 (v20, h18)))))))))))))
def wp_X10_prepare_17 (l0 : Nat) (l1 : Nat) (l2 : Int32) (l3 : Int32)  (Q : PH → Prop) (bk17 : Int32 × PH → Prop) (s : Int32 × PH) : Prop := wb_X10_prepare_17 l0 l1 l2 l3 Q bk17 s.1 s.2
set_option maxHeartbeats 4000000 in
set_option maxRecDepth 100000 in
theorem bd_X10_prepare_17 (G : GT) (d : Nat) (h0 hb : PH) (l0 : Nat) (l1 : Nat) (l2 : Int32) (l3 : Int32) (Q : PH → Prop)  (hex : qEx h0 hb) (hnn : qn hb = qn h0 + 0) (hzz : qz hb = qz h0 + 0) (okl0 : qOK hb 9 l0) (okl1 : qOK hb 8 l1) (bk17 : Int32 × PH → Prop) (hbk17 : ∀ s2, bk17 s2 → E_X10_prepare_17 G d h0 hb l0 l1 l2 l3 Q s2) (l4 : Int32) (h : PH) (hwp : wb_X10_prepare_17 l0 l1 l2 l3 Q bk17 l4 h) (hx17 : qEx hb h) (hn17 : qn h = qn hb) (hz17 : qz h = qz hb) : Ex G (qrm (1 + d) 0 0) mX10_prepare (qn h0) (qz h0) (ZN G h0 0 0 (qqv Q)) 17 [(0, .ref l0), (1, .ref l1), (2, .int l2), (3, .int l3), (4, .int l4)] [] h := by
  unfold wb_X10_prepare_17 at hwp
  have hex := hex.tr hx17
  have hnn := hn17.trans hnn
  have hzz := hz17.trans hzz
  have okl0 := okl0.ex hx17
  have okl1 := okl1.ex hx17
  refine x_iload (pc := 17) dX10_prepare_17 rfl ?_
  refine x_aload_n (pc := 19) dX10_prepare_19 rfl ?_
  refine x_getI (pc := 20) dX10_prepare_20 qRX10_18 okl0 (by decide) ?_
  refine x_icmp_ge (tgt := 75) (pc := 23) dX10_prepare_23 (by decide) (fun c4 => ?_) (fun c4 => ?_)
  · have hwp := hwp.1 c4
    exact x_vret (pc := 75) dX10_prepare_75 rfl hex hnn hzz ⟨rfl, hwp⟩
  · have hwp := hwp.2 c4
    refine x_aload_n (pc := 26) dX10_prepare_26 rfl ?_
    refine x_iload (pc := 27) dX10_prepare_27 rfl ?_
    refine x_iload_n (pc := 29) dX10_prepare_29 rfl ?_
    refine x_invV (As := [.int l4, .int l2]) (st := []) (pc := 30) dX10_prepare_30 lRX10_29 fX8_givenWith vX8_givenWith okl1 rfl (Nat.le_of_ble_eq_true rfl) (q_R (by omega) (by decide)) (q_C hnn hzz (by decide) (by decide)) (sn_X8_givenWith G (d + 0) l1 l4 l2 h _ okl1 hwp) (k_i (fun r6 h5 hwp cxh5 => ?_))
    have hex := hex.tr cxh5.1
    have hnn : qn h5 = qn h0 + 0 := by have := cxh5.2.1; omega
    have hzz : qz h5 = qz h0 + 0 := by have := cxh5.2.2; omega
    have hx17 := hx17.tr cxh5.1
    have hn17 : qn h5 = qn hb := by have := cxh5.2.1; omega
    have hz17 : qz h5 = qz hb := by have := cxh5.2.2; omega
    have okl0 := okl0.ex cxh5.1
    have okl1 := okl1.ex cxh5.1
    refine x_istore (lv2 := [(5, .int r6), (0, .ref l0), (1, .ref l1), (2, .int l2), (3, .int l3), (4, .int l4)]) (pc := 33) dX10_prepare_33 (by decide) rfl ?_
    refine x_aload_n (pc := 35) dX10_prepare_35 rfl ?_
    obtain ⟨b7, e8, hwp⟩ := hwp
    refine x_getR (pc := 36) dX10_prepare_36 qRX10_9 okl0 e8 (fun okb7 => ?_)
    refine x_iload (pc := 39) dX10_prepare_39 rfl ?_
    refine x_iload (pc := 41) dX10_prepare_41 rfl ?_
    refine x_iload_n (pc := 43) dX10_prepare_43 rfl ?_
    refine x_isub (pc := 44) dX10_prepare_44 ?_
    obtain ⟨i10, hwp⟩ := hwp
    refine y_iastore (pc := 45) dX10_prepare_45 okb7 i10 (fun h9 eh9 nxh9 => ?_)
    have hwp := hwp h9 eh9
    have hex := hex.tr nxh9.1
    have hnn := nxh9.2.1.trans hnn
    have hzz := nxh9.2.2.trans hzz
    have hx17 := hx17.tr nxh9.1
    have hn17 := nxh9.2.1.trans hn17
    have hz17 := nxh9.2.2.trans hz17
    have okl0 := okl0.ex nxh9.1
    have okl1 := okl1.ex nxh9.1
    have okb7 := okb7.ex nxh9.1
    refine x_aload_n (pc := 46) dX10_prepare_46 rfl ?_
    obtain ⟨b11, e12, hwp⟩ := hwp
    refine x_getR (pc := 47) dX10_prepare_47 qRX10_15 okl0 e12 (fun okb11 => ?_)
    refine x_aload_n (pc := 50) dX10_prepare_50 rfl ?_
    refine x_iload (pc := 51) dX10_prepare_51 rfl ?_
    refine x_invV (As := [.int l4]) (st := [.ref b11]) (pc := 53) dX10_prepare_53 lRX10_33 fX10_after vX10_after okl0 rfl (Nat.le_of_ble_eq_true rfl) (q_R (by omega) (by decide)) (q_C hnn hzz (by decide) (by decide)) (sn_X10_after G (d + 0) l0 l4 h9 _ okl0 hwp) (k_i (fun r14 h13 hwp cxh13 => ?_))
    have hex := hex.tr cxh13.1
    have hnn : qn h13 = qn h0 + 0 := by have := cxh13.2.1; omega
    have hzz : qz h13 = qz h0 + 0 := by have := cxh13.2.2; omega
    have hx17 := hx17.tr cxh13.1
    have hn17 : qn h13 = qn hb := by have := cxh13.2.1; omega
    have hz17 : qz h13 = qz hb := by have := cxh13.2.2; omega
    have okl0 := okl0.ex cxh13.1
    have okl1 := okl1.ex cxh13.1
    have okb7 := okb7.ex cxh13.1
    have okb11 := okb11.ex cxh13.1
    refine x_aload_n (pc := 56) dX10_prepare_56 rfl ?_
    obtain ⟨b15, e16, hwp⟩ := hwp
    refine x_getR (pc := 57) dX10_prepare_57 qRX10_36 okl1 e16 (fun okb15 => ?_)
    refine x_iload (pc := 60) dX10_prepare_60 rfl ?_
    obtain ⟨i17, hwp⟩ := hwp
    refine x_iaload (pc := 62) dX10_prepare_62 okb15 i17 ?_
    refine x_iload (pc := 63) dX10_prepare_63 rfl ?_
    refine x_isub (pc := 65) dX10_prepare_65 ?_
    refine x_iload_n (pc := 66) dX10_prepare_66 rfl ?_
    refine x_isub (pc := 67) dX10_prepare_67 ?_
    obtain ⟨i19, hwp⟩ := hwp
    refine y_iastore (pc := 68) dX10_prepare_68 okb11 i19 (fun h18 eh18 nxh18 => ?_)
    have hwp := hwp h18 eh18
    have hex := hex.tr nxh18.1
    have hnn := nxh18.2.1.trans hnn
    have hzz := nxh18.2.2.trans hzz
    have hx17 := hx17.tr nxh18.1
    have hn17 := nxh18.2.1.trans hn17
    have hz17 := nxh18.2.2.trans hz17
    have okl0 := okl0.ex nxh18.1
    have okl1 := okl1.ex nxh18.1
    have okb7 := okb7.ex nxh18.1
    have okb11 := okb11.ex nxh18.1
    have okb15 := okb15.ex nxh18.1
    refine y_iinc (c := 1) (pc := 69) dX10_prepare_69 rfl (by decide) (by decide) (fun v20 ev20 => ?_)
    have hwp := hwp v20 ev20
    refine x_lvE (lv2 := [(4, .int v20), (5, .int r6), (0, .ref l0), (1, .ref l1), (2, .int l2), (3, .int l3)]) rfl ?_
    refine x_goto (tgt := 17) (pc := 72) dX10_prepare_72 (by decide) ?_
    refine x_sub [2, 3, 4, 5, 0] rfl ?_
    exact hbk17 _ hwp ⟨hx17, hn17, hz17⟩
theorem lp_X10_prepare_17 (G : GT) (d : Nat) (h0 hb : PH) (l0 : Nat) (l1 : Nat) (l2 : Int32) (l3 : Int32) (Q : PH → Prop)  (hex : qEx h0 hb) (hnn : qn hb = qn h0 + 0) (hzz : qz hb = qz h0 + 0) (okl0 : qOK hb 9 l0) (okl1 : qOK hb 8 l1) {s : Int32 × PH} (hwp : qLoop (wp_X10_prepare_17 l0 l1 l2 l3 Q) s) : E_X10_prepare_17 G d h0 hb l0 l1 l2 l3 Q s :=
  qLoop.use (E := E_X10_prepare_17 G d h0 hb l0 l1 l2 l3 Q) (fun back s hbk hw hx => bd_X10_prepare_17 G d h0 hb l0 l1 l2 l3 Q hex hnn hzz okl0 okl1 back hbk s.1 s.2 hw hx.1 hx.2.1 hx.2.2) hwp
def wp_X10_prepare (l0 : Nat) (l1 : Nat) (l2 : Int32) (h : PH) (Q : PH → Prop) : Prop := (∀ h1, h1 = qsI h l0 2 (qI h l1 5) → (wp_X8_rubWith l1 l2 h1 (fun r3 h2 => (qLoop (wp_X10_prepare_17 l0 l1 l2 r3 Q) (0, h2)))))
set_option maxHeartbeats 4000000 in
set_option maxRecDepth 100000 in
theorem sn_X10_prepare (G : GT) (d : Nat) (l0 : Nat) (l1 : Nat) (l2 : Int32) (h : PH) (Q : PH → Prop) (okl0 : qOK h 9 l0) (okl1 : qOK h 8 l1) (hwp : wp_X10_prepare l0 l1 l2 h Q) : Mt G (1 + d) 0 0 mX10_prepare [.ref l0, .ref l1, .int l2] h (qqv Q) := by
  unfold wp_X10_prepare at hwp
  refine Mt.of (by decide) rfl (Nat.le_of_ble_eq_true rfl) ?_
  have hex := qEx.rf h
  have hnn : qn h = qn h + 0 := rfl
  have hzz : qz h = qz h + 0 := rfl
  refine x_lvE (lv2 := [(0, .ref l0), (1, .ref l1), (2, .int l2)]) rfl ?_
  refine x_aload_n (pc := 0) dX10_prepare_0 rfl ?_
  refine x_aload_n (pc := 1) dX10_prepare_1 rfl ?_
  refine x_getI (pc := 2) dX10_prepare_2 qRX10_22 okl1 (by decide) ?_
  refine y_putI (pc := 5) dX10_prepare_5 qRX10_18 okl0 (fun h1 eh1 nxh1 => ?_)
  have hwp := hwp h1 eh1
  have hex := hex.tr nxh1.1
  have hnn := nxh1.2.1.trans hnn
  have hzz := nxh1.2.2.trans hzz
  have okl0 := okl0.ex nxh1.1
  have okl1 := okl1.ex nxh1.1
  refine x_aload_n (pc := 8) dX10_prepare_8 rfl ?_
  refine x_iload_n (pc := 9) dX10_prepare_9 rfl ?_
  refine x_invV (As := [.int l2]) (st := []) (pc := 10) dX10_prepare_10 lRX10_25 fX8_rubWith vX8_rubWith okl1 rfl (Nat.le_of_ble_eq_true rfl) (q_R (by omega) (by decide)) (q_C hnn hzz (by decide) (by decide)) (sn_X8_rubWith G (d + 0) l1 l2 h1 _ okl1 hwp) (k_i (fun r3 h2 hwp cxh2 => ?_))
  have hex := hex.tr cxh2.1
  have hnn : qn h2 = qn h + 0 := by have := cxh2.2.1; omega
  have hzz : qz h2 = qz h + 0 := by have := cxh2.2.2; omega
  have okl0 := okl0.ex cxh2.1
  have okl1 := okl1.ex cxh2.1
  refine x_istore_n (lv2 := [(3, .int r3), (0, .ref l0), (1, .ref l1), (2, .int l2)]) (pc := 13) dX10_prepare_13 (by decide) rfl ?_
  refine x_iconst (v := 0) (pc := 14) dX10_prepare_14 (by decide) ?_
  refine x_istore (lv2 := [(4, .int 0), (3, .int r3), (0, .ref l0), (1, .ref l1), (2, .int l2)]) (pc := 15) dX10_prepare_15 (by decide) rfl ?_
  refine x_sub [2, 3, 4, 1, 0] rfl ?_
  exact lp_X10_prepare_17 G d h h2 l0 l1 l2 r3 Q hex hnn hzz okl0 okl1 hwp ⟨qEx.rf _, rfl, rfl⟩

theorem dX10_ceilingOf_0 : decode cX10_ceilingOf 0 = .ok (.iload_n 1, 1) := by decide +kernel
theorem dX10_ceilingOf_1 : decode cX10_ceilingOf 1 = .ok (.ifCond .le 13, 3) := by decide +kernel
theorem dX10_ceilingOf_4 : decode cX10_ceilingOf 4 = .ok (.iload_n 0, 1) := by decide +kernel
theorem dX10_ceilingOf_5 : decode cX10_ceilingOf 5 = .ok (.ineg, 1) := by decide +kernel
theorem dX10_ceilingOf_6 : decode cX10_ceilingOf 6 = .ok (.iload_n 1, 1) := by decide +kernel
theorem dX10_ceilingOf_7 : decode cX10_ceilingOf 7 = .ok (.invokestatic 47, 3) := by decide +kernel
theorem dX10_ceilingOf_10 : decode cX10_ceilingOf 10 = .ok (.ineg, 1) := by decide +kernel
theorem dX10_ceilingOf_11 : decode cX10_ceilingOf 11 = .ok (.goto 4, 3) := by decide +kernel
theorem dX10_ceilingOf_14 : decode cX10_ceilingOf 14 = .ok (.iconst 0, 1) := by decide +kernel
theorem dX10_ceilingOf_15 : decode cX10_ceilingOf 15 = .ok (.ireturn, 1) := by decide +kernel
def wp_X10_ceilingOf (l0 : Int32) (l1 : Int32) (h : PH) (Q : Int32 → PH → Prop) : Prop := ((l1 ≤ 0 → Q 0 h) ∧ (¬ (l1 ≤ 0) → (wp_J9_floorDiv_7cf53 (-l0) l1 h (fun r3 h2 => Q (-r3) h2))))
set_option maxHeartbeats 4000000 in
set_option maxRecDepth 100000 in
theorem sn_X10_ceilingOf (G : GT) (d : Nat) (l0 : Int32) (l1 : Int32) (h : PH) (Q : Int32 → PH → Prop)  (hwp : wp_X10_ceilingOf l0 l1 h Q) : Mt G (1 + d) 0 0 mX10_ceilingOf [.int l0, .int l1] h (qqi Q) := by
  unfold wp_X10_ceilingOf at hwp
  refine Mt.of (by decide) rfl (Nat.le_of_ble_eq_true rfl) ?_
  have hex := qEx.rf h
  have hnn : qn h = qn h + 0 := rfl
  have hzz : qz h = qz h + 0 := rfl
  refine x_lvE (lv2 := [(0, .int l0), (1, .int l1)]) rfl ?_
  refine x_iload_n (pc := 0) dX10_ceilingOf_0 rfl ?_
  refine x_if_le (tgt := 14) (pc := 1) dX10_ceilingOf_1 (by decide) (fun c1 => ?_) (fun c1 => ?_)
  · have hwp := hwp.1 c1
    refine x_iconst (v := 0) (pc := 14) dX10_ceilingOf_14 (by decide) ?_
    exact x_iret (pc := 15) dX10_ceilingOf_15 rfl hex hnn hzz ⟨_, rfl, hwp⟩
  · have hwp := hwp.2 c1
    refine x_iload_n (pc := 4) dX10_ceilingOf_4 rfl ?_
    refine x_ineg (pc := 5) dX10_ceilingOf_5 ?_
    refine x_iload_n (pc := 6) dX10_ceilingOf_6 rfl ?_
    refine x_invS (As := [.int (-l0), .int l1]) (st := []) (pc := 7) dX10_ceilingOf_7 lRX10_47 fJ9_floorDiv_7cf53 sJ9_floorDiv_7cf53 rfl (Nat.le_of_ble_eq_true rfl) (q_R (by omega) (by decide)) (q_C hnn hzz (by decide) (by decide)) (sn_J9_floorDiv_7cf53 G (d + 0) (-l0) l1 h _  hwp) (k_i (fun r3 h2 hwp cxh2 => ?_))
    have hex := hex.tr cxh2.1
    have hnn : qn h2 = qn h + 0 := by have := cxh2.2.1; omega
    have hzz : qz h2 = qz h + 0 := by have := cxh2.2.2; omega
    refine x_ineg (pc := 10) dX10_ceilingOf_10 ?_
    refine x_goto (tgt := 15) (pc := 11) dX10_ceilingOf_11 (by decide) ?_
    exact x_iret (pc := 15) dX10_ceilingOf_15 rfl hex hnn hzz ⟨_, rfl, hwp⟩

theorem dX10_leastFeeding_0 : decode cX10_leastFeeding 0 = .ok (.iload_n 3, 1) := by decide +kernel
theorem dX10_leastFeeding_1 : decode cX10_leastFeeding 1 = .ok (.istore 5, 2) := by decide +kernel
theorem dX10_leastFeeding_3 : decode cX10_leastFeeding 3 = .ok (.iconst 0, 1) := by decide +kernel
theorem dX10_leastFeeding_4 : decode cX10_leastFeeding 4 = .ok (.istore 6, 2) := by decide +kernel
theorem dX10_leastFeeding_6 : decode cX10_leastFeeding 6 = .ok (.iconst 1, 1) := by decide +kernel
theorem dX10_leastFeeding_7 : decode cX10_leastFeeding 7 = .ok (.istore 7, 2) := by decide +kernel
theorem dX10_leastFeeding_9 : decode cX10_leastFeeding 9 = .ok (.iload_n 2, 1) := by decide +kernel
theorem dX10_leastFeeding_10 : decode cX10_leastFeeding 10 = .ok (.istore 8, 2) := by decide +kernel
theorem dX10_leastFeeding_12 : decode cX10_leastFeeding 12 = .ok (.iconst 0, 1) := by decide +kernel
theorem dX10_leastFeeding_13 : decode cX10_leastFeeding 13 = .ok (.istore 9, 2) := by decide +kernel
theorem dX10_leastFeeding_15 : decode cX10_leastFeeding 15 = .ok (.iload 9, 2) := by decide +kernel
theorem dX10_leastFeeding_17 : decode cX10_leastFeeding 17 = .ok (.bipush 20, 2) := by decide +kernel
theorem dX10_leastFeeding_19 : decode cX10_leastFeeding 19 = .ok (.aload_n 0, 1) := by decide +kernel
theorem dX10_leastFeeding_20 : decode cX10_leastFeeding 20 = .ok (.getfield 18, 3) := by decide +kernel
theorem dX10_leastFeeding_23 : decode cX10_leastFeeding 23 = .ok (.imul, 1) := by decide +kernel
theorem dX10_leastFeeding_24 : decode cX10_leastFeeding 24 = .ok (.if_icmp .ge 99, 3) := by decide +kernel
theorem dX10_leastFeeding_27 : decode cX10_leastFeeding 27 = .ok (.iload 5, 2) := by decide +kernel
theorem dX10_leastFeeding_29 : decode cX10_leastFeeding 29 = .ok (.aload_n 0, 1) := by decide +kernel
theorem dX10_leastFeeding_30 : decode cX10_leastFeeding 30 = .ok (.getfield 9, 3) := by decide +kernel
theorem dX10_leastFeeding_33 : decode cX10_leastFeeding 33 = .ok (.iload 8, 2) := by decide +kernel
theorem dX10_leastFeeding_35 : decode cX10_leastFeeding 35 = .ok (.iaload, 1) := by decide +kernel
theorem dX10_leastFeeding_36 : decode cX10_leastFeeding 36 = .ok (.iload 8, 2) := by decide +kernel
theorem dX10_leastFeeding_38 : decode cX10_leastFeeding 38 = .ok (.ifCond .ne 8, 3) := by decide +kernel
theorem dX10_leastFeeding_41 : decode cX10_leastFeeding 41 = .ok (.iload 4, 2) := by decide +kernel
theorem dX10_leastFeeding_43 : decode cX10_leastFeeding 43 = .ok (.goto 4, 3) := by decide +kernel
theorem dX10_leastFeeding_46 : decode cX10_leastFeeding 46 = .ok (.iconst 0, 1) := by decide +kernel
theorem dX10_leastFeeding_47 : decode cX10_leastFeeding 47 = .ok (.isub, 1) := by decide +kernel
theorem dX10_leastFeeding_48 : decode cX10_leastFeeding 48 = .ok (.iadd, 1) := by decide +kernel
theorem dX10_leastFeeding_49 : decode cX10_leastFeeding 49 = .ok (.istore 5, 2) := by decide +kernel
theorem dX10_leastFeeding_51 : decode cX10_leastFeeding 51 = .ok (.iload 6, 2) := by decide +kernel
theorem dX10_leastFeeding_53 : decode cX10_leastFeeding 53 = .ok (.iload 8, 2) := by decide +kernel
theorem dX10_leastFeeding_55 : decode cX10_leastFeeding 55 = .ok (.iload_n 1, 1) := by decide +kernel
theorem dX10_leastFeeding_56 : decode cX10_leastFeeding 56 = .ok (.if_icmp .ne 7, 3) := by decide +kernel
theorem dX10_leastFeeding_59 : decode cX10_leastFeeding 59 = .ok (.iconst 1, 1) := by decide +kernel
theorem dX10_leastFeeding_60 : decode cX10_leastFeeding 60 = .ok (.goto 4, 3) := by decide +kernel
theorem dX10_leastFeeding_63 : decode cX10_leastFeeding 63 = .ok (.iconst 0, 1) := by decide +kernel
theorem dX10_leastFeeding_64 : decode cX10_leastFeeding 64 = .ok (.iadd, 1) := by decide +kernel
theorem dX10_leastFeeding_65 : decode cX10_leastFeeding 65 = .ok (.istore 6, 2) := by decide +kernel
theorem dX10_leastFeeding_67 : decode cX10_leastFeeding 67 = .ok (.iload 5, 2) := by decide +kernel
theorem dX10_leastFeeding_69 : decode cX10_leastFeeding 69 = .ok (.ifCond .ge 29, 3) := by decide +kernel
theorem dX10_leastFeeding_72 : decode cX10_leastFeeding 72 = .ok (.iload 6, 2) := by decide +kernel
theorem dX10_leastFeeding_74 : decode cX10_leastFeeding 74 = .ok (.ifCond .ne 9, 3) := by decide +kernel
theorem dX10_leastFeeding_77 : decode cX10_leastFeeding 77 = .ok (.sipush 1000, 3) := by decide +kernel
theorem dX10_leastFeeding_80 : decode cX10_leastFeeding 80 = .ok (.goto 16, 3) := by decide +kernel
theorem dX10_leastFeeding_83 : decode cX10_leastFeeding 83 = .ok (.iload 7, 2) := by decide +kernel
theorem dX10_leastFeeding_85 : decode cX10_leastFeeding 85 = .ok (.iload 5, 2) := by decide +kernel
theorem dX10_leastFeeding_87 : decode cX10_leastFeeding 87 = .ok (.ineg, 1) := by decide +kernel
theorem dX10_leastFeeding_88 : decode cX10_leastFeeding 88 = .ok (.iload 6, 2) := by decide +kernel
theorem dX10_leastFeeding_90 : decode cX10_leastFeeding 90 = .ok (.invokestatic 39, 3) := by decide +kernel
theorem dX10_leastFeeding_93 : decode cX10_leastFeeding 93 = .ok (.invokestatic 42, 3) := by decide +kernel
theorem dX10_leastFeeding_96 : decode cX10_leastFeeding 96 = .ok (.istore 7, 2) := by decide +kernel
theorem dX10_leastFeeding_98 : decode cX10_leastFeeding 98 = .ok (.iload 7, 2) := by decide +kernel
theorem dX10_leastFeeding_100 : decode cX10_leastFeeding 100 = .ok (.sipush 999, 3) := by decide +kernel
theorem dX10_leastFeeding_103 : decode cX10_leastFeeding 103 = .ok (.if_icmp .le 6, 3) := by decide +kernel
theorem dX10_leastFeeding_106 : decode cX10_leastFeeding 106 = .ok (.iload 7, 2) := by decide +kernel
theorem dX10_leastFeeding_108 : decode cX10_leastFeeding 108 = .ok (.ireturn, 1) := by decide +kernel
theorem dX10_leastFeeding_109 : decode cX10_leastFeeding 109 = .ok (.aload_n 0, 1) := by decide +kernel
theorem dX10_leastFeeding_110 : decode cX10_leastFeeding 110 = .ok (.iload 8, 2) := by decide +kernel
theorem dX10_leastFeeding_112 : decode cX10_leastFeeding 112 = .ok (.invokevirtual 33, 3) := by decide +kernel
theorem dX10_leastFeeding_115 : decode cX10_leastFeeding 115 = .ok (.istore 8, 2) := by decide +kernel
theorem dX10_leastFeeding_117 : decode cX10_leastFeeding 117 = .ok (.iinc 9 1, 3) := by decide +kernel
theorem dX10_leastFeeding_120 : decode cX10_leastFeeding 120 = .ok (.goto (-105), 3) := by decide +kernel
theorem dX10_leastFeeding_123 : decode cX10_leastFeeding 123 = .ok (.iload 7, 2) := by decide +kernel
theorem dX10_leastFeeding_125 : decode cX10_leastFeeding 125 = .ok (.ireturn, 1) := by decide +kernel
def E_X10_leastFeeding_15 (G : GT) (d : Nat) (h0 hb : PH) (l0 : Nat) (l1 : Int32) (l4 : Int32) (Q : Int32 → PH → Prop) (s : Int32 × Int32 × Int32 × Int32 × Int32 × PH) : Prop := qEx hb s.2.2.2.2.2 ∧ qn s.2.2.2.2.2 = qn hb ∧ qz s.2.2.2.2.2 = qz hb → Ex G (qrm (2 + d) 0 0) mX10_leastFeeding (qn h0) (qz h0) (ZN G h0 0 0 (qqi Q)) 15 [(0, .ref l0), (1, .int l1), (4, .int l4), (5, .int s.1), (6, .int s.2.1), (7, .int s.2.2.1), (8, .int s.2.2.2.1), (9, .int s.2.2.2.2.1)] [] s.2.2.2.2.2
def wp_X10_leastFeeding_96 (l0 : Nat) (l1 : Int32) (l4 : Int32) (l5 : Int32) (l6 : Int32) (l8 : Int32) (l9 : Int32) (s0 : Int32) (bk15 : Int32 × Int32 × Int32 × Int32 × Int32 × PH → Prop) (h : PH) (Q : Int32 → PH → Prop) : Prop := ((s0 ≤ 999 → (wp_X10_after l0 l8 h (fun r23 h22 => ∀ v24 : Int32, v24 = l9 + 1 → bk15 (l5, l6, s0, r23, v24, h22)))) ∧ (¬ (s0 ≤ 999) → Q s0 h))
set_option maxHeartbeats 4000000 in
set_option maxRecDepth 100000 in
theorem sg_X10_leastFeeding_96 (G : GT) (d : Nat) (h0 : PH) (l0 : Nat) (l1 : Int32) (l4 : Int32) (l5 : Int32) (l6 : Int32) (l8 : Int32) (l9 : Int32) (s0 : Int32) (h : PH) (Q : Int32 → PH → Prop) (hb15 : PH) (bk15 : Int32 × Int32 × Int32 × Int32 × Int32 × PH → Prop) (hbk15 : ∀ s2, bk15 s2 → E_X10_leastFeeding_15 G d h0 hb15 l0 l1 l4 Q s2) (hx15 : qEx hb15 h) (hn15 : qn h = qn hb15) (hz15 : qz h = qz hb15) (hex : qEx h0 h) (hnn : qn h = qn h0 + 0) (hzz : qz h = qz h0 + 0) (okl0 : qOK h 9 l0) (hwp : wp_X10_leastFeeding_96 l0 l1 l4 l5 l6 l8 l9 s0 bk15 h Q) : Ex G (qrm (2 + d) 0 0) mX10_leastFeeding (qn h0) (qz h0) (ZN G h0 0 0 (qqi Q)) 96 [(0, .ref l0), (1, .int l1), (4, .int l4), (5, .int l5), (6, .int l6), (8, .int l8), (9, .int l9)] [.int s0] h := by
  unfold wp_X10_leastFeeding_96 at hwp
  refine x_istore (lv2 := [(7, .int s0), (0, .ref l0), (1, .int l1), (4, .int l4), (5, .int l5), (6, .int l6), (8, .int l8), (9, .int l9)]) (pc := 96) dX10_leastFeeding_96 (by decide) rfl ?_
  refine x_iload (pc := 98) dX10_leastFeeding_98 rfl ?_
  refine x_sipush (v := 999) (pc := 100) dX10_leastFeeding_100 (by decide) ?_
  refine x_icmp_le (tgt := 109) (pc := 103) dX10_leastFeeding_103 (by decide) (fun c21 => ?_) (fun c21 => ?_)
  · have hwp := hwp.1 c21
    refine x_aload_n (pc := 109) dX10_leastFeeding_109 rfl ?_
    refine x_iload (pc := 110) dX10_leastFeeding_110 rfl ?_
    refine x_invV (As := [.int l8]) (st := []) (pc := 112) dX10_leastFeeding_112 lRX10_33 fX10_after vX10_after okl0 rfl (Nat.le_of_ble_eq_true rfl) (q_R (by omega) (by decide)) (q_C hnn hzz (by decide) (by decide)) (sn_X10_after G (d + 1) l0 l8 h _ okl0 hwp) (k_i (fun r23 h22 hwp cxh22 => ?_))
    have hex := hex.tr cxh22.1
    have hnn : qn h22 = qn h0 + 0 := by have := cxh22.2.1; omega
    have hzz : qz h22 = qz h0 + 0 := by have := cxh22.2.2; omega
    have hx15 := hx15.tr cxh22.1
    have hn15 : qn h22 = qn hb15 := by have := cxh22.2.1; omega
    have hz15 : qz h22 = qz hb15 := by have := cxh22.2.2; omega
    have okl0 := okl0.ex cxh22.1
    refine x_istore (lv2 := [(8, .int r23), (7, .int s0), (0, .ref l0), (1, .int l1), (4, .int l4), (5, .int l5), (6, .int l6), (9, .int l9)]) (pc := 115) dX10_leastFeeding_115 (by decide) rfl ?_
    refine y_iinc (c := 1) (pc := 117) dX10_leastFeeding_117 rfl (by decide) (by decide) (fun v24 ev24 => ?_)
    have hwp := hwp v24 ev24
    refine x_lvE (lv2 := [(9, .int v24), (8, .int r23), (7, .int s0), (0, .ref l0), (1, .int l1), (4, .int l4), (5, .int l5), (6, .int l6)]) rfl ?_
    refine x_goto (tgt := 15) (pc := 120) dX10_leastFeeding_120 (by decide) ?_
    refine x_sub [3, 4, 5, 6, 7, 2, 1, 0] rfl ?_
    exact hbk15 _ hwp ⟨hx15, hn15, hz15⟩
  · have hwp := hwp.2 c21
    refine x_iload (pc := 106) dX10_leastFeeding_106 rfl ?_
    exact x_iret (pc := 108) dX10_leastFeeding_108 rfl hex hnn hzz ⟨_, rfl, hwp⟩
def wp_X10_leastFeeding_64 (l0 : Nat) (l1 : Int32) (l4 : Int32) (l5 : Int32) (l7 : Int32) (l8 : Int32) (l9 : Int32) (s0 : Int32) (s1 : Int32) (bk15 : Int32 × Int32 × Int32 × Int32 × Int32 × PH → Prop) (h : PH) (Q : Int32 → PH → Prop) : Prop := ∀ v10 : Int32, v10 = s1 + s0 → ((0 ≤ l5 → ((l7 ≤ 999 → (wp_X10_after l0 l8 h (fun r14 h13 => ∀ v15 : Int32, v15 = l9 + 1 → bk15 (l5, v10, l7, r14, v15, h13)))) ∧ (¬ (l7 ≤ 999) → Q l7 h))) ∧ (¬ (0 ≤ l5) → ((¬ v10 = 0 → (wp_X10_ceilingOf (-l5) v10 h (fun r18 h17 => (wp_J9_max_7cf53 l7 r18 h17 (fun r20 h19 => (wp_X10_leastFeeding_96 l0 l1 l4 l5 v10 l8 l9 r20 bk15 h19 Q)))))) ∧ (v10 = 0 → (wp_X10_leastFeeding_96 l0 l1 l4 l5 v10 l8 l9 1000 bk15 h Q)))))
set_option maxHeartbeats 4000000 in
set_option maxRecDepth 100000 in
theorem sg_X10_leastFeeding_64 (G : GT) (d : Nat) (h0 : PH) (l0 : Nat) (l1 : Int32) (l4 : Int32) (l5 : Int32) (l7 : Int32) (l8 : Int32) (l9 : Int32) (s0 : Int32) (s1 : Int32) (h : PH) (Q : Int32 → PH → Prop) (hb15 : PH) (bk15 : Int32 × Int32 × Int32 × Int32 × Int32 × PH → Prop) (hbk15 : ∀ s2, bk15 s2 → E_X10_leastFeeding_15 G d h0 hb15 l0 l1 l4 Q s2) (hx15 : qEx hb15 h) (hn15 : qn h = qn hb15) (hz15 : qz h = qz hb15) (hex : qEx h0 h) (hnn : qn h = qn h0 + 0) (hzz : qz h = qz h0 + 0) (okl0 : qOK h 9 l0) (hwp : wp_X10_leastFeeding_64 l0 l1 l4 l5 l7 l8 l9 s0 s1 bk15 h Q) : Ex G (qrm (2 + d) 0 0) mX10_leastFeeding (qn h0) (qz h0) (ZN G h0 0 0 (qqi Q)) 64 [(0, .ref l0), (1, .int l1), (4, .int l4), (5, .int l5), (7, .int l7), (8, .int l8), (9, .int l9)] [.int s0, .int s1] h := by
  unfold wp_X10_leastFeeding_64 at hwp
  refine x_iadd (pc := 64) dX10_leastFeeding_64 ?_
  refine x_nmI (fun v10 ev10 => ?_)
  have hwp := hwp v10 ev10
  refine x_istore (lv2 := [(6, .int v10), (0, .ref l0), (1, .int l1), (4, .int l4), (5, .int l5), (7, .int l7), (8, .int l8), (9, .int l9)]) (pc := 65) dX10_leastFeeding_65 (by decide) rfl ?_
  refine x_iload (pc := 67) dX10_leastFeeding_67 rfl ?_
  refine x_if_ge (tgt := 98) (pc := 69) dX10_leastFeeding_69 (by decide) (fun c11 => ?_) (fun c11 => ?_)
  · have hwp := hwp.1 c11
    refine x_iload (pc := 98) dX10_leastFeeding_98 rfl ?_
    refine x_sipush (v := 999) (pc := 100) dX10_leastFeeding_100 (by decide) ?_
    refine x_icmp_le (tgt := 109) (pc := 103) dX10_leastFeeding_103 (by decide) (fun c12 => ?_) (fun c12 => ?_)
    · have hwp := hwp.1 c12
      refine x_aload_n (pc := 109) dX10_leastFeeding_109 rfl ?_
      refine x_iload (pc := 110) dX10_leastFeeding_110 rfl ?_
      refine x_invV (As := [.int l8]) (st := []) (pc := 112) dX10_leastFeeding_112 lRX10_33 fX10_after vX10_after okl0 rfl (Nat.le_of_ble_eq_true rfl) (q_R (by omega) (by decide)) (q_C hnn hzz (by decide) (by decide)) (sn_X10_after G (d + 1) l0 l8 h _ okl0 hwp) (k_i (fun r14 h13 hwp cxh13 => ?_))
      have hex := hex.tr cxh13.1
      have hnn : qn h13 = qn h0 + 0 := by have := cxh13.2.1; omega
      have hzz : qz h13 = qz h0 + 0 := by have := cxh13.2.2; omega
      have hx15 := hx15.tr cxh13.1
      have hn15 : qn h13 = qn hb15 := by have := cxh13.2.1; omega
      have hz15 : qz h13 = qz hb15 := by have := cxh13.2.2; omega
      have okl0 := okl0.ex cxh13.1
      refine x_istore (lv2 := [(8, .int r14), (6, .int v10), (0, .ref l0), (1, .int l1), (4, .int l4), (5, .int l5), (7, .int l7), (9, .int l9)]) (pc := 115) dX10_leastFeeding_115 (by decide) rfl ?_
      refine y_iinc (c := 1) (pc := 117) dX10_leastFeeding_117 rfl (by decide) (by decide) (fun v15 ev15 => ?_)
      have hwp := hwp v15 ev15
      refine x_lvE (lv2 := [(9, .int v15), (8, .int r14), (6, .int v10), (0, .ref l0), (1, .int l1), (4, .int l4), (5, .int l5), (7, .int l7)]) rfl ?_
      refine x_goto (tgt := 15) (pc := 120) dX10_leastFeeding_120 (by decide) ?_
      refine x_sub [3, 4, 5, 6, 2, 7, 1, 0] rfl ?_
      exact hbk15 _ hwp ⟨hx15, hn15, hz15⟩
    · have hwp := hwp.2 c12
      refine x_iload (pc := 106) dX10_leastFeeding_106 rfl ?_
      exact x_iret (pc := 108) dX10_leastFeeding_108 rfl hex hnn hzz ⟨_, rfl, hwp⟩
  · have hwp := hwp.2 c11
    refine x_iload (pc := 72) dX10_leastFeeding_72 rfl ?_
    refine x_if_ne (tgt := 83) (pc := 74) dX10_leastFeeding_74 (by decide) (fun c16 => ?_) (fun c16 => ?_)
    · have hwp := hwp.1 c16
      refine x_iload (pc := 83) dX10_leastFeeding_83 rfl ?_
      refine x_iload (pc := 85) dX10_leastFeeding_85 rfl ?_
      refine x_ineg (pc := 87) dX10_leastFeeding_87 ?_
      refine x_iload (pc := 88) dX10_leastFeeding_88 rfl ?_
      refine x_invS (As := [.int (-l5), .int v10]) (st := [.int l7]) (pc := 90) dX10_leastFeeding_90 lRX10_39 fX10_ceilingOf sX10_ceilingOf rfl (Nat.le_of_ble_eq_true rfl) (q_R (by omega) (by decide)) (q_C hnn hzz (by decide) (by decide)) (sn_X10_ceilingOf G (d + 0) (-l5) v10 h _  hwp) (k_i (fun r18 h17 hwp cxh17 => ?_))
      have hex := hex.tr cxh17.1
      have hnn : qn h17 = qn h0 + 0 := by have := cxh17.2.1; omega
      have hzz : qz h17 = qz h0 + 0 := by have := cxh17.2.2; omega
      have hx15 := hx15.tr cxh17.1
      have hn15 : qn h17 = qn hb15 := by have := cxh17.2.1; omega
      have hz15 : qz h17 = qz hb15 := by have := cxh17.2.2; omega
      have okl0 := okl0.ex cxh17.1
      refine x_invS (As := [.int l7, .int r18]) (st := []) (pc := 93) dX10_leastFeeding_93 lRX10_42 fJ9_max_7cf53 sJ9_max_7cf53 rfl (Nat.le_of_ble_eq_true rfl) (q_R (by omega) (by decide)) (q_C hnn hzz (by decide) (by decide)) (sn_J9_max_7cf53 G (d + 1) l7 r18 h17 _  hwp) (k_i (fun r20 h19 hwp cxh19 => ?_))
      have hex := hex.tr cxh19.1
      have hnn : qn h19 = qn h0 + 0 := by have := cxh19.2.1; omega
      have hzz : qz h19 = qz h0 + 0 := by have := cxh19.2.2; omega
      have hx15 := hx15.tr cxh19.1
      have hn15 : qn h19 = qn hb15 := by have := cxh19.2.1; omega
      have hz15 : qz h19 = qz hb15 := by have := cxh19.2.2; omega
      have okl0 := okl0.ex cxh19.1
      refine x_sub [1, 2, 3, 4, 0, 6, 7] rfl ?_
      exact sg_X10_leastFeeding_96 G d h0 l0 l1 l4 l5 v10 l8 l9 r20 h19 Q hb15 bk15 hbk15 hx15 hn15 hz15 hex hnn hzz okl0 hwp
    · have hwp := hwp.2 c16
      refine x_sipush (v := 1000) (pc := 77) dX10_leastFeeding_77 (by decide) ?_
      refine x_goto (tgt := 96) (pc := 80) dX10_leastFeeding_80 (by decide) ?_
      refine x_sub [1, 2, 3, 4, 0, 6, 7] rfl ?_
      exact sg_X10_leastFeeding_96 G d h0 l0 l1 l4 l5 v10 l8 l9 1000 h Q hb15 bk15 hbk15 hx15 hn15 hz15 hex hnn hzz okl0 hwp
def wb_X10_leastFeeding_15 (l0 : Nat) (l1 : Int32) (l4 : Int32)  (Q : Int32 → PH → Prop) (bk15 : Int32 × Int32 × Int32 × Int32 × Int32 × PH → Prop) (l5 : Int32) (l6 : Int32) (l7 : Int32) (l8 : Int32) (l9 : Int32) (h : PH) : Prop := (((20 * (qI h l0 2)) ≤ l9 → Q l7 h) ∧ (¬ ((20 * (qI h l0 2)) ≤ l9) → (∃ b2, qR h l0 0 = some b2 ∧ (vp_in l8 (qL h b2) ∧ ((¬ l8 = 0 → ∀ v6 : Int32, v6 = l5 + ((qI h b2 l8.toNatClampNeg) - 0) → ((¬ l8 = l1 → (wp_X10_leastFeeding_64 l0 l1 l4 v6 l7 l8 l9 0 l6 bk15 h Q)) ∧ (l8 = l1 → (wp_X10_leastFeeding_64 l0 l1 l4 v6 l7 l8 l9 1 l6 bk15 h Q)))) ∧ (l8 = 0 → ∀ v8 : Int32, v8 = l5 + ((qI h b2 l8.toNatClampNeg) - l4) → ((¬ l8 = l1 → (wp_X10_leastFeeding_64 l0 l1 l4 v8 l7 l8 l9 0 l6 bk15 h Q)) ∧ (l8 = l1 → (wp_X10_leastFeeding_64 l0 l1 l4 v8 l7 l8 l9 1 l6 bk15 h Q)))))))))
def wp_X10_leastFeeding_15 (l0 : Nat) (l1 : Int32) (l4 : Int32)  (Q : Int32 → PH → Prop) (bk15 : Int32 × Int32 × Int32 × Int32 × Int32 × PH → Prop) (s : Int32 × Int32 × Int32 × Int32 × Int32 × PH) : Prop := wb_X10_leastFeeding_15 l0 l1 l4 Q bk15 s.1 s.2.1 s.2.2.1 s.2.2.2.1 s.2.2.2.2.1 s.2.2.2.2.2
set_option maxHeartbeats 4000000 in
set_option maxRecDepth 100000 in
theorem bd_X10_leastFeeding_15 (G : GT) (d : Nat) (h0 hb : PH) (l0 : Nat) (l1 : Int32) (l4 : Int32) (Q : Int32 → PH → Prop)  (hex : qEx h0 hb) (hnn : qn hb = qn h0 + 0) (hzz : qz hb = qz h0 + 0) (okl0 : qOK hb 9 l0) (bk15 : Int32 × Int32 × Int32 × Int32 × Int32 × PH → Prop) (hbk15 : ∀ s2, bk15 s2 → E_X10_leastFeeding_15 G d h0 hb l0 l1 l4 Q s2) (l5 : Int32) (l6 : Int32) (l7 : Int32) (l8 : Int32) (l9 : Int32) (h : PH) (hwp : wb_X10_leastFeeding_15 l0 l1 l4 Q bk15 l5 l6 l7 l8 l9 h) (hx15 : qEx hb h) (hn15 : qn h = qn hb) (hz15 : qz h = qz hb) : Ex G (qrm (2 + d) 0 0) mX10_leastFeeding (qn h0) (qz h0) (ZN G h0 0 0 (qqi Q)) 15 [(0, .ref l0), (1, .int l1), (4, .int l4), (5, .int l5), (6, .int l6), (7, .int l7), (8, .int l8), (9, .int l9)] [] h := by
  unfold wb_X10_leastFeeding_15 at hwp
  have hex := hex.tr hx15
  have hnn := hn15.trans hnn
  have hzz := hz15.trans hzz
  have okl0 := okl0.ex hx15
  refine x_iload (pc := 15) dX10_leastFeeding_15 rfl ?_
  refine x_bipush (v := 20) (pc := 17) dX10_leastFeeding_17 (by decide) ?_
  refine x_aload_n (pc := 19) dX10_leastFeeding_19 rfl ?_
  refine x_getI (pc := 20) dX10_leastFeeding_20 qRX10_18 okl0 (by decide) ?_
  refine x_imul (pc := 23) dX10_leastFeeding_23 ?_
  refine x_icmp_ge (tgt := 123) (pc := 24) dX10_leastFeeding_24 (by decide) (fun c1 => ?_) (fun c1 => ?_)
  · have hwp := hwp.1 c1
    refine x_iload (pc := 123) dX10_leastFeeding_123 rfl ?_
    exact x_iret (pc := 125) dX10_leastFeeding_125 rfl hex hnn hzz ⟨_, rfl, hwp⟩
  · have hwp := hwp.2 c1
    refine x_iload (pc := 27) dX10_leastFeeding_27 rfl ?_
    refine x_aload_n (pc := 29) dX10_leastFeeding_29 rfl ?_
    obtain ⟨b2, e3, hwp⟩ := hwp
    refine x_getR (pc := 30) dX10_leastFeeding_30 qRX10_9 okl0 e3 (fun okb2 => ?_)
    refine x_iload (pc := 33) dX10_leastFeeding_33 rfl ?_
    obtain ⟨i4, hwp⟩ := hwp
    refine x_iaload (pc := 35) dX10_leastFeeding_35 okb2 i4 ?_
    refine x_iload (pc := 36) dX10_leastFeeding_36 rfl ?_
    refine x_if_ne (tgt := 46) (pc := 38) dX10_leastFeeding_38 (by decide) (fun c5 => ?_) (fun c5 => ?_)
    · have hwp := hwp.1 c5
      refine x_iconst (v := 0) (pc := 46) dX10_leastFeeding_46 (by decide) ?_
      refine x_isub (pc := 47) dX10_leastFeeding_47 ?_
      refine x_iadd (pc := 48) dX10_leastFeeding_48 ?_
      refine x_nmI (fun v6 ev6 => ?_)
      have hwp := hwp v6 ev6
      refine x_istore (lv2 := [(5, .int v6), (0, .ref l0), (1, .int l1), (4, .int l4), (6, .int l6), (7, .int l7), (8, .int l8), (9, .int l9)]) (pc := 49) dX10_leastFeeding_49 (by decide) rfl ?_
      refine x_iload (pc := 51) dX10_leastFeeding_51 rfl ?_
      refine x_iload (pc := 53) dX10_leastFeeding_53 rfl ?_
      refine x_iload_n (pc := 55) dX10_leastFeeding_55 rfl ?_
      refine x_icmp_ne (tgt := 63) (pc := 56) dX10_leastFeeding_56 (by decide) (fun c7 => ?_) (fun c7 => ?_)
      · have hwp := hwp.1 c7
        refine x_iconst (v := 0) (pc := 63) dX10_leastFeeding_63 (by decide) ?_
        refine x_sub [1, 2, 3, 0, 5, 6, 7] rfl ?_
        exact sg_X10_leastFeeding_64 G d h0 l0 l1 l4 v6 l7 l8 l9 0 l6 h Q hb bk15 hbk15 hx15 hn15 hz15 hex hnn hzz okl0 hwp
      · have hwp := hwp.2 c7
        refine x_iconst (v := 1) (pc := 59) dX10_leastFeeding_59 (by decide) ?_
        refine x_goto (tgt := 64) (pc := 60) dX10_leastFeeding_60 (by decide) ?_
        refine x_sub [1, 2, 3, 0, 5, 6, 7] rfl ?_
        exact sg_X10_leastFeeding_64 G d h0 l0 l1 l4 v6 l7 l8 l9 1 l6 h Q hb bk15 hbk15 hx15 hn15 hz15 hex hnn hzz okl0 hwp
    · have hwp := hwp.2 c5
      refine x_iload (pc := 41) dX10_leastFeeding_41 rfl ?_
      refine x_goto (tgt := 47) (pc := 43) dX10_leastFeeding_43 (by decide) ?_
      refine x_isub (pc := 47) dX10_leastFeeding_47 ?_
      refine x_iadd (pc := 48) dX10_leastFeeding_48 ?_
      refine x_nmI (fun v8 ev8 => ?_)
      have hwp := hwp v8 ev8
      refine x_istore (lv2 := [(5, .int v8), (0, .ref l0), (1, .int l1), (4, .int l4), (6, .int l6), (7, .int l7), (8, .int l8), (9, .int l9)]) (pc := 49) dX10_leastFeeding_49 (by decide) rfl ?_
      refine x_iload (pc := 51) dX10_leastFeeding_51 rfl ?_
      refine x_iload (pc := 53) dX10_leastFeeding_53 rfl ?_
      refine x_iload_n (pc := 55) dX10_leastFeeding_55 rfl ?_
      refine x_icmp_ne (tgt := 63) (pc := 56) dX10_leastFeeding_56 (by decide) (fun c9 => ?_) (fun c9 => ?_)
      · have hwp := hwp.1 c9
        refine x_iconst (v := 0) (pc := 63) dX10_leastFeeding_63 (by decide) ?_
        refine x_sub [1, 2, 3, 0, 5, 6, 7] rfl ?_
        exact sg_X10_leastFeeding_64 G d h0 l0 l1 l4 v8 l7 l8 l9 0 l6 h Q hb bk15 hbk15 hx15 hn15 hz15 hex hnn hzz okl0 hwp
      · have hwp := hwp.2 c9
        refine x_iconst (v := 1) (pc := 59) dX10_leastFeeding_59 (by decide) ?_
        refine x_goto (tgt := 64) (pc := 60) dX10_leastFeeding_60 (by decide) ?_
        refine x_sub [1, 2, 3, 0, 5, 6, 7] rfl ?_
        exact sg_X10_leastFeeding_64 G d h0 l0 l1 l4 v8 l7 l8 l9 1 l6 h Q hb bk15 hbk15 hx15 hn15 hz15 hex hnn hzz okl0 hwp
theorem lp_X10_leastFeeding_15 (G : GT) (d : Nat) (h0 hb : PH) (l0 : Nat) (l1 : Int32) (l4 : Int32) (Q : Int32 → PH → Prop)  (hex : qEx h0 hb) (hnn : qn hb = qn h0 + 0) (hzz : qz hb = qz h0 + 0) (okl0 : qOK hb 9 l0) {s : Int32 × Int32 × Int32 × Int32 × Int32 × PH} (hwp : qLoop (wp_X10_leastFeeding_15 l0 l1 l4 Q) s) : E_X10_leastFeeding_15 G d h0 hb l0 l1 l4 Q s :=
  qLoop.use (E := E_X10_leastFeeding_15 G d h0 hb l0 l1 l4 Q) (fun back s hbk hw hx => bd_X10_leastFeeding_15 G d h0 hb l0 l1 l4 Q hex hnn hzz okl0 back hbk s.1 s.2.1 s.2.2.1 s.2.2.2.1 s.2.2.2.2.1 s.2.2.2.2.2 hw hx.1 hx.2.1 hx.2.2) hwp
def wp_X10_leastFeeding (l0 : Nat) (l1 : Int32) (l2 : Int32) (l3 : Int32) (l4 : Int32) (h : PH) (Q : Int32 → PH → Prop) : Prop := (qLoop (wp_X10_leastFeeding_15 l0 l1 l4 Q) (l3, 0, 1, l2, 0, h))
set_option maxHeartbeats 4000000 in
set_option maxRecDepth 100000 in
theorem sn_X10_leastFeeding (G : GT) (d : Nat) (l0 : Nat) (l1 : Int32) (l2 : Int32) (l3 : Int32) (l4 : Int32) (h : PH) (Q : Int32 → PH → Prop) (okl0 : qOK h 9 l0) (hwp : wp_X10_leastFeeding l0 l1 l2 l3 l4 h Q) : Mt G (2 + d) 0 0 mX10_leastFeeding [.ref l0, .int l1, .int l2, .int l3, .int l4] h (qqi Q) := by
  unfold wp_X10_leastFeeding at hwp
  refine Mt.of (by decide) rfl (Nat.le_of_ble_eq_true rfl) ?_
  have hex := qEx.rf h
  have hnn : qn h = qn h + 0 := rfl
  have hzz : qz h = qz h + 0 := rfl
  refine x_lvE (lv2 := [(0, .ref l0), (1, .int l1), (2, .int l2), (3, .int l3), (4, .int l4)]) rfl ?_
  refine x_iload_n (pc := 0) dX10_leastFeeding_0 rfl ?_
  refine x_istore (lv2 := [(5, .int l3), (0, .ref l0), (1, .int l1), (2, .int l2), (3, .int l3), (4, .int l4)]) (pc := 1) dX10_leastFeeding_1 (by decide) rfl ?_
  refine x_iconst (v := 0) (pc := 3) dX10_leastFeeding_3 (by decide) ?_
  refine x_istore (lv2 := [(6, .int 0), (5, .int l3), (0, .ref l0), (1, .int l1), (2, .int l2), (3, .int l3), (4, .int l4)]) (pc := 4) dX10_leastFeeding_4 (by decide) rfl ?_
  refine x_iconst (v := 1) (pc := 6) dX10_leastFeeding_6 (by decide) ?_
  refine x_istore (lv2 := [(7, .int 1), (6, .int 0), (5, .int l3), (0, .ref l0), (1, .int l1), (2, .int l2), (3, .int l3), (4, .int l4)]) (pc := 7) dX10_leastFeeding_7 (by decide) rfl ?_
  refine x_iload_n (pc := 9) dX10_leastFeeding_9 rfl ?_
  refine x_istore (lv2 := [(8, .int l2), (7, .int 1), (6, .int 0), (5, .int l3), (0, .ref l0), (1, .int l1), (2, .int l2), (3, .int l3), (4, .int l4)]) (pc := 10) dX10_leastFeeding_10 (by decide) rfl ?_
  refine x_iconst (v := 0) (pc := 12) dX10_leastFeeding_12 (by decide) ?_
  refine x_istore (lv2 := [(9, .int 0), (8, .int l2), (7, .int 1), (6, .int 0), (5, .int l3), (0, .ref l0), (1, .int l1), (2, .int l2), (3, .int l3), (4, .int l4)]) (pc := 13) dX10_leastFeeding_13 (by decide) rfl ?_
  refine x_sub [5, 6, 9, 4, 3, 2, 1, 0] rfl ?_
  exact lp_X10_leastFeeding_15 G d h h l0 l1 l4 Q hex hnn hzz okl0 hwp ⟨qEx.rf _, rfl, rfl⟩

theorem dX4_init_0 : decode cX4_init 0 = .ok (.aload_n 0, 1) := by decide +kernel
theorem dX4_init_1 : decode cX4_init 1 = .ok (.invokespecial 3, 3) := by decide +kernel
theorem dX4_init_4 : decode cX4_init 4 = .ok (.aload_n 0, 1) := by decide +kernel
theorem dX4_init_5 : decode cX4_init 5 = .ok (.iconst 4, 1) := by decide +kernel
theorem dX4_init_6 : decode cX4_init 6 = .ok (.putfield 11, 3) := by decide +kernel
theorem dX4_init_9 : decode cX4_init 9 = .ok (.aload_n 0, 1) := by decide +kernel
theorem dX4_init_10 : decode cX4_init 10 = .ok (.iconst 0, 1) := by decide +kernel
theorem dX4_init_11 : decode cX4_init 11 = .ok (.putfield 15, 3) := by decide +kernel
theorem dX4_init_14 : decode cX4_init 14 = .ok (.aload_n 0, 1) := by decide +kernel
theorem dX4_init_15 : decode cX4_init 15 = .ok (.iconst 0, 1) := by decide +kernel
theorem dX4_init_16 : decode cX4_init 16 = .ok (.putfield 18, 3) := by decide +kernel
theorem dX4_init_19 : decode cX4_init 19 = .ok (.aload_n 0, 1) := by decide +kernel
theorem dX4_init_20 : decode cX4_init 20 = .ok (.iconst 0, 1) := by decide +kernel
theorem dX4_init_21 : decode cX4_init 21 = .ok (.putfield 21, 3) := by decide +kernel
theorem dX4_init_24 : decode cX4_init 24 = .ok (.aload_n 0, 1) := by decide +kernel
theorem dX4_init_25 : decode cX4_init 25 = .ok (.iconst 0, 1) := by decide +kernel
theorem dX4_init_26 : decode cX4_init 26 = .ok (.putfield 24, 3) := by decide +kernel
theorem dX4_init_29 : decode cX4_init 29 = .ok (.aload_n 0, 1) := by decide +kernel
theorem dX4_init_30 : decode cX4_init 30 = .ok (.iconst 0, 1) := by decide +kernel
theorem dX4_init_31 : decode cX4_init 31 = .ok (.putfield 27, 3) := by decide +kernel
theorem dX4_init_34 : decode cX4_init 34 = .ok (.aload_n 0, 1) := by decide +kernel
theorem dX4_init_35 : decode cX4_init 35 = .ok (.iconst 0, 1) := by decide +kernel
theorem dX4_init_36 : decode cX4_init 36 = .ok (.putfield 30, 3) := by decide +kernel
theorem dX4_init_39 : decode cX4_init 39 = .ok (.aload_n 0, 1) := by decide +kernel
theorem dX4_init_40 : decode cX4_init 40 = .ok (.iconst 0, 1) := by decide +kernel
theorem dX4_init_41 : decode cX4_init 41 = .ok (.putfield 33, 3) := by decide +kernel
theorem dX4_init_44 : decode cX4_init 44 = .ok (.aload_n 0, 1) := by decide +kernel
theorem dX4_init_45 : decode cX4_init 45 = .ok (.iconst 0, 1) := by decide +kernel
theorem dX4_init_46 : decode cX4_init 46 = .ok (.putfield 37, 3) := by decide +kernel
theorem dX4_init_49 : decode cX4_init 49 = .ok (.aload_n 0, 1) := by decide +kernel
theorem dX4_init_50 : decode cX4_init 50 = .ok (.iconst 0, 1) := by decide +kernel
theorem dX4_init_51 : decode cX4_init 51 = .ok (.putfield 40, 3) := by decide +kernel
theorem dX4_init_54 : decode cX4_init 54 = .ok (.return_, 1) := by decide +kernel
def wp_X4_init (l0 : Nat) (h : PH) (Q : PH → Prop) : Prop := (∀ h1, h1 = qsI h l0 0 4 → (∀ h2, h2 = qsI h1 l0 1 0 → (∀ h3, h3 = qsI h2 l0 2 0 → (∀ h4, h4 = qsI h3 l0 3 0 → (∀ h5, h5 = qsI h4 l0 4 0 → (∀ h6, h6 = qsI h5 l0 5 0 → (∀ h7, h7 = qsI h6 l0 6 0 → (∀ h8, h8 = qsI h7 l0 7 0 → (∀ h9, h9 = qsI h8 l0 8 0 → (∀ h10, h10 = qsI h9 l0 9 0 → Q h10))))))))))
set_option maxHeartbeats 4000000 in
set_option maxRecDepth 100000 in
theorem sn_X4_init (G : GT) (d : Nat) (l0 : Nat) (h : PH) (Q : PH → Prop) (okl0 : qOK h 4 l0) (hwp : wp_X4_init l0 h Q) : Mt G (1 + d) 0 0 mX4_init [.ref l0] h (qqv Q) := by
  unfold wp_X4_init at hwp
  refine Mt.of (by decide) rfl (Nat.le_of_ble_eq_true rfl) ?_
  have hex := qEx.rf h
  have hnn : qn h = qn h + 0 := rfl
  have hzz : qz h = qz h + 0 := rfl
  refine x_lvE (lv2 := [(0, .ref l0)]) rfl ?_
  refine x_aload_n (pc := 0) dX4_init_0 rfl ?_
  refine x_objInit (pc := 1) dX4_init_1 lRX4_3 wk_oi wk_oc (q_R1 (by omega)) (Nat.le_of_ble_eq_true rfl) ?_
  refine x_aload_n (pc := 4) dX4_init_4 rfl ?_
  refine x_iconst (v := 4) (pc := 5) dX4_init_5 (by decide) ?_
  refine y_putI (pc := 6) dX4_init_6 qRX4_11 okl0 (fun h1 eh1 nxh1 => ?_)
  have hwp := hwp h1 eh1
  have hex := hex.tr nxh1.1
  have hnn := nxh1.2.1.trans hnn
  have hzz := nxh1.2.2.trans hzz
  have okl0 := okl0.ex nxh1.1
  refine x_aload_n (pc := 9) dX4_init_9 rfl ?_
  refine x_iconst (v := 0) (pc := 10) dX4_init_10 (by decide) ?_
  refine y_putI (pc := 11) dX4_init_11 qRX4_15 okl0 (fun h2 eh2 nxh2 => ?_)
  have hwp := hwp h2 eh2
  have hex := hex.tr nxh2.1
  have hnn := nxh2.2.1.trans hnn
  have hzz := nxh2.2.2.trans hzz
  have okl0 := okl0.ex nxh2.1
  refine x_aload_n (pc := 14) dX4_init_14 rfl ?_
  refine x_iconst (v := 0) (pc := 15) dX4_init_15 (by decide) ?_
  refine y_putI (pc := 16) dX4_init_16 qRX4_18 okl0 (fun h3 eh3 nxh3 => ?_)
  have hwp := hwp h3 eh3
  have hex := hex.tr nxh3.1
  have hnn := nxh3.2.1.trans hnn
  have hzz := nxh3.2.2.trans hzz
  have okl0 := okl0.ex nxh3.1
  refine x_aload_n (pc := 19) dX4_init_19 rfl ?_
  refine x_iconst (v := 0) (pc := 20) dX4_init_20 (by decide) ?_
  refine y_putI (pc := 21) dX4_init_21 qRX4_21 okl0 (fun h4 eh4 nxh4 => ?_)
  have hwp := hwp h4 eh4
  have hex := hex.tr nxh4.1
  have hnn := nxh4.2.1.trans hnn
  have hzz := nxh4.2.2.trans hzz
  have okl0 := okl0.ex nxh4.1
  refine x_aload_n (pc := 24) dX4_init_24 rfl ?_
  refine x_iconst (v := 0) (pc := 25) dX4_init_25 (by decide) ?_
  refine y_putI (pc := 26) dX4_init_26 qRX4_24 okl0 (fun h5 eh5 nxh5 => ?_)
  have hwp := hwp h5 eh5
  have hex := hex.tr nxh5.1
  have hnn := nxh5.2.1.trans hnn
  have hzz := nxh5.2.2.trans hzz
  have okl0 := okl0.ex nxh5.1
  refine x_aload_n (pc := 29) dX4_init_29 rfl ?_
  refine x_iconst (v := 0) (pc := 30) dX4_init_30 (by decide) ?_
  refine y_putI (pc := 31) dX4_init_31 qRX4_27 okl0 (fun h6 eh6 nxh6 => ?_)
  have hwp := hwp h6 eh6
  have hex := hex.tr nxh6.1
  have hnn := nxh6.2.1.trans hnn
  have hzz := nxh6.2.2.trans hzz
  have okl0 := okl0.ex nxh6.1
  refine x_aload_n (pc := 34) dX4_init_34 rfl ?_
  refine x_iconst (v := 0) (pc := 35) dX4_init_35 (by decide) ?_
  refine y_putI (pc := 36) dX4_init_36 qRX4_30 okl0 (fun h7 eh7 nxh7 => ?_)
  have hwp := hwp h7 eh7
  have hex := hex.tr nxh7.1
  have hnn := nxh7.2.1.trans hnn
  have hzz := nxh7.2.2.trans hzz
  have okl0 := okl0.ex nxh7.1
  refine x_aload_n (pc := 39) dX4_init_39 rfl ?_
  refine x_iconst (v := 0) (pc := 40) dX4_init_40 (by decide) ?_
  refine y_putZ (pc := 41) dX4_init_41 qRX4_33 okl0 (by decide) (fun h8 eh8 nxh8 => ?_)
  have hwp := hwp h8 eh8
  have hex := hex.tr nxh8.1
  have hnn := nxh8.2.1.trans hnn
  have hzz := nxh8.2.2.trans hzz
  have okl0 := okl0.ex nxh8.1
  refine x_aload_n (pc := 44) dX4_init_44 rfl ?_
  refine x_iconst (v := 0) (pc := 45) dX4_init_45 (by decide) ?_
  refine y_putI (pc := 46) dX4_init_46 qRX4_37 okl0 (fun h9 eh9 nxh9 => ?_)
  have hwp := hwp h9 eh9
  have hex := hex.tr nxh9.1
  have hnn := nxh9.2.1.trans hnn
  have hzz := nxh9.2.2.trans hzz
  have okl0 := okl0.ex nxh9.1
  refine x_aload_n (pc := 49) dX4_init_49 rfl ?_
  refine x_iconst (v := 0) (pc := 50) dX4_init_50 (by decide) ?_
  refine y_putI (pc := 51) dX4_init_51 qRX4_40 okl0 (fun h10 eh10 nxh10 => ?_)
  have hwp := hwp h10 eh10
  have hex := hex.tr nxh10.1
  have hnn := nxh10.2.1.trans hnn
  have hzz := nxh10.2.2.trans hzz
  have okl0 := okl0.ex nxh10.1
  exact x_vret (pc := 54) dX4_init_54 rfl hex hnn hzz ⟨rfl, hwp⟩

theorem dX4_kindOf_0 : decode cX4_kindOf 0 = .ok (.aload_n 0, 1) := by decide +kernel
theorem dX4_kindOf_1 : decode cX4_kindOf 1 = .ok (.getstatic 43, 3) := by decide +kernel
theorem dX4_kindOf_4 : decode cX4_kindOf 4 = .ok (.if_acmp .ne 5, 3) := by decide +kernel
theorem dX4_kindOf_7 : decode cX4_kindOf 7 = .ok (.iconst 0, 1) := by decide +kernel
theorem dX4_kindOf_8 : decode cX4_kindOf 8 = .ok (.ireturn, 1) := by decide +kernel
theorem dX4_kindOf_9 : decode cX4_kindOf 9 = .ok (.aload_n 0, 1) := by decide +kernel
theorem dX4_kindOf_10 : decode cX4_kindOf 10 = .ok (.getstatic 49, 3) := by decide +kernel
theorem dX4_kindOf_13 : decode cX4_kindOf 13 = .ok (.if_acmp .ne 5, 3) := by decide +kernel
theorem dX4_kindOf_16 : decode cX4_kindOf 16 = .ok (.iconst 1, 1) := by decide +kernel
theorem dX4_kindOf_17 : decode cX4_kindOf 17 = .ok (.ireturn, 1) := by decide +kernel
theorem dX4_kindOf_18 : decode cX4_kindOf 18 = .ok (.aload_n 0, 1) := by decide +kernel
theorem dX4_kindOf_19 : decode cX4_kindOf 19 = .ok (.getstatic 52, 3) := by decide +kernel
theorem dX4_kindOf_22 : decode cX4_kindOf 22 = .ok (.if_acmp .ne 5, 3) := by decide +kernel
theorem dX4_kindOf_25 : decode cX4_kindOf 25 = .ok (.iconst 2, 1) := by decide +kernel
theorem dX4_kindOf_26 : decode cX4_kindOf 26 = .ok (.ireturn, 1) := by decide +kernel
theorem dX4_kindOf_27 : decode cX4_kindOf 27 = .ok (.aload_n 0, 1) := by decide +kernel
theorem dX4_kindOf_28 : decode cX4_kindOf 28 = .ok (.getstatic 55, 3) := by decide +kernel
theorem dX4_kindOf_31 : decode cX4_kindOf 31 = .ok (.if_acmp .ne 5, 3) := by decide +kernel
theorem dX4_kindOf_34 : decode cX4_kindOf 34 = .ok (.iconst 3, 1) := by decide +kernel
theorem dX4_kindOf_35 : decode cX4_kindOf 35 = .ok (.ireturn, 1) := by decide +kernel
theorem dX4_kindOf_36 : decode cX4_kindOf 36 = .ok (.aload_n 0, 1) := by decide +kernel
theorem dX4_kindOf_37 : decode cX4_kindOf 37 = .ok (.getstatic 58, 3) := by decide +kernel
theorem dX4_kindOf_40 : decode cX4_kindOf 40 = .ok (.if_acmp .ne 7, 3) := by decide +kernel
theorem dX4_kindOf_43 : decode cX4_kindOf 43 = .ok (.iconst 4, 1) := by decide +kernel
theorem dX4_kindOf_44 : decode cX4_kindOf 44 = .ok (.goto 4, 3) := by decide +kernel
theorem dX4_kindOf_47 : decode cX4_kindOf 47 = .ok (.iconst (-1), 1) := by decide +kernel
theorem dX4_kindOf_48 : decode cX4_kindOf 48 = .ok (.ireturn, 1) := by decide +kernel
def wp_X4_kindOf (l0 : Option Nat) (h : PH) (Q : Int32 → PH → Prop) : Prop := (qWd l0 ∧ (¬ l0 = some (wd 2) → (qWd l0 ∧ (¬ l0 = some (wd 3) → (qWd l0 ∧ (¬ l0 = some (wd 4) → (qWd l0 ∧ (¬ l0 = some (wd 5) → (qWd l0 ∧ (¬ l0 = some (wd 6) → Q (-1) h) ∧ (l0 = some (wd 6) → Q 4 h))) ∧ (l0 = some (wd 5) → Q 3 h))) ∧ (l0 = some (wd 4) → Q 2 h))) ∧ (l0 = some (wd 3) → Q 1 h))) ∧ (l0 = some (wd 2) → Q 0 h))
set_option maxHeartbeats 4000000 in
set_option maxRecDepth 100000 in
theorem sn_X4_kindOf (G : GT) (d : Nat) (l0 : Option Nat) (h : PH) (Q : Int32 → PH → Prop)  (hwp : wp_X4_kindOf l0 h Q) : Mt G (0 + d) 0 0 mX4_kindOf [va_rf l0] h (qqi Q) := by
  unfold wp_X4_kindOf at hwp
  refine Mt.of (by decide) rfl (by cases l0 <;> exact Nat.le_of_ble_eq_true rfl) ?_
  have hex := qEx.rf h
  have hnn : qn h = qn h + 0 := rfl
  have hzz : qz h = qz h + 0 := rfl
  refine x_lvE (lv2 := [(0, va_rf l0)]) rfl ?_
  refine x_aloadq_n (pc := 0) dX4_kindOf_0 rfl ?_
  refine x_gets (pc := 1) dX4_kindOf_1 (by decide) gRX4_43 ?_
  obtain ⟨w2, hwp⟩ := hwp
  refine x_acmp_ne (tgt := 9) (pc := 4) dX4_kindOf_4 (by decide) (by decide) w2 (fun c1 => ?_) (fun c1 => ?_)
  · have hwp := hwp.1 c1
    refine x_aloadq_n (pc := 9) dX4_kindOf_9 rfl ?_
    refine x_gets (pc := 10) dX4_kindOf_10 (by decide) gRX4_49 ?_
    obtain ⟨w4, hwp⟩ := hwp
    refine x_acmp_ne (tgt := 18) (pc := 13) dX4_kindOf_13 (by decide) (by decide) w4 (fun c3 => ?_) (fun c3 => ?_)
    · have hwp := hwp.1 c3
      refine x_aloadq_n (pc := 18) dX4_kindOf_18 rfl ?_
      refine x_gets (pc := 19) dX4_kindOf_19 (by decide) gRX4_52 ?_
      obtain ⟨w6, hwp⟩ := hwp
      refine x_acmp_ne (tgt := 27) (pc := 22) dX4_kindOf_22 (by decide) (by decide) w6 (fun c5 => ?_) (fun c5 => ?_)
      · have hwp := hwp.1 c5
        refine x_aloadq_n (pc := 27) dX4_kindOf_27 rfl ?_
        refine x_gets (pc := 28) dX4_kindOf_28 (by decide) gRX4_55 ?_
        obtain ⟨w8, hwp⟩ := hwp
        refine x_acmp_ne (tgt := 36) (pc := 31) dX4_kindOf_31 (by decide) (by decide) w8 (fun c7 => ?_) (fun c7 => ?_)
        · have hwp := hwp.1 c7
          refine x_aloadq_n (pc := 36) dX4_kindOf_36 rfl ?_
          refine x_gets (pc := 37) dX4_kindOf_37 (by decide) gRX4_58 ?_
          obtain ⟨w10, hwp⟩ := hwp
          refine x_acmp_ne (tgt := 47) (pc := 40) dX4_kindOf_40 (by decide) (by decide) w10 (fun c9 => ?_) (fun c9 => ?_)
          · have hwp := hwp.1 c9
            refine x_iconst (v := (-1)) (pc := 47) dX4_kindOf_47 (by decide) ?_
            exact x_iret (pc := 48) dX4_kindOf_48 rfl hex hnn hzz ⟨_, rfl, hwp⟩
          · have hwp := hwp.2 c9
            refine x_iconst (v := 4) (pc := 43) dX4_kindOf_43 (by decide) ?_
            refine x_goto (tgt := 48) (pc := 44) dX4_kindOf_44 (by decide) ?_
            exact x_iret (pc := 48) dX4_kindOf_48 rfl hex hnn hzz ⟨_, rfl, hwp⟩
        · have hwp := hwp.2 c7
          refine x_iconst (v := 3) (pc := 34) dX4_kindOf_34 (by decide) ?_
          exact x_iret (pc := 35) dX4_kindOf_35 rfl hex hnn hzz ⟨_, rfl, hwp⟩
      · have hwp := hwp.2 c5
        refine x_iconst (v := 2) (pc := 25) dX4_kindOf_25 (by decide) ?_
        exact x_iret (pc := 26) dX4_kindOf_26 rfl hex hnn hzz ⟨_, rfl, hwp⟩
    · have hwp := hwp.2 c3
      refine x_iconst (v := 1) (pc := 16) dX4_kindOf_16 (by decide) ?_
      exact x_iret (pc := 17) dX4_kindOf_17 rfl hex hnn hzz ⟨_, rfl, hwp⟩
  · have hwp := hwp.2 c1
    refine x_iconst (v := 0) (pc := 7) dX4_kindOf_7 (by decide) ?_
    exact x_iret (pc := 8) dX4_kindOf_8 rfl hex hnn hzz ⟨_, rfl, hwp⟩

theorem dX4_begin_0 : decode cX4_begin 0 = .ok (.aload_n 0, 1) := by decide +kernel
theorem dX4_begin_1 : decode cX4_begin 1 = .ok (.iload_n 1, 1) := by decide +kernel
theorem dX4_begin_2 : decode cX4_begin 2 = .ok (.putfield 11, 3) := by decide +kernel
theorem dX4_begin_5 : decode cX4_begin 5 = .ok (.aload_n 0, 1) := by decide +kernel
theorem dX4_begin_6 : decode cX4_begin 6 = .ok (.iconst 0, 1) := by decide +kernel
theorem dX4_begin_7 : decode cX4_begin 7 = .ok (.putfield 24, 3) := by decide +kernel
theorem dX4_begin_10 : decode cX4_begin 10 = .ok (.aload_n 0, 1) := by decide +kernel
theorem dX4_begin_11 : decode cX4_begin 11 = .ok (.iconst 0, 1) := by decide +kernel
theorem dX4_begin_12 : decode cX4_begin 12 = .ok (.putfield 27, 3) := by decide +kernel
theorem dX4_begin_15 : decode cX4_begin 15 = .ok (.aload_n 0, 1) := by decide +kernel
theorem dX4_begin_16 : decode cX4_begin 16 = .ok (.iconst 0, 1) := by decide +kernel
theorem dX4_begin_17 : decode cX4_begin 17 = .ok (.putfield 30, 3) := by decide +kernel
theorem dX4_begin_20 : decode cX4_begin 20 = .ok (.aload_n 0, 1) := by decide +kernel
theorem dX4_begin_21 : decode cX4_begin 21 = .ok (.iconst 0, 1) := by decide +kernel
theorem dX4_begin_22 : decode cX4_begin 22 = .ok (.putfield 33, 3) := by decide +kernel
theorem dX4_begin_25 : decode cX4_begin 25 = .ok (.aload_n 0, 1) := by decide +kernel
theorem dX4_begin_26 : decode cX4_begin 26 = .ok (.iconst 0, 1) := by decide +kernel
theorem dX4_begin_27 : decode cX4_begin 27 = .ok (.putfield 37, 3) := by decide +kernel
theorem dX4_begin_30 : decode cX4_begin 30 = .ok (.aload_n 0, 1) := by decide +kernel
theorem dX4_begin_31 : decode cX4_begin 31 = .ok (.iconst 0, 1) := by decide +kernel
theorem dX4_begin_32 : decode cX4_begin 32 = .ok (.putfield 40, 3) := by decide +kernel
theorem dX4_begin_35 : decode cX4_begin 35 = .ok (.return_, 1) := by decide +kernel
def wp_X4_begin (l0 : Nat) (l1 : Int32) (h : PH) (Q : PH → Prop) : Prop := (∀ h1, h1 = qsI h l0 0 l1 → (∀ h2, h2 = qsI h1 l0 4 0 → (∀ h3, h3 = qsI h2 l0 5 0 → (∀ h4, h4 = qsI h3 l0 6 0 → (∀ h5, h5 = qsI h4 l0 7 0 → (∀ h6, h6 = qsI h5 l0 8 0 → (∀ h7, h7 = qsI h6 l0 9 0 → Q h7)))))))
set_option maxHeartbeats 4000000 in
set_option maxRecDepth 100000 in
theorem sn_X4_begin (G : GT) (d : Nat) (l0 : Nat) (l1 : Int32) (h : PH) (Q : PH → Prop) (okl0 : qOK h 4 l0) (hwp : wp_X4_begin l0 l1 h Q) : Mt G (0 + d) 0 0 mX4_begin [.ref l0, .int l1] h (qqv Q) := by
  unfold wp_X4_begin at hwp
  refine Mt.of (by decide) rfl (Nat.le_of_ble_eq_true rfl) ?_
  have hex := qEx.rf h
  have hnn : qn h = qn h + 0 := rfl
  have hzz : qz h = qz h + 0 := rfl
  refine x_lvE (lv2 := [(0, .ref l0), (1, .int l1)]) rfl ?_
  refine x_aload_n (pc := 0) dX4_begin_0 rfl ?_
  refine x_iload_n (pc := 1) dX4_begin_1 rfl ?_
  refine y_putI (pc := 2) dX4_begin_2 qRX4_11 okl0 (fun h1 eh1 nxh1 => ?_)
  have hwp := hwp h1 eh1
  have hex := hex.tr nxh1.1
  have hnn := nxh1.2.1.trans hnn
  have hzz := nxh1.2.2.trans hzz
  have okl0 := okl0.ex nxh1.1
  refine x_aload_n (pc := 5) dX4_begin_5 rfl ?_
  refine x_iconst (v := 0) (pc := 6) dX4_begin_6 (by decide) ?_
  refine y_putI (pc := 7) dX4_begin_7 qRX4_24 okl0 (fun h2 eh2 nxh2 => ?_)
  have hwp := hwp h2 eh2
  have hex := hex.tr nxh2.1
  have hnn := nxh2.2.1.trans hnn
  have hzz := nxh2.2.2.trans hzz
  have okl0 := okl0.ex nxh2.1
  refine x_aload_n (pc := 10) dX4_begin_10 rfl ?_
  refine x_iconst (v := 0) (pc := 11) dX4_begin_11 (by decide) ?_
  refine y_putI (pc := 12) dX4_begin_12 qRX4_27 okl0 (fun h3 eh3 nxh3 => ?_)
  have hwp := hwp h3 eh3
  have hex := hex.tr nxh3.1
  have hnn := nxh3.2.1.trans hnn
  have hzz := nxh3.2.2.trans hzz
  have okl0 := okl0.ex nxh3.1
  refine x_aload_n (pc := 15) dX4_begin_15 rfl ?_
  refine x_iconst (v := 0) (pc := 16) dX4_begin_16 (by decide) ?_
  refine y_putI (pc := 17) dX4_begin_17 qRX4_30 okl0 (fun h4 eh4 nxh4 => ?_)
  have hwp := hwp h4 eh4
  have hex := hex.tr nxh4.1
  have hnn := nxh4.2.1.trans hnn
  have hzz := nxh4.2.2.trans hzz
  have okl0 := okl0.ex nxh4.1
  refine x_aload_n (pc := 20) dX4_begin_20 rfl ?_
  refine x_iconst (v := 0) (pc := 21) dX4_begin_21 (by decide) ?_
  refine y_putZ (pc := 22) dX4_begin_22 qRX4_33 okl0 (by decide) (fun h5 eh5 nxh5 => ?_)
  have hwp := hwp h5 eh5
  have hex := hex.tr nxh5.1
  have hnn := nxh5.2.1.trans hnn
  have hzz := nxh5.2.2.trans hzz
  have okl0 := okl0.ex nxh5.1
  refine x_aload_n (pc := 25) dX4_begin_25 rfl ?_
  refine x_iconst (v := 0) (pc := 26) dX4_begin_26 (by decide) ?_
  refine y_putI (pc := 27) dX4_begin_27 qRX4_37 okl0 (fun h6 eh6 nxh6 => ?_)
  have hwp := hwp h6 eh6
  have hex := hex.tr nxh6.1
  have hnn := nxh6.2.1.trans hnn
  have hzz := nxh6.2.2.trans hzz
  have okl0 := okl0.ex nxh6.1
  refine x_aload_n (pc := 30) dX4_begin_30 rfl ?_
  refine x_iconst (v := 0) (pc := 31) dX4_begin_31 (by decide) ?_
  refine y_putI (pc := 32) dX4_begin_32 qRX4_40 okl0 (fun h7 eh7 nxh7 => ?_)
  have hwp := hwp h7 eh7
  have hex := hex.tr nxh7.1
  have hnn := nxh7.2.1.trans hnn
  have hzz := nxh7.2.2.trans hzz
  have okl0 := okl0.ex nxh7.1
  exact x_vret (pc := 35) dX4_begin_35 rfl hex hnn hzz ⟨rfl, hwp⟩

theorem dX4_copyFrom_0 : decode cX4_copyFrom 0 = .ok (.aload_n 0, 1) := by decide +kernel
theorem dX4_copyFrom_1 : decode cX4_copyFrom 1 = .ok (.aload_n 1, 1) := by decide +kernel
theorem dX4_copyFrom_2 : decode cX4_copyFrom 2 = .ok (.getfield 11, 3) := by decide +kernel
theorem dX4_copyFrom_5 : decode cX4_copyFrom 5 = .ok (.putfield 11, 3) := by decide +kernel
theorem dX4_copyFrom_8 : decode cX4_copyFrom 8 = .ok (.aload_n 0, 1) := by decide +kernel
theorem dX4_copyFrom_9 : decode cX4_copyFrom 9 = .ok (.aload_n 1, 1) := by decide +kernel
theorem dX4_copyFrom_10 : decode cX4_copyFrom 10 = .ok (.getfield 15, 3) := by decide +kernel
theorem dX4_copyFrom_13 : decode cX4_copyFrom 13 = .ok (.putfield 15, 3) := by decide +kernel
theorem dX4_copyFrom_16 : decode cX4_copyFrom 16 = .ok (.aload_n 0, 1) := by decide +kernel
theorem dX4_copyFrom_17 : decode cX4_copyFrom 17 = .ok (.aload_n 1, 1) := by decide +kernel
theorem dX4_copyFrom_18 : decode cX4_copyFrom 18 = .ok (.getfield 18, 3) := by decide +kernel
theorem dX4_copyFrom_21 : decode cX4_copyFrom 21 = .ok (.putfield 18, 3) := by decide +kernel
theorem dX4_copyFrom_24 : decode cX4_copyFrom 24 = .ok (.aload_n 0, 1) := by decide +kernel
theorem dX4_copyFrom_25 : decode cX4_copyFrom 25 = .ok (.aload_n 1, 1) := by decide +kernel
theorem dX4_copyFrom_26 : decode cX4_copyFrom 26 = .ok (.getfield 21, 3) := by decide +kernel
theorem dX4_copyFrom_29 : decode cX4_copyFrom 29 = .ok (.putfield 21, 3) := by decide +kernel
theorem dX4_copyFrom_32 : decode cX4_copyFrom 32 = .ok (.aload_n 0, 1) := by decide +kernel
theorem dX4_copyFrom_33 : decode cX4_copyFrom 33 = .ok (.aload_n 1, 1) := by decide +kernel
theorem dX4_copyFrom_34 : decode cX4_copyFrom 34 = .ok (.getfield 24, 3) := by decide +kernel
theorem dX4_copyFrom_37 : decode cX4_copyFrom 37 = .ok (.putfield 24, 3) := by decide +kernel
theorem dX4_copyFrom_40 : decode cX4_copyFrom 40 = .ok (.aload_n 0, 1) := by decide +kernel
theorem dX4_copyFrom_41 : decode cX4_copyFrom 41 = .ok (.aload_n 1, 1) := by decide +kernel
theorem dX4_copyFrom_42 : decode cX4_copyFrom 42 = .ok (.getfield 27, 3) := by decide +kernel
theorem dX4_copyFrom_45 : decode cX4_copyFrom 45 = .ok (.putfield 27, 3) := by decide +kernel
theorem dX4_copyFrom_48 : decode cX4_copyFrom 48 = .ok (.aload_n 0, 1) := by decide +kernel
theorem dX4_copyFrom_49 : decode cX4_copyFrom 49 = .ok (.aload_n 1, 1) := by decide +kernel
theorem dX4_copyFrom_50 : decode cX4_copyFrom 50 = .ok (.getfield 30, 3) := by decide +kernel
theorem dX4_copyFrom_53 : decode cX4_copyFrom 53 = .ok (.putfield 30, 3) := by decide +kernel
theorem dX4_copyFrom_56 : decode cX4_copyFrom 56 = .ok (.aload_n 0, 1) := by decide +kernel
theorem dX4_copyFrom_57 : decode cX4_copyFrom 57 = .ok (.aload_n 1, 1) := by decide +kernel
theorem dX4_copyFrom_58 : decode cX4_copyFrom 58 = .ok (.getfield 33, 3) := by decide +kernel
theorem dX4_copyFrom_61 : decode cX4_copyFrom 61 = .ok (.putfield 33, 3) := by decide +kernel
theorem dX4_copyFrom_64 : decode cX4_copyFrom 64 = .ok (.aload_n 0, 1) := by decide +kernel
theorem dX4_copyFrom_65 : decode cX4_copyFrom 65 = .ok (.aload_n 1, 1) := by decide +kernel
theorem dX4_copyFrom_66 : decode cX4_copyFrom 66 = .ok (.getfield 37, 3) := by decide +kernel
theorem dX4_copyFrom_69 : decode cX4_copyFrom 69 = .ok (.putfield 37, 3) := by decide +kernel
theorem dX4_copyFrom_72 : decode cX4_copyFrom 72 = .ok (.aload_n 0, 1) := by decide +kernel
theorem dX4_copyFrom_73 : decode cX4_copyFrom 73 = .ok (.aload_n 1, 1) := by decide +kernel
theorem dX4_copyFrom_74 : decode cX4_copyFrom 74 = .ok (.getfield 40, 3) := by decide +kernel
theorem dX4_copyFrom_77 : decode cX4_copyFrom 77 = .ok (.putfield 40, 3) := by decide +kernel
theorem dX4_copyFrom_80 : decode cX4_copyFrom 80 = .ok (.return_, 1) := by decide +kernel
def wp_X4_copyFrom (l0 : Nat) (l1 : Nat) (h : PH) (Q : PH → Prop) : Prop := (∀ h1, h1 = qsI h l0 0 (qI h l1 0) → (∀ h2, h2 = qsI h1 l0 1 (qI h1 l1 1) → (∀ h3, h3 = qsI h2 l0 2 (qI h2 l1 2) → (∀ h4, h4 = qsI h3 l0 3 (qI h3 l1 3) → (∀ h5, h5 = qsI h4 l0 4 (qI h4 l1 4) → (∀ h6, h6 = qsI h5 l0 5 (qI h5 l1 5) → (∀ h7, h7 = qsI h6 l0 6 (qI h6 l1 6) → ((qI h7 l1 7 = 0 ∨ qI h7 l1 7 = 1) ∧ ∀ h8, h8 = qsI h7 l0 7 (qI h7 l1 7) → (∀ h10, h10 = qsI h8 l0 8 (qI h8 l1 8) → (∀ h11, h11 = qsI h10 l0 9 (qI h10 l1 9) → Q h11))))))))))
set_option maxHeartbeats 4000000 in
set_option maxRecDepth 100000 in
theorem sn_X4_copyFrom (G : GT) (d : Nat) (l0 : Nat) (l1 : Nat) (h : PH) (Q : PH → Prop) (okl0 : qOK h 4 l0) (okl1 : qOK h 4 l1) (hwp : wp_X4_copyFrom l0 l1 h Q) : Mt G (0 + d) 0 0 mX4_copyFrom [.ref l0, .ref l1] h (qqv Q) := by
  unfold wp_X4_copyFrom at hwp
  refine Mt.of (by decide) rfl (Nat.le_of_ble_eq_true rfl) ?_
  have hex := qEx.rf h
  have hnn : qn h = qn h + 0 := rfl
  have hzz : qz h = qz h + 0 := rfl
  refine x_lvE (lv2 := [(0, .ref l0), (1, .ref l1)]) rfl ?_
  refine x_aload_n (pc := 0) dX4_copyFrom_0 rfl ?_
  refine x_aload_n (pc := 1) dX4_copyFrom_1 rfl ?_
  refine x_getI (pc := 2) dX4_copyFrom_2 qRX4_11 okl1 (by decide) ?_
  refine y_putI (pc := 5) dX4_copyFrom_5 qRX4_11 okl0 (fun h1 eh1 nxh1 => ?_)
  have hwp := hwp h1 eh1
  have hex := hex.tr nxh1.1
  have hnn := nxh1.2.1.trans hnn
  have hzz := nxh1.2.2.trans hzz
  have okl0 := okl0.ex nxh1.1
  have okl1 := okl1.ex nxh1.1
  refine x_aload_n (pc := 8) dX4_copyFrom_8 rfl ?_
  refine x_aload_n (pc := 9) dX4_copyFrom_9 rfl ?_
  refine x_getI (pc := 10) dX4_copyFrom_10 qRX4_15 okl1 (by decide) ?_
  refine y_putI (pc := 13) dX4_copyFrom_13 qRX4_15 okl0 (fun h2 eh2 nxh2 => ?_)
  have hwp := hwp h2 eh2
  have hex := hex.tr nxh2.1
  have hnn := nxh2.2.1.trans hnn
  have hzz := nxh2.2.2.trans hzz
  have okl0 := okl0.ex nxh2.1
  have okl1 := okl1.ex nxh2.1
  refine x_aload_n (pc := 16) dX4_copyFrom_16 rfl ?_
  refine x_aload_n (pc := 17) dX4_copyFrom_17 rfl ?_
  refine x_getI (pc := 18) dX4_copyFrom_18 qRX4_18 okl1 (by decide) ?_
  refine y_putI (pc := 21) dX4_copyFrom_21 qRX4_18 okl0 (fun h3 eh3 nxh3 => ?_)
  have hwp := hwp h3 eh3
  have hex := hex.tr nxh3.1
  have hnn := nxh3.2.1.trans hnn
  have hzz := nxh3.2.2.trans hzz
  have okl0 := okl0.ex nxh3.1
  have okl1 := okl1.ex nxh3.1
  refine x_aload_n (pc := 24) dX4_copyFrom_24 rfl ?_
  refine x_aload_n (pc := 25) dX4_copyFrom_25 rfl ?_
  refine x_getI (pc := 26) dX4_copyFrom_26 qRX4_21 okl1 (by decide) ?_
  refine y_putI (pc := 29) dX4_copyFrom_29 qRX4_21 okl0 (fun h4 eh4 nxh4 => ?_)
  have hwp := hwp h4 eh4
  have hex := hex.tr nxh4.1
  have hnn := nxh4.2.1.trans hnn
  have hzz := nxh4.2.2.trans hzz
  have okl0 := okl0.ex nxh4.1
  have okl1 := okl1.ex nxh4.1
  refine x_aload_n (pc := 32) dX4_copyFrom_32 rfl ?_
  refine x_aload_n (pc := 33) dX4_copyFrom_33 rfl ?_
  refine x_getI (pc := 34) dX4_copyFrom_34 qRX4_24 okl1 (by decide) ?_
  refine y_putI (pc := 37) dX4_copyFrom_37 qRX4_24 okl0 (fun h5 eh5 nxh5 => ?_)
  have hwp := hwp h5 eh5
  have hex := hex.tr nxh5.1
  have hnn := nxh5.2.1.trans hnn
  have hzz := nxh5.2.2.trans hzz
  have okl0 := okl0.ex nxh5.1
  have okl1 := okl1.ex nxh5.1
  refine x_aload_n (pc := 40) dX4_copyFrom_40 rfl ?_
  refine x_aload_n (pc := 41) dX4_copyFrom_41 rfl ?_
  refine x_getI (pc := 42) dX4_copyFrom_42 qRX4_27 okl1 (by decide) ?_
  refine y_putI (pc := 45) dX4_copyFrom_45 qRX4_27 okl0 (fun h6 eh6 nxh6 => ?_)
  have hwp := hwp h6 eh6
  have hex := hex.tr nxh6.1
  have hnn := nxh6.2.1.trans hnn
  have hzz := nxh6.2.2.trans hzz
  have okl0 := okl0.ex nxh6.1
  have okl1 := okl1.ex nxh6.1
  refine x_aload_n (pc := 48) dX4_copyFrom_48 rfl ?_
  refine x_aload_n (pc := 49) dX4_copyFrom_49 rfl ?_
  refine x_getI (pc := 50) dX4_copyFrom_50 qRX4_30 okl1 (by decide) ?_
  refine y_putI (pc := 53) dX4_copyFrom_53 qRX4_30 okl0 (fun h7 eh7 nxh7 => ?_)
  have hwp := hwp h7 eh7
  have hex := hex.tr nxh7.1
  have hnn := nxh7.2.1.trans hnn
  have hzz := nxh7.2.2.trans hzz
  have okl0 := okl0.ex nxh7.1
  have okl1 := okl1.ex nxh7.1
  refine x_aload_n (pc := 56) dX4_copyFrom_56 rfl ?_
  refine x_aload_n (pc := 57) dX4_copyFrom_57 rfl ?_
  refine x_getI (pc := 58) dX4_copyFrom_58 qRX4_33 okl1 (by decide) ?_
  obtain ⟨z9, hwp⟩ := hwp
  refine y_putZ (pc := 61) dX4_copyFrom_61 qRX4_33 okl0 z9 (fun h8 eh8 nxh8 => ?_)
  have hwp := hwp h8 eh8
  have hex := hex.tr nxh8.1
  have hnn := nxh8.2.1.trans hnn
  have hzz := nxh8.2.2.trans hzz
  have okl0 := okl0.ex nxh8.1
  have okl1 := okl1.ex nxh8.1
  refine x_aload_n (pc := 64) dX4_copyFrom_64 rfl ?_
  refine x_aload_n (pc := 65) dX4_copyFrom_65 rfl ?_
  refine x_getI (pc := 66) dX4_copyFrom_66 qRX4_37 okl1 (by decide) ?_
  refine y_putI (pc := 69) dX4_copyFrom_69 qRX4_37 okl0 (fun h10 eh10 nxh10 => ?_)
  have hwp := hwp h10 eh10
  have hex := hex.tr nxh10.1
  have hnn := nxh10.2.1.trans hnn
  have hzz := nxh10.2.2.trans hzz
  have okl0 := okl0.ex nxh10.1
  have okl1 := okl1.ex nxh10.1
  refine x_aload_n (pc := 72) dX4_copyFrom_72 rfl ?_
  refine x_aload_n (pc := 73) dX4_copyFrom_73 rfl ?_
  refine x_getI (pc := 74) dX4_copyFrom_74 qRX4_40 okl1 (by decide) ?_
  refine y_putI (pc := 77) dX4_copyFrom_77 qRX4_40 okl0 (fun h11 eh11 nxh11 => ?_)
  have hwp := hwp h11 eh11
  have hex := hex.tr nxh11.1
  have hnn := nxh11.2.1.trans hnn
  have hzz := nxh11.2.2.trans hzz
  have okl0 := okl0.ex nxh11.1
  have okl1 := okl1.ex nxh11.1
  exact x_vret (pc := 80) dX4_copyFrom_80 rfl hex hnn hzz ⟨rfl, hwp⟩

theorem dX4_isTurned_0 : decode cX4_isTurned 0 = .ok (.aload_n 0, 1) := by decide +kernel
theorem dX4_isTurned_1 : decode cX4_isTurned 1 = .ok (.getfield 11, 3) := by decide +kernel
theorem dX4_isTurned_4 : decode cX4_isTurned 4 = .ok (.iconst 4, 1) := by decide +kernel
theorem dX4_isTurned_5 : decode cX4_isTurned 5 = .ok (.if_icmp .ne 12, 3) := by decide +kernel
theorem dX4_isTurned_8 : decode cX4_isTurned 8 = .ok (.aload_n 0, 1) := by decide +kernel
theorem dX4_isTurned_9 : decode cX4_isTurned 9 = .ok (.getfield 18, 3) := by decide +kernel
theorem dX4_isTurned_12 : decode cX4_isTurned 12 = .ok (.iload_n 2, 1) := by decide +kernel
theorem dX4_isTurned_13 : decode cX4_isTurned 13 = .ok (.isub, 1) := by decide +kernel
theorem dX4_isTurned_14 : decode cX4_isTurned 14 = .ok (.goto 9, 3) := by decide +kernel
theorem dX4_isTurned_17 : decode cX4_isTurned 17 = .ok (.aload_n 0, 1) := by decide +kernel
theorem dX4_isTurned_18 : decode cX4_isTurned 18 = .ok (.getfield 18, 3) := by decide +kernel
theorem dX4_isTurned_21 : decode cX4_isTurned 21 = .ok (.iload_n 2, 1) := by decide +kernel
theorem dX4_isTurned_22 : decode cX4_isTurned 22 = .ok (.iadd, 1) := by decide +kernel
theorem dX4_isTurned_23 : decode cX4_isTurned 23 = .ok (.istore 4, 2) := by decide +kernel
theorem dX4_isTurned_25 : decode cX4_isTurned 25 = .ok (.aload_n 0, 1) := by decide +kernel
theorem dX4_isTurned_26 : decode cX4_isTurned 26 = .ok (.getfield 11, 3) := by decide +kernel
theorem dX4_isTurned_29 : decode cX4_isTurned 29 = .ok (.aload_n 1, 1) := by decide +kernel
theorem dX4_isTurned_30 : decode cX4_isTurned 30 = .ok (.getfield 11, 3) := by decide +kernel
theorem dX4_isTurned_33 : decode cX4_isTurned 33 = .ok (.if_icmp .ne 101, 3) := by decide +kernel
theorem dX4_isTurned_36 : decode cX4_isTurned 36 = .ok (.aload_n 0, 1) := by decide +kernel
theorem dX4_isTurned_37 : decode cX4_isTurned 37 = .ok (.getfield 21, 3) := by decide +kernel
theorem dX4_isTurned_40 : decode cX4_isTurned 40 = .ok (.aload_n 1, 1) := by decide +kernel
theorem dX4_isTurned_41 : decode cX4_isTurned 41 = .ok (.getfield 21, 3) := by decide +kernel
theorem dX4_isTurned_44 : decode cX4_isTurned 44 = .ok (.if_icmp .ne 90, 3) := by decide +kernel
theorem dX4_isTurned_47 : decode cX4_isTurned 47 = .ok (.aload_n 0, 1) := by decide +kernel
theorem dX4_isTurned_48 : decode cX4_isTurned 48 = .ok (.getfield 24, 3) := by decide +kernel
theorem dX4_isTurned_51 : decode cX4_isTurned 51 = .ok (.aload_n 1, 1) := by decide +kernel
theorem dX4_isTurned_52 : decode cX4_isTurned 52 = .ok (.getfield 24, 3) := by decide +kernel
theorem dX4_isTurned_55 : decode cX4_isTurned 55 = .ok (.if_icmp .ne 79, 3) := by decide +kernel
theorem dX4_isTurned_58 : decode cX4_isTurned 58 = .ok (.aload_n 0, 1) := by decide +kernel
theorem dX4_isTurned_59 : decode cX4_isTurned 59 = .ok (.getfield 27, 3) := by decide +kernel
theorem dX4_isTurned_62 : decode cX4_isTurned 62 = .ok (.aload_n 1, 1) := by decide +kernel
theorem dX4_isTurned_63 : decode cX4_isTurned 63 = .ok (.getfield 27, 3) := by decide +kernel
theorem dX4_isTurned_66 : decode cX4_isTurned 66 = .ok (.if_icmp .ne 68, 3) := by decide +kernel
theorem dX4_isTurned_69 : decode cX4_isTurned 69 = .ok (.aload_n 0, 1) := by decide +kernel
theorem dX4_isTurned_70 : decode cX4_isTurned 70 = .ok (.getfield 30, 3) := by decide +kernel
theorem dX4_isTurned_73 : decode cX4_isTurned 73 = .ok (.aload_n 1, 1) := by decide +kernel
theorem dX4_isTurned_74 : decode cX4_isTurned 74 = .ok (.getfield 30, 3) := by decide +kernel
theorem dX4_isTurned_77 : decode cX4_isTurned 77 = .ok (.if_icmp .ne 57, 3) := by decide +kernel
theorem dX4_isTurned_80 : decode cX4_isTurned 80 = .ok (.aload_n 0, 1) := by decide +kernel
theorem dX4_isTurned_81 : decode cX4_isTurned 81 = .ok (.getfield 33, 3) := by decide +kernel
theorem dX4_isTurned_84 : decode cX4_isTurned 84 = .ok (.aload_n 1, 1) := by decide +kernel
theorem dX4_isTurned_85 : decode cX4_isTurned 85 = .ok (.getfield 33, 3) := by decide +kernel
theorem dX4_isTurned_88 : decode cX4_isTurned 88 = .ok (.if_icmp .ne 46, 3) := by decide +kernel
theorem dX4_isTurned_91 : decode cX4_isTurned 91 = .ok (.aload_n 0, 1) := by decide +kernel
theorem dX4_isTurned_92 : decode cX4_isTurned 92 = .ok (.getfield 37, 3) := by decide +kernel
theorem dX4_isTurned_95 : decode cX4_isTurned 95 = .ok (.aload_n 1, 1) := by decide +kernel
theorem dX4_isTurned_96 : decode cX4_isTurned 96 = .ok (.getfield 37, 3) := by decide +kernel
theorem dX4_isTurned_99 : decode cX4_isTurned 99 = .ok (.if_icmp .ne 35, 3) := by decide +kernel
theorem dX4_isTurned_102 : decode cX4_isTurned 102 = .ok (.aload_n 0, 1) := by decide +kernel
theorem dX4_isTurned_103 : decode cX4_isTurned 103 = .ok (.getfield 40, 3) := by decide +kernel
theorem dX4_isTurned_106 : decode cX4_isTurned 106 = .ok (.aload_n 1, 1) := by decide +kernel
theorem dX4_isTurned_107 : decode cX4_isTurned 107 = .ok (.getfield 40, 3) := by decide +kernel
theorem dX4_isTurned_110 : decode cX4_isTurned 110 = .ok (.if_icmp .ne 24, 3) := by decide +kernel
theorem dX4_isTurned_113 : decode cX4_isTurned 113 = .ok (.iload 4, 2) := by decide +kernel
theorem dX4_isTurned_115 : decode cX4_isTurned 115 = .ok (.iconst 1, 1) := by decide +kernel
theorem dX4_isTurned_116 : decode cX4_isTurned 116 = .ok (.iload_n 3, 1) := by decide +kernel
theorem dX4_isTurned_117 : decode cX4_isTurned 117 = .ok (.invokestatic 76, 3) := by decide +kernel
theorem dX4_isTurned_120 : decode cX4_isTurned 120 = .ok (.invokestatic 108, 3) := by decide +kernel
theorem dX4_isTurned_123 : decode cX4_isTurned 123 = .ok (.aload_n 1, 1) := by decide +kernel
theorem dX4_isTurned_124 : decode cX4_isTurned 124 = .ok (.getfield 18, 3) := by decide +kernel
theorem dX4_isTurned_127 : decode cX4_isTurned 127 = .ok (.if_icmp .ne 7, 3) := by decide +kernel
theorem dX4_isTurned_130 : decode cX4_isTurned 130 = .ok (.iconst 1, 1) := by decide +kernel
theorem dX4_isTurned_131 : decode cX4_isTurned 131 = .ok (.goto 4, 3) := by decide +kernel
theorem dX4_isTurned_134 : decode cX4_isTurned 134 = .ok (.iconst 0, 1) := by decide +kernel
theorem dX4_isTurned_135 : decode cX4_isTurned 135 = .ok (.ireturn, 1) := by decide +kernel
def wp_X4_isTurned_23 (l0 : Nat) (l1 : Nat) (l3 : Int32) (s0 : Int32)  (h : PH) (Q : Int32 → PH → Prop) : Prop := ((¬ (qI h l0 0) = (qI h l1 0) → Q 0 h) ∧ ((qI h l0 0) = (qI h l1 0) → ((¬ (qI h l0 3) = (qI h l1 3) → Q 0 h) ∧ ((qI h l0 3) = (qI h l1 3) → ((¬ (qI h l0 4) = (qI h l1 4) → Q 0 h) ∧ ((qI h l0 4) = (qI h l1 4) → ((¬ (qI h l0 5) = (qI h l1 5) → Q 0 h) ∧ ((qI h l0 5) = (qI h l1 5) → ((¬ (qI h l0 6) = (qI h l1 6) → Q 0 h) ∧ ((qI h l0 6) = (qI h l1 6) → ((¬ (qI h l0 7) = (qI h l1 7) → Q 0 h) ∧ ((qI h l0 7) = (qI h l1 7) → ((¬ (qI h l0 8) = (qI h l1 8) → Q 0 h) ∧ ((qI h l0 8) = (qI h l1 8) → ((¬ (qI h l0 9) = (qI h l1 9) → Q 0 h) ∧ ((qI h l0 9) = (qI h l1 9) → (wp_J9_max_7cf53 1 l3 h (fun r11 h10 => (wp_J9_floorMod_7cf53 s0 r11 h10 (fun r13 h12 => ((¬ r13 = (qI h12 l1 2) → Q 0 h12) ∧ (r13 = (qI h12 l1 2) → Q 1 h12))))))))))))))))))))))
set_option maxHeartbeats 4000000 in
set_option maxRecDepth 100000 in
theorem sg_X4_isTurned_23 (G : GT) (d : Nat) (h0 : PH) (l0 : Nat) (l1 : Nat) (l3 : Int32) (s0 : Int32) (h : PH) (Q : Int32 → PH → Prop) (hex : qEx h0 h) (hnn : qn h = qn h0 + 0) (hzz : qz h = qz h0 + 0) (okl0 : qOK h 4 l0) (okl1 : qOK h 4 l1) (hwp : wp_X4_isTurned_23 l0 l1 l3 s0 h Q) : Ex G (qrm (1 + d) 0 0) mX4_isTurned (qn h0) (qz h0) (ZN G h0 0 0 (qqb Q)) 23 [(0, .ref l0), (1, .ref l1), (3, .int l3)] [.int s0] h := by
  unfold wp_X4_isTurned_23 at hwp
  refine x_istore (lv2 := [(4, .int s0), (0, .ref l0), (1, .ref l1), (3, .int l3)]) (pc := 23) dX4_isTurned_23 (by decide) rfl ?_
  refine x_aload_n (pc := 25) dX4_isTurned_25 rfl ?_
  refine x_getI (pc := 26) dX4_isTurned_26 qRX4_11 okl0 (by decide) ?_
  refine x_aload_n (pc := 29) dX4_isTurned_29 rfl ?_
  refine x_getI (pc := 30) dX4_isTurned_30 qRX4_11 okl1 (by decide) ?_
  refine x_icmp_ne (tgt := 134) (pc := 33) dX4_isTurned_33 (by decide) (fun c2 => ?_) (fun c2 => ?_)
  · have hwp := hwp.1 c2
    refine x_iconst (v := 0) (pc := 134) dX4_isTurned_134 (by decide) ?_
    exact x_zret (pc := 135) dX4_isTurned_135 rfl hex hnn hzz (by decide) ⟨_, rfl, by decide, hwp⟩
  · have hwp := hwp.2 c2
    refine x_aload_n (pc := 36) dX4_isTurned_36 rfl ?_
    refine x_getI (pc := 37) dX4_isTurned_37 qRX4_21 okl0 (by decide) ?_
    refine x_aload_n (pc := 40) dX4_isTurned_40 rfl ?_
    refine x_getI (pc := 41) dX4_isTurned_41 qRX4_21 okl1 (by decide) ?_
    refine x_icmp_ne (tgt := 134) (pc := 44) dX4_isTurned_44 (by decide) (fun c3 => ?_) (fun c3 => ?_)
    · have hwp := hwp.1 c3
      refine x_iconst (v := 0) (pc := 134) dX4_isTurned_134 (by decide) ?_
      exact x_zret (pc := 135) dX4_isTurned_135 rfl hex hnn hzz (by decide) ⟨_, rfl, by decide, hwp⟩
    · have hwp := hwp.2 c3
      refine x_aload_n (pc := 47) dX4_isTurned_47 rfl ?_
      refine x_getI (pc := 48) dX4_isTurned_48 qRX4_24 okl0 (by decide) ?_
      refine x_aload_n (pc := 51) dX4_isTurned_51 rfl ?_
      refine x_getI (pc := 52) dX4_isTurned_52 qRX4_24 okl1 (by decide) ?_
      refine x_icmp_ne (tgt := 134) (pc := 55) dX4_isTurned_55 (by decide) (fun c4 => ?_) (fun c4 => ?_)
      · have hwp := hwp.1 c4
        refine x_iconst (v := 0) (pc := 134) dX4_isTurned_134 (by decide) ?_
        exact x_zret (pc := 135) dX4_isTurned_135 rfl hex hnn hzz (by decide) ⟨_, rfl, by decide, hwp⟩
      · have hwp := hwp.2 c4
        refine x_aload_n (pc := 58) dX4_isTurned_58 rfl ?_
        refine x_getI (pc := 59) dX4_isTurned_59 qRX4_27 okl0 (by decide) ?_
        refine x_aload_n (pc := 62) dX4_isTurned_62 rfl ?_
        refine x_getI (pc := 63) dX4_isTurned_63 qRX4_27 okl1 (by decide) ?_
        refine x_icmp_ne (tgt := 134) (pc := 66) dX4_isTurned_66 (by decide) (fun c5 => ?_) (fun c5 => ?_)
        · have hwp := hwp.1 c5
          refine x_iconst (v := 0) (pc := 134) dX4_isTurned_134 (by decide) ?_
          exact x_zret (pc := 135) dX4_isTurned_135 rfl hex hnn hzz (by decide) ⟨_, rfl, by decide, hwp⟩
        · have hwp := hwp.2 c5
          refine x_aload_n (pc := 69) dX4_isTurned_69 rfl ?_
          refine x_getI (pc := 70) dX4_isTurned_70 qRX4_30 okl0 (by decide) ?_
          refine x_aload_n (pc := 73) dX4_isTurned_73 rfl ?_
          refine x_getI (pc := 74) dX4_isTurned_74 qRX4_30 okl1 (by decide) ?_
          refine x_icmp_ne (tgt := 134) (pc := 77) dX4_isTurned_77 (by decide) (fun c6 => ?_) (fun c6 => ?_)
          · have hwp := hwp.1 c6
            refine x_iconst (v := 0) (pc := 134) dX4_isTurned_134 (by decide) ?_
            exact x_zret (pc := 135) dX4_isTurned_135 rfl hex hnn hzz (by decide) ⟨_, rfl, by decide, hwp⟩
          · have hwp := hwp.2 c6
            refine x_aload_n (pc := 80) dX4_isTurned_80 rfl ?_
            refine x_getI (pc := 81) dX4_isTurned_81 qRX4_33 okl0 (by decide) ?_
            refine x_aload_n (pc := 84) dX4_isTurned_84 rfl ?_
            refine x_getI (pc := 85) dX4_isTurned_85 qRX4_33 okl1 (by decide) ?_
            refine x_icmp_ne (tgt := 134) (pc := 88) dX4_isTurned_88 (by decide) (fun c7 => ?_) (fun c7 => ?_)
            · have hwp := hwp.1 c7
              refine x_iconst (v := 0) (pc := 134) dX4_isTurned_134 (by decide) ?_
              exact x_zret (pc := 135) dX4_isTurned_135 rfl hex hnn hzz (by decide) ⟨_, rfl, by decide, hwp⟩
            · have hwp := hwp.2 c7
              refine x_aload_n (pc := 91) dX4_isTurned_91 rfl ?_
              refine x_getI (pc := 92) dX4_isTurned_92 qRX4_37 okl0 (by decide) ?_
              refine x_aload_n (pc := 95) dX4_isTurned_95 rfl ?_
              refine x_getI (pc := 96) dX4_isTurned_96 qRX4_37 okl1 (by decide) ?_
              refine x_icmp_ne (tgt := 134) (pc := 99) dX4_isTurned_99 (by decide) (fun c8 => ?_) (fun c8 => ?_)
              · have hwp := hwp.1 c8
                refine x_iconst (v := 0) (pc := 134) dX4_isTurned_134 (by decide) ?_
                exact x_zret (pc := 135) dX4_isTurned_135 rfl hex hnn hzz (by decide) ⟨_, rfl, by decide, hwp⟩
              · have hwp := hwp.2 c8
                refine x_aload_n (pc := 102) dX4_isTurned_102 rfl ?_
                refine x_getI (pc := 103) dX4_isTurned_103 qRX4_40 okl0 (by decide) ?_
                refine x_aload_n (pc := 106) dX4_isTurned_106 rfl ?_
                refine x_getI (pc := 107) dX4_isTurned_107 qRX4_40 okl1 (by decide) ?_
                refine x_icmp_ne (tgt := 134) (pc := 110) dX4_isTurned_110 (by decide) (fun c9 => ?_) (fun c9 => ?_)
                · have hwp := hwp.1 c9
                  refine x_iconst (v := 0) (pc := 134) dX4_isTurned_134 (by decide) ?_
                  exact x_zret (pc := 135) dX4_isTurned_135 rfl hex hnn hzz (by decide) ⟨_, rfl, by decide, hwp⟩
                · have hwp := hwp.2 c9
                  refine x_iload (pc := 113) dX4_isTurned_113 rfl ?_
                  refine x_iconst (v := 1) (pc := 115) dX4_isTurned_115 (by decide) ?_
                  refine x_iload_n (pc := 116) dX4_isTurned_116 rfl ?_
                  refine x_invS (As := [.int 1, .int l3]) (st := [.int s0]) (pc := 117) dX4_isTurned_117 lRX4_76 fJ9_max_7cf53 sJ9_max_7cf53 rfl (Nat.le_of_ble_eq_true rfl) (q_R (by omega) (by decide)) (q_C hnn hzz (by decide) (by decide)) (sn_J9_max_7cf53 G (d + 0) 1 l3 h _  hwp) (k_i (fun r11 h10 hwp cxh10 => ?_))
                  have hex := hex.tr cxh10.1
                  have hnn : qn h10 = qn h0 + 0 := by have := cxh10.2.1; omega
                  have hzz : qz h10 = qz h0 + 0 := by have := cxh10.2.2; omega
                  have okl0 := okl0.ex cxh10.1
                  have okl1 := okl1.ex cxh10.1
                  refine x_invS (As := [.int s0, .int r11]) (st := []) (pc := 120) dX4_isTurned_120 lRX4_108 fJ9_floorMod_7cf53 sJ9_floorMod_7cf53 rfl (Nat.le_of_ble_eq_true rfl) (q_R (by omega) (by decide)) (q_C hnn hzz (by decide) (by decide)) (sn_J9_floorMod_7cf53 G (d + 0) s0 r11 h10 _  hwp) (k_i (fun r13 h12 hwp cxh12 => ?_))
                  have hex := hex.tr cxh12.1
                  have hnn : qn h12 = qn h0 + 0 := by have := cxh12.2.1; omega
                  have hzz : qz h12 = qz h0 + 0 := by have := cxh12.2.2; omega
                  have okl0 := okl0.ex cxh12.1
                  have okl1 := okl1.ex cxh12.1
                  refine x_aload_n (pc := 123) dX4_isTurned_123 rfl ?_
                  refine x_getI (pc := 124) dX4_isTurned_124 qRX4_18 okl1 (by decide) ?_
                  refine x_icmp_ne (tgt := 134) (pc := 127) dX4_isTurned_127 (by decide) (fun c14 => ?_) (fun c14 => ?_)
                  · have hwp := hwp.1 c14
                    refine x_iconst (v := 0) (pc := 134) dX4_isTurned_134 (by decide) ?_
                    exact x_zret (pc := 135) dX4_isTurned_135 rfl hex hnn hzz (by decide) ⟨_, rfl, by decide, hwp⟩
                  · have hwp := hwp.2 c14
                    refine x_iconst (v := 1) (pc := 130) dX4_isTurned_130 (by decide) ?_
                    refine x_goto (tgt := 135) (pc := 131) dX4_isTurned_131 (by decide) ?_
                    exact x_zret (pc := 135) dX4_isTurned_135 rfl hex hnn hzz (by decide) ⟨_, rfl, by decide, hwp⟩
def wp_X4_isTurned (l0 : Nat) (l1 : Nat) (l2 : Int32) (l3 : Int32) (h : PH) (Q : Int32 → PH → Prop) : Prop := ((¬ (qI h l0 0) = 4 → (wp_X4_isTurned_23 l0 l1 l3 ((qI h l0 2) + l2) h Q)) ∧ ((qI h l0 0) = 4 → (wp_X4_isTurned_23 l0 l1 l3 ((qI h l0 2) - l2) h Q)))
set_option maxHeartbeats 4000000 in
set_option maxRecDepth 100000 in
theorem sn_X4_isTurned (G : GT) (d : Nat) (l0 : Nat) (l1 : Nat) (l2 : Int32) (l3 : Int32) (h : PH) (Q : Int32 → PH → Prop) (okl0 : qOK h 4 l0) (okl1 : qOK h 4 l1) (hwp : wp_X4_isTurned l0 l1 l2 l3 h Q) : Mt G (1 + d) 0 0 mX4_isTurned [.ref l0, .ref l1, .int l2, .int l3] h (qqb Q) := by
  unfold wp_X4_isTurned at hwp
  refine Mt.of (by decide) rfl (Nat.le_of_ble_eq_true rfl) ?_
  have hex := qEx.rf h
  have hnn : qn h = qn h + 0 := rfl
  have hzz : qz h = qz h + 0 := rfl
  refine x_lvE (lv2 := [(0, .ref l0), (1, .ref l1), (2, .int l2), (3, .int l3)]) rfl ?_
  refine x_aload_n (pc := 0) dX4_isTurned_0 rfl ?_
  refine x_getI (pc := 1) dX4_isTurned_1 qRX4_11 okl0 (by decide) ?_
  refine x_iconst (v := 4) (pc := 4) dX4_isTurned_4 (by decide) ?_
  refine x_icmp_ne (tgt := 17) (pc := 5) dX4_isTurned_5 (by decide) (fun c1 => ?_) (fun c1 => ?_)
  · have hwp := hwp.1 c1
    refine x_aload_n (pc := 17) dX4_isTurned_17 rfl ?_
    refine x_getI (pc := 18) dX4_isTurned_18 qRX4_18 okl0 (by decide) ?_
    refine x_iload_n (pc := 21) dX4_isTurned_21 rfl ?_
    refine x_iadd (pc := 22) dX4_isTurned_22 ?_
    refine x_sub [0, 1, 3] rfl ?_
    exact sg_X4_isTurned_23 G d h l0 l1 l3 ((qI h l0 2) + l2) h Q hex hnn hzz okl0 okl1 hwp
  · have hwp := hwp.2 c1
    refine x_aload_n (pc := 8) dX4_isTurned_8 rfl ?_
    refine x_getI (pc := 9) dX4_isTurned_9 qRX4_18 okl0 (by decide) ?_
    refine x_iload_n (pc := 12) dX4_isTurned_12 rfl ?_
    refine x_isub (pc := 13) dX4_isTurned_13 ?_
    refine x_goto (tgt := 23) (pc := 14) dX4_isTurned_14 (by decide) ?_
    refine x_sub [0, 1, 3] rfl ?_
    exact sg_X4_isTurned_23 G d h l0 l1 l3 ((qI h l0 2) - l2) h Q hex hnn hzz okl0 okl1 hwp

theorem dX4_highOf_0 : decode cX4_highOf 0 = .ok (.iload_n 0, 1) := by decide +kernel
theorem dX4_highOf_1 : decode cX4_highOf 1 = .ok (.iload_n 1, 1) := by decide +kernel
theorem dX4_highOf_2 : decode cX4_highOf 2 = .ok (.iconst 2, 1) := by decide +kernel
theorem dX4_highOf_3 : decode cX4_highOf 3 = .ok (.idiv, 1) := by decide +kernel
theorem dX4_highOf_4 : decode cX4_highOf 4 = .ok (.if_icmp .gt 7, 3) := by decide +kernel
theorem dX4_highOf_7 : decode cX4_highOf 7 = .ok (.iload_n 0, 1) := by decide +kernel
theorem dX4_highOf_8 : decode cX4_highOf 8 = .ok (.goto 6, 3) := by decide +kernel
theorem dX4_highOf_11 : decode cX4_highOf 11 = .ok (.iload_n 1, 1) := by decide +kernel
theorem dX4_highOf_12 : decode cX4_highOf 12 = .ok (.iload_n 0, 1) := by decide +kernel
theorem dX4_highOf_13 : decode cX4_highOf 13 = .ok (.isub, 1) := by decide +kernel
theorem dX4_highOf_14 : decode cX4_highOf 14 = .ok (.ireturn, 1) := by decide +kernel
def wp_X4_highOf (l0 : Int32) (l1 : Int32) (h : PH) (Q : Int32 → PH → Prop) : Prop := (((l1 / 2) < l0 → Q (l1 - l0) h) ∧ (¬ ((l1 / 2) < l0) → Q l0 h))
set_option maxHeartbeats 4000000 in
set_option maxRecDepth 100000 in
theorem sn_X4_highOf (G : GT) (d : Nat) (l0 : Int32) (l1 : Int32) (h : PH) (Q : Int32 → PH → Prop)  (hwp : wp_X4_highOf l0 l1 h Q) : Mt G (0 + d) 0 0 mX4_highOf [.int l0, .int l1] h (qqi Q) := by
  unfold wp_X4_highOf at hwp
  refine Mt.of (by decide) rfl (Nat.le_of_ble_eq_true rfl) ?_
  have hex := qEx.rf h
  have hnn : qn h = qn h + 0 := rfl
  have hzz : qz h = qz h + 0 := rfl
  refine x_lvE (lv2 := [(0, .int l0), (1, .int l1)]) rfl ?_
  refine x_iload_n (pc := 0) dX4_highOf_0 rfl ?_
  refine x_iload_n (pc := 1) dX4_highOf_1 rfl ?_
  refine x_iconst (v := 2) (pc := 2) dX4_highOf_2 (by decide) ?_
  refine x_idiv (pc := 3) dX4_highOf_3 (by decide) ?_
  refine x_icmp_gt (tgt := 11) (pc := 4) dX4_highOf_4 (by decide) (fun c1 => ?_) (fun c1 => ?_)
  · have hwp := hwp.1 c1
    refine x_iload_n (pc := 11) dX4_highOf_11 rfl ?_
    refine x_iload_n (pc := 12) dX4_highOf_12 rfl ?_
    refine x_isub (pc := 13) dX4_highOf_13 ?_
    exact x_iret (pc := 14) dX4_highOf_14 rfl hex hnn hzz ⟨_, rfl, hwp⟩
  · have hwp := hwp.2 c1
    refine x_iload_n (pc := 7) dX4_highOf_7 rfl ?_
    refine x_goto (tgt := 14) (pc := 8) dX4_highOf_8 (by decide) ?_
    exact x_iret (pc := 14) dX4_highOf_14 rfl hex hnn hzz ⟨_, rfl, hwp⟩

theorem dX4_law_0 : decode cX4_law 0 = .ok (.aload_n 0, 1) := by decide +kernel
theorem dX4_law_1 : decode cX4_law 1 = .ok (.getfield 11, 3) := by decide +kernel
theorem dX4_law_4 : decode cX4_law 4 = .ok (.tableswitch 41 0 3 #[32, 35, 37, 39], 32) := by decide +kernel
theorem dX4_law_36 : decode cX4_law 36 = .ok (.bipush 8, 2) := by decide +kernel
theorem dX4_law_38 : decode cX4_law 38 = .ok (.ireturn, 1) := by decide +kernel
theorem dX4_law_39 : decode cX4_law 39 = .ok (.iconst 1, 1) := by decide +kernel
theorem dX4_law_40 : decode cX4_law 40 = .ok (.ireturn, 1) := by decide +kernel
theorem dX4_law_41 : decode cX4_law 41 = .ok (.iconst 2, 1) := by decide +kernel
theorem dX4_law_42 : decode cX4_law 42 = .ok (.ireturn, 1) := by decide +kernel
theorem dX4_law_43 : decode cX4_law 43 = .ok (.iconst 4, 1) := by decide +kernel
theorem dX4_law_44 : decode cX4_law 44 = .ok (.ireturn, 1) := by decide +kernel
theorem dX4_law_45 : decode cX4_law 45 = .ok (.iconst 0, 1) := by decide +kernel
theorem dX4_law_46 : decode cX4_law 46 = .ok (.ireturn, 1) := by decide +kernel
def wp_X4_law (l0 : Nat) (h : PH) (Q : Int32 → PH → Prop) : Prop := (((qI h l0 0) = 0 → Q 8 h) ∧ ((qI h l0 0) = 1 → Q 1 h) ∧ ((qI h l0 0) = 2 → Q 2 h) ∧ ((qI h l0 0) = 3 → Q 4 h) ∧ (¬ (qI h l0 0) = 0 → ¬ (qI h l0 0) = 1 → ¬ (qI h l0 0) = 2 → ¬ (qI h l0 0) = 3 → Q 0 h))
set_option maxHeartbeats 4000000 in
set_option maxRecDepth 100000 in
theorem sn_X4_law (G : GT) (d : Nat) (l0 : Nat) (h : PH) (Q : Int32 → PH → Prop) (okl0 : qOK h 4 l0) (hwp : wp_X4_law l0 h Q) : Mt G (0 + d) 0 0 mX4_law [.ref l0] h (qqi Q) := by
  unfold wp_X4_law at hwp
  refine Mt.of (by decide) rfl (Nat.le_of_ble_eq_true rfl) ?_
  have hex := qEx.rf h
  have hnn : qn h = qn h + 0 := rfl
  have hzz : qz h = qz h + 0 := rfl
  refine x_lvE (lv2 := [(0, .ref l0)]) rfl ?_
  refine x_aload_n (pc := 0) dX4_law_0 rfl ?_
  refine x_getI (pc := 1) dX4_law_1 qRX4_11 okl0 (by decide) ?_
  by_cases c1 : (qI h l0 0) = 0
  · have hwp := hwp.1 c1
    refine x_tabIn (tgt := 36) (pc := 4) dX4_law_4 (by rw [q_teq c1 (n := 0) (by decide)]; decide) (by rw [q_teq c1 (n := 0) (by decide)]; decide) (by rw [q_teq c1 (n := 0) (by decide)]; rfl) (by decide) ?_
    refine x_bipush (v := 8) (pc := 36) dX4_law_36 (by decide) ?_
    exact x_iret (pc := 38) dX4_law_38 rfl hex hnn hzz ⟨_, rfl, hwp⟩
  by_cases c2 : (qI h l0 0) = 1
  · have hwp := hwp.2.1 c2
    refine x_tabIn (tgt := 39) (pc := 4) dX4_law_4 (by rw [q_teq c2 (n := 1) (by decide)]; decide) (by rw [q_teq c2 (n := 1) (by decide)]; decide) (by rw [q_teq c2 (n := 1) (by decide)]; rfl) (by decide) ?_
    refine x_iconst (v := 1) (pc := 39) dX4_law_39 (by decide) ?_
    exact x_iret (pc := 40) dX4_law_40 rfl hex hnn hzz ⟨_, rfl, hwp⟩
  by_cases c3 : (qI h l0 0) = 2
  · have hwp := hwp.2.2.1 c3
    refine x_tabIn (tgt := 41) (pc := 4) dX4_law_4 (by rw [q_teq c3 (n := 2) (by decide)]; decide) (by rw [q_teq c3 (n := 2) (by decide)]; decide) (by rw [q_teq c3 (n := 2) (by decide)]; rfl) (by decide) ?_
    refine x_iconst (v := 2) (pc := 41) dX4_law_41 (by decide) ?_
    exact x_iret (pc := 42) dX4_law_42 rfl hex hnn hzz ⟨_, rfl, hwp⟩
  by_cases c4 : (qI h l0 0) = 3
  · have hwp := hwp.2.2.2.1 c4
    refine x_tabIn (tgt := 43) (pc := 4) dX4_law_4 (by rw [q_teq c4 (n := 3) (by decide)]; decide) (by rw [q_teq c4 (n := 3) (by decide)]; decide) (by rw [q_teq c4 (n := 3) (by decide)]; rfl) (by decide) ?_
    refine x_iconst (v := 4) (pc := 43) dX4_law_43 (by decide) ?_
    exact x_iret (pc := 44) dX4_law_44 rfl hex hnn hzz ⟨_, rfl, hwp⟩
  have hwp := hwp.2.2.2.2 c1 c2 c3 c4
  refine x_tabOut (tgt := 45) (pc := 4) dX4_law_4 (by have := q_tne c1 (n := 0) (by decide); have := q_tne c2 (n := 1) (by decide); have := q_tne c3 (n := 2) (by decide); have := q_tne c4 (n := 3) (by decide); omega) (by decide) ?_
  refine x_iconst (v := 0) (pc := 45) dX4_law_45 (by decide) ?_
  exact x_iret (pc := 46) dX4_law_46 rfl hex hnn hzz ⟨_, rfl, hwp⟩

theorem dX4_isWithin_0 : decode cX4_isWithin 0 = .ok (.aload_n 0, 1) := by decide +kernel
theorem dX4_isWithin_1 : decode cX4_isWithin 1 = .ok (.getfield 33, 3) := by decide +kernel
theorem dX4_isWithin_4 : decode cX4_isWithin 4 = .ok (.ifCond .ne 5, 3) := by decide +kernel
theorem dX4_isWithin_7 : decode cX4_isWithin 7 = .ok (.iconst 0, 1) := by decide +kernel
theorem dX4_isWithin_8 : decode cX4_isWithin 8 = .ok (.ireturn, 1) := by decide +kernel
theorem dX4_isWithin_9 : decode cX4_isWithin 9 = .ok (.aload_n 0, 1) := by decide +kernel
theorem dX4_isWithin_10 : decode cX4_isWithin 10 = .ok (.getfield 37, 3) := by decide +kernel
theorem dX4_isWithin_13 : decode cX4_isWithin 13 = .ok (.aload_n 0, 1) := by decide +kernel
theorem dX4_isWithin_14 : decode cX4_isWithin 14 = .ok (.getfield 40, 3) := by decide +kernel
theorem dX4_isWithin_17 : decode cX4_isWithin 17 = .ok (.if_icmp .gt 27, 3) := by decide +kernel
theorem dX4_isWithin_20 : decode cX4_isWithin 20 = .ok (.aload_n 0, 1) := by decide +kernel
theorem dX4_isWithin_21 : decode cX4_isWithin 21 = .ok (.getfield 37, 3) := by decide +kernel
theorem dX4_isWithin_24 : decode cX4_isWithin 24 = .ok (.iload_n 1, 1) := by decide +kernel
theorem dX4_isWithin_25 : decode cX4_isWithin 25 = .ok (.if_icmp .gt 15, 3) := by decide +kernel
theorem dX4_isWithin_28 : decode cX4_isWithin 28 = .ok (.iload_n 1, 1) := by decide +kernel
theorem dX4_isWithin_29 : decode cX4_isWithin 29 = .ok (.aload_n 0, 1) := by decide +kernel
theorem dX4_isWithin_30 : decode cX4_isWithin 30 = .ok (.getfield 40, 3) := by decide +kernel
theorem dX4_isWithin_33 : decode cX4_isWithin 33 = .ok (.if_icmp .gt 7, 3) := by decide +kernel
theorem dX4_isWithin_36 : decode cX4_isWithin 36 = .ok (.iconst 1, 1) := by decide +kernel
theorem dX4_isWithin_37 : decode cX4_isWithin 37 = .ok (.goto 28, 3) := by decide +kernel
theorem dX4_isWithin_40 : decode cX4_isWithin 40 = .ok (.iconst 0, 1) := by decide +kernel
theorem dX4_isWithin_41 : decode cX4_isWithin 41 = .ok (.goto 24, 3) := by decide +kernel
theorem dX4_isWithin_44 : decode cX4_isWithin 44 = .ok (.aload_n 0, 1) := by decide +kernel
theorem dX4_isWithin_45 : decode cX4_isWithin 45 = .ok (.getfield 37, 3) := by decide +kernel
theorem dX4_isWithin_48 : decode cX4_isWithin 48 = .ok (.iload_n 1, 1) := by decide +kernel
theorem dX4_isWithin_49 : decode cX4_isWithin 49 = .ok (.if_icmp .le 11, 3) := by decide +kernel
theorem dX4_isWithin_52 : decode cX4_isWithin 52 = .ok (.iload_n 1, 1) := by decide +kernel
theorem dX4_isWithin_53 : decode cX4_isWithin 53 = .ok (.aload_n 0, 1) := by decide +kernel
theorem dX4_isWithin_54 : decode cX4_isWithin 54 = .ok (.getfield 40, 3) := by decide +kernel
theorem dX4_isWithin_57 : decode cX4_isWithin 57 = .ok (.if_icmp .gt 7, 3) := by decide +kernel
theorem dX4_isWithin_60 : decode cX4_isWithin 60 = .ok (.iconst 1, 1) := by decide +kernel
theorem dX4_isWithin_61 : decode cX4_isWithin 61 = .ok (.goto 4, 3) := by decide +kernel
theorem dX4_isWithin_64 : decode cX4_isWithin 64 = .ok (.iconst 0, 1) := by decide +kernel
theorem dX4_isWithin_65 : decode cX4_isWithin 65 = .ok (.ireturn, 1) := by decide +kernel
def wp_X4_isWithin (l0 : Nat) (l1 : Int32) (h : PH) (Q : Int32 → PH → Prop) : Prop := ((¬ (qI h l0 7) = 0 → (((qI h l0 9) < (qI h l0 8) → (((qI h l0 8) ≤ l1 → Q 1 h) ∧ (¬ ((qI h l0 8) ≤ l1) → (((qI h l0 9) < l1 → Q 0 h) ∧ (¬ ((qI h l0 9) < l1) → Q 1 h))))) ∧ (¬ ((qI h l0 9) < (qI h l0 8)) → ((l1 < (qI h l0 8) → Q 0 h) ∧ (¬ (l1 < (qI h l0 8)) → (((qI h l0 9) < l1 → Q 0 h) ∧ (¬ ((qI h l0 9) < l1) → Q 1 h))))))) ∧ ((qI h l0 7) = 0 → Q 0 h))
set_option maxHeartbeats 4000000 in
set_option maxRecDepth 100000 in
theorem sn_X4_isWithin (G : GT) (d : Nat) (l0 : Nat) (l1 : Int32) (h : PH) (Q : Int32 → PH → Prop) (okl0 : qOK h 4 l0) (hwp : wp_X4_isWithin l0 l1 h Q) : Mt G (0 + d) 0 0 mX4_isWithin [.ref l0, .int l1] h (qqb Q) := by
  unfold wp_X4_isWithin at hwp
  refine Mt.of (by decide) rfl (Nat.le_of_ble_eq_true rfl) ?_
  have hex := qEx.rf h
  have hnn : qn h = qn h + 0 := rfl
  have hzz : qz h = qz h + 0 := rfl
  refine x_lvE (lv2 := [(0, .ref l0), (1, .int l1)]) rfl ?_
  refine x_aload_n (pc := 0) dX4_isWithin_0 rfl ?_
  refine x_getI (pc := 1) dX4_isWithin_1 qRX4_33 okl0 (by decide) ?_
  refine x_if_ne (tgt := 9) (pc := 4) dX4_isWithin_4 (by decide) (fun c1 => ?_) (fun c1 => ?_)
  · have hwp := hwp.1 c1
    refine x_aload_n (pc := 9) dX4_isWithin_9 rfl ?_
    refine x_getI (pc := 10) dX4_isWithin_10 qRX4_37 okl0 (by decide) ?_
    refine x_aload_n (pc := 13) dX4_isWithin_13 rfl ?_
    refine x_getI (pc := 14) dX4_isWithin_14 qRX4_40 okl0 (by decide) ?_
    refine x_icmp_gt (tgt := 44) (pc := 17) dX4_isWithin_17 (by decide) (fun c2 => ?_) (fun c2 => ?_)
    · have hwp := hwp.1 c2
      refine x_aload_n (pc := 44) dX4_isWithin_44 rfl ?_
      refine x_getI (pc := 45) dX4_isWithin_45 qRX4_37 okl0 (by decide) ?_
      refine x_iload_n (pc := 48) dX4_isWithin_48 rfl ?_
      refine x_icmp_le (tgt := 60) (pc := 49) dX4_isWithin_49 (by decide) (fun c3 => ?_) (fun c3 => ?_)
      · have hwp := hwp.1 c3
        refine x_iconst (v := 1) (pc := 60) dX4_isWithin_60 (by decide) ?_
        refine x_goto (tgt := 65) (pc := 61) dX4_isWithin_61 (by decide) ?_
        exact x_zret (pc := 65) dX4_isWithin_65 rfl hex hnn hzz (by decide) ⟨_, rfl, by decide, hwp⟩
      · have hwp := hwp.2 c3
        refine x_iload_n (pc := 52) dX4_isWithin_52 rfl ?_
        refine x_aload_n (pc := 53) dX4_isWithin_53 rfl ?_
        refine x_getI (pc := 54) dX4_isWithin_54 qRX4_40 okl0 (by decide) ?_
        refine x_icmp_gt (tgt := 64) (pc := 57) dX4_isWithin_57 (by decide) (fun c4 => ?_) (fun c4 => ?_)
        · have hwp := hwp.1 c4
          refine x_iconst (v := 0) (pc := 64) dX4_isWithin_64 (by decide) ?_
          exact x_zret (pc := 65) dX4_isWithin_65 rfl hex hnn hzz (by decide) ⟨_, rfl, by decide, hwp⟩
        · have hwp := hwp.2 c4
          refine x_iconst (v := 1) (pc := 60) dX4_isWithin_60 (by decide) ?_
          refine x_goto (tgt := 65) (pc := 61) dX4_isWithin_61 (by decide) ?_
          exact x_zret (pc := 65) dX4_isWithin_65 rfl hex hnn hzz (by decide) ⟨_, rfl, by decide, hwp⟩
    · have hwp := hwp.2 c2
      refine x_aload_n (pc := 20) dX4_isWithin_20 rfl ?_
      refine x_getI (pc := 21) dX4_isWithin_21 qRX4_37 okl0 (by decide) ?_
      refine x_iload_n (pc := 24) dX4_isWithin_24 rfl ?_
      refine x_icmp_gt (tgt := 40) (pc := 25) dX4_isWithin_25 (by decide) (fun c5 => ?_) (fun c5 => ?_)
      · have hwp := hwp.1 c5
        refine x_iconst (v := 0) (pc := 40) dX4_isWithin_40 (by decide) ?_
        refine x_goto (tgt := 65) (pc := 41) dX4_isWithin_41 (by decide) ?_
        exact x_zret (pc := 65) dX4_isWithin_65 rfl hex hnn hzz (by decide) ⟨_, rfl, by decide, hwp⟩
      · have hwp := hwp.2 c5
        refine x_iload_n (pc := 28) dX4_isWithin_28 rfl ?_
        refine x_aload_n (pc := 29) dX4_isWithin_29 rfl ?_
        refine x_getI (pc := 30) dX4_isWithin_30 qRX4_40 okl0 (by decide) ?_
        refine x_icmp_gt (tgt := 40) (pc := 33) dX4_isWithin_33 (by decide) (fun c6 => ?_) (fun c6 => ?_)
        · have hwp := hwp.1 c6
          refine x_iconst (v := 0) (pc := 40) dX4_isWithin_40 (by decide) ?_
          refine x_goto (tgt := 65) (pc := 41) dX4_isWithin_41 (by decide) ?_
          exact x_zret (pc := 65) dX4_isWithin_65 rfl hex hnn hzz (by decide) ⟨_, rfl, by decide, hwp⟩
        · have hwp := hwp.2 c6
          refine x_iconst (v := 1) (pc := 36) dX4_isWithin_36 (by decide) ?_
          refine x_goto (tgt := 65) (pc := 37) dX4_isWithin_37 (by decide) ?_
          exact x_zret (pc := 65) dX4_isWithin_65 rfl hex hnn hzz (by decide) ⟨_, rfl, by decide, hwp⟩
  · have hwp := hwp.2 c1
    refine x_iconst (v := 0) (pc := 7) dX4_isWithin_7 (by decide) ?_
    exact x_zret (pc := 8) dX4_isWithin_8 rfl hex hnn hzz (by decide) ⟨_, rfl, by decide, hwp⟩

theorem dX4_placeAt_0 : decode cX4_placeAt 0 = .ok (.aload_n 0, 1) := by decide +kernel
theorem dX4_placeAt_1 : decode cX4_placeAt 1 = .ok (.getfield 18, 3) := by decide +kernel
theorem dX4_placeAt_4 : decode cX4_placeAt 4 = .ok (.iload_n 1, 1) := by decide +kernel
theorem dX4_placeAt_5 : decode cX4_placeAt 5 = .ok (.iadd, 1) := by decide +kernel
theorem dX4_placeAt_6 : decode cX4_placeAt 6 = .ok (.istore_n 3, 1) := by decide +kernel
theorem dX4_placeAt_7 : decode cX4_placeAt 7 = .ok (.iload_n 3, 1) := by decide +kernel
theorem dX4_placeAt_8 : decode cX4_placeAt 8 = .ok (.iload_n 2, 1) := by decide +kernel
theorem dX4_placeAt_9 : decode cX4_placeAt 9 = .ok (.if_icmp .lt 9, 3) := by decide +kernel
theorem dX4_placeAt_12 : decode cX4_placeAt 12 = .ok (.iload_n 3, 1) := by decide +kernel
theorem dX4_placeAt_13 : decode cX4_placeAt 13 = .ok (.iload_n 2, 1) := by decide +kernel
theorem dX4_placeAt_14 : decode cX4_placeAt 14 = .ok (.isub, 1) := by decide +kernel
theorem dX4_placeAt_15 : decode cX4_placeAt 15 = .ok (.goto 4, 3) := by decide +kernel
theorem dX4_placeAt_18 : decode cX4_placeAt 18 = .ok (.iload_n 3, 1) := by decide +kernel
theorem dX4_placeAt_19 : decode cX4_placeAt 19 = .ok (.ireturn, 1) := by decide +kernel
def wp_X4_placeAt (l0 : Nat) (l1 : Int32) (l2 : Int32) (h : PH) (Q : Int32 → PH → Prop) : Prop := ∀ v1 : Int32, v1 = (qI h l0 2) + l1 → ((v1 < l2 → Q v1 h) ∧ (¬ (v1 < l2) → Q (v1 - l2) h))
set_option maxHeartbeats 4000000 in
set_option maxRecDepth 100000 in
theorem sn_X4_placeAt (G : GT) (d : Nat) (l0 : Nat) (l1 : Int32) (l2 : Int32) (h : PH) (Q : Int32 → PH → Prop) (okl0 : qOK h 4 l0) (hwp : wp_X4_placeAt l0 l1 l2 h Q) : Mt G (0 + d) 0 0 mX4_placeAt [.ref l0, .int l1, .int l2] h (qqi Q) := by
  unfold wp_X4_placeAt at hwp
  refine Mt.of (by decide) rfl (Nat.le_of_ble_eq_true rfl) ?_
  have hex := qEx.rf h
  have hnn : qn h = qn h + 0 := rfl
  have hzz : qz h = qz h + 0 := rfl
  refine x_lvE (lv2 := [(0, .ref l0), (1, .int l1), (2, .int l2)]) rfl ?_
  refine x_aload_n (pc := 0) dX4_placeAt_0 rfl ?_
  refine x_getI (pc := 1) dX4_placeAt_1 qRX4_18 okl0 (by decide) ?_
  refine x_iload_n (pc := 4) dX4_placeAt_4 rfl ?_
  refine x_iadd (pc := 5) dX4_placeAt_5 ?_
  refine x_nmI (fun v1 ev1 => ?_)
  have hwp := hwp v1 ev1
  refine x_istore_n (lv2 := [(3, .int v1), (0, .ref l0), (1, .int l1), (2, .int l2)]) (pc := 6) dX4_placeAt_6 (by decide) rfl ?_
  refine x_iload_n (pc := 7) dX4_placeAt_7 rfl ?_
  refine x_iload_n (pc := 8) dX4_placeAt_8 rfl ?_
  refine x_icmp_lt (tgt := 18) (pc := 9) dX4_placeAt_9 (by decide) (fun c2 => ?_) (fun c2 => ?_)
  · have hwp := hwp.1 c2
    refine x_iload_n (pc := 18) dX4_placeAt_18 rfl ?_
    exact x_iret (pc := 19) dX4_placeAt_19 rfl hex hnn hzz ⟨_, rfl, hwp⟩
  · have hwp := hwp.2 c2
    refine x_iload_n (pc := 12) dX4_placeAt_12 rfl ?_
    refine x_iload_n (pc := 13) dX4_placeAt_13 rfl ?_
    refine x_isub (pc := 14) dX4_placeAt_14 ?_
    refine x_goto (tgt := 19) (pc := 15) dX4_placeAt_15 (by decide) ?_
    exact x_iret (pc := 19) dX4_placeAt_19 rfl hex hnn hzz ⟨_, rfl, hwp⟩

theorem dX4_placeBehind_0 : decode cX4_placeBehind 0 = .ok (.iload_n 0, 1) := by decide +kernel
theorem dX4_placeBehind_1 : decode cX4_placeBehind 1 = .ok (.iconst 1, 1) := by decide +kernel
theorem dX4_placeBehind_2 : decode cX4_placeBehind 2 = .ok (.iadd, 1) := by decide +kernel
theorem dX4_placeBehind_3 : decode cX4_placeBehind 3 = .ok (.iload_n 1, 1) := by decide +kernel
theorem dX4_placeBehind_4 : decode cX4_placeBehind 4 = .ok (.if_icmp .ge 9, 3) := by decide +kernel
theorem dX4_placeBehind_7 : decode cX4_placeBehind 7 = .ok (.iload_n 0, 1) := by decide +kernel
theorem dX4_placeBehind_8 : decode cX4_placeBehind 8 = .ok (.iconst 1, 1) := by decide +kernel
theorem dX4_placeBehind_9 : decode cX4_placeBehind 9 = .ok (.iadd, 1) := by decide +kernel
theorem dX4_placeBehind_10 : decode cX4_placeBehind 10 = .ok (.goto 4, 3) := by decide +kernel
theorem dX4_placeBehind_13 : decode cX4_placeBehind 13 = .ok (.iconst 0, 1) := by decide +kernel
theorem dX4_placeBehind_14 : decode cX4_placeBehind 14 = .ok (.ireturn, 1) := by decide +kernel
def wp_X4_placeBehind (l0 : Int32) (l1 : Int32) (h : PH) (Q : Int32 → PH → Prop) : Prop := ((l1 ≤ (l0 + 1) → Q 0 h) ∧ (¬ (l1 ≤ (l0 + 1)) → Q (l0 + 1) h))
set_option maxHeartbeats 4000000 in
set_option maxRecDepth 100000 in
theorem sn_X4_placeBehind (G : GT) (d : Nat) (l0 : Int32) (l1 : Int32) (h : PH) (Q : Int32 → PH → Prop)  (hwp : wp_X4_placeBehind l0 l1 h Q) : Mt G (0 + d) 0 0 mX4_placeBehind [.int l0, .int l1] h (qqi Q) := by
  unfold wp_X4_placeBehind at hwp
  refine Mt.of (by decide) rfl (Nat.le_of_ble_eq_true rfl) ?_
  have hex := qEx.rf h
  have hnn : qn h = qn h + 0 := rfl
  have hzz : qz h = qz h + 0 := rfl
  refine x_lvE (lv2 := [(0, .int l0), (1, .int l1)]) rfl ?_
  refine x_iload_n (pc := 0) dX4_placeBehind_0 rfl ?_
  refine x_iconst (v := 1) (pc := 1) dX4_placeBehind_1 (by decide) ?_
  refine x_iadd (pc := 2) dX4_placeBehind_2 ?_
  refine x_iload_n (pc := 3) dX4_placeBehind_3 rfl ?_
  refine x_icmp_ge (tgt := 13) (pc := 4) dX4_placeBehind_4 (by decide) (fun c1 => ?_) (fun c1 => ?_)
  · have hwp := hwp.1 c1
    refine x_iconst (v := 0) (pc := 13) dX4_placeBehind_13 (by decide) ?_
    exact x_iret (pc := 14) dX4_placeBehind_14 rfl hex hnn hzz ⟨_, rfl, hwp⟩
  · have hwp := hwp.2 c1
    refine x_iload_n (pc := 7) dX4_placeBehind_7 rfl ?_
    refine x_iconst (v := 1) (pc := 8) dX4_placeBehind_8 (by decide) ?_
    refine x_iadd (pc := 9) dX4_placeBehind_9 ?_
    refine x_goto (tgt := 14) (pc := 10) dX4_placeBehind_10 (by decide) ?_
    exact x_iret (pc := 14) dX4_placeBehind_14 rfl hex hnn hzz ⟨_, rfl, hwp⟩

theorem dX4_armAt_0 : decode cX4_armAt 0 = .ok (.aload_n 0, 1) := by decide +kernel
theorem dX4_armAt_1 : decode cX4_armAt 1 = .ok (.iload_n 1, 1) := by decide +kernel
theorem dX4_armAt_2 : decode cX4_armAt 2 = .ok (.invokevirtual 61, 3) := by decide +kernel
theorem dX4_armAt_5 : decode cX4_armAt 5 = .ok (.ifCond .eq 10, 3) := by decide +kernel
theorem dX4_armAt_8 : decode cX4_armAt 8 = .ok (.aload_n 0, 1) := by decide +kernel
theorem dX4_armAt_9 : decode cX4_armAt 9 = .ok (.getfield 27, 3) := by decide +kernel
theorem dX4_armAt_12 : decode cX4_armAt 12 = .ok (.goto 7, 3) := by decide +kernel
theorem dX4_armAt_15 : decode cX4_armAt 15 = .ok (.aload_n 0, 1) := by decide +kernel
theorem dX4_armAt_16 : decode cX4_armAt 16 = .ok (.getfield 24, 3) := by decide +kernel
theorem dX4_armAt_19 : decode cX4_armAt 19 = .ok (.ireturn, 1) := by decide +kernel
def wp_X4_armAt (l0 : Nat) (l1 : Int32) (h : PH) (Q : Int32 → PH → Prop) : Prop := (wp_X4_isWithin l0 l1 h (fun r2 h1 => ((r2 = 0 → Q (qI h1 l0 4) h1) ∧ (¬ (r2 = 0) → Q (qI h1 l0 5) h1))))
set_option maxHeartbeats 4000000 in
set_option maxRecDepth 100000 in
theorem sn_X4_armAt (G : GT) (d : Nat) (l0 : Nat) (l1 : Int32) (h : PH) (Q : Int32 → PH → Prop) (okl0 : qOK h 4 l0) (hwp : wp_X4_armAt l0 l1 h Q) : Mt G (1 + d) 0 0 mX4_armAt [.ref l0, .int l1] h (qqi Q) := by
  unfold wp_X4_armAt at hwp
  refine Mt.of (by decide) rfl (Nat.le_of_ble_eq_true rfl) ?_
  have hex := qEx.rf h
  have hnn : qn h = qn h + 0 := rfl
  have hzz : qz h = qz h + 0 := rfl
  refine x_lvE (lv2 := [(0, .ref l0), (1, .int l1)]) rfl ?_
  refine x_aload_n (pc := 0) dX4_armAt_0 rfl ?_
  refine x_iload_n (pc := 1) dX4_armAt_1 rfl ?_
  refine x_invV (As := [.int l1]) (st := []) (pc := 2) dX4_armAt_2 lRX4_61 fX4_isWithin vX4_isWithin okl0 rfl (Nat.le_of_ble_eq_true rfl) (q_R (by omega) (by decide)) (q_C hnn hzz (by decide) (by decide)) (sn_X4_isWithin G (d + 0) l0 l1 h _ okl0 hwp) (k_b (fun r2 h1 hwp zbr2 cxh1 => ?_))
  have hex := hex.tr cxh1.1
  have hnn : qn h1 = qn h + 0 := by have := cxh1.2.1; omega
  have hzz : qz h1 = qz h + 0 := by have := cxh1.2.2; omega
  have okl0 := okl0.ex cxh1.1
  refine x_if_eq (tgt := 15) (pc := 5) dX4_armAt_5 (by decide) (fun c3 => ?_) (fun c3 => ?_)
  · have hwp := hwp.1 c3
    refine x_aload_n (pc := 15) dX4_armAt_15 rfl ?_
    refine x_getI (pc := 16) dX4_armAt_16 qRX4_24 okl0 (by decide) ?_
    exact x_iret (pc := 19) dX4_armAt_19 rfl hex hnn hzz ⟨_, rfl, hwp⟩
  · have hwp := hwp.2 c3
    refine x_aload_n (pc := 8) dX4_armAt_8 rfl ?_
    refine x_getI (pc := 9) dX4_armAt_9 qRX4_27 okl0 (by decide) ?_
    refine x_goto (tgt := 19) (pc := 12) dX4_armAt_12 (by decide) ?_
    exact x_iret (pc := 19) dX4_armAt_19 rfl hex hnn hzz ⟨_, rfl, hwp⟩

theorem dX4_distanceTo_0 : decode cX4_distanceTo 0 = .ok (.iload_n 1, 1) := by decide +kernel
theorem dX4_distanceTo_1 : decode cX4_distanceTo 1 = .ok (.aload_n 0, 1) := by decide +kernel
theorem dX4_distanceTo_2 : decode cX4_distanceTo 2 = .ok (.getfield 30, 3) := by decide +kernel
theorem dX4_distanceTo_5 : decode cX4_distanceTo 5 = .ok (.isub, 1) := by decide +kernel
theorem dX4_distanceTo_6 : decode cX4_distanceTo 6 = .ok (.invokestatic 81, 3) := by decide +kernel
theorem dX4_distanceTo_9 : decode cX4_distanceTo 9 = .ok (.istore_n 3, 1) := by decide +kernel
theorem dX4_distanceTo_10 : decode cX4_distanceTo 10 = .ok (.iload_n 3, 1) := by decide +kernel
theorem dX4_distanceTo_11 : decode cX4_distanceTo 11 = .ok (.iload_n 2, 1) := by decide +kernel
theorem dX4_distanceTo_12 : decode cX4_distanceTo 12 = .ok (.iload_n 3, 1) := by decide +kernel
theorem dX4_distanceTo_13 : decode cX4_distanceTo 13 = .ok (.isub, 1) := by decide +kernel
theorem dX4_distanceTo_14 : decode cX4_distanceTo 14 = .ok (.invokestatic 84, 3) := by decide +kernel
theorem dX4_distanceTo_17 : decode cX4_distanceTo 17 = .ok (.ireturn, 1) := by decide +kernel
def wp_X4_distanceTo (l0 : Nat) (l1 : Int32) (l2 : Int32) (h : PH) (Q : Int32 → PH → Prop) : Prop := (wp_J9_abs_0f7a4 (l1 - (qI h l0 6)) h (fun r2 h1 => (wp_J9_min_7cf53 r2 (l2 - r2) h1 (fun r4 h3 => Q r4 h3))))
set_option maxHeartbeats 4000000 in
set_option maxRecDepth 100000 in
theorem sn_X4_distanceTo (G : GT) (d : Nat) (l0 : Nat) (l1 : Int32) (l2 : Int32) (h : PH) (Q : Int32 → PH → Prop) (okl0 : qOK h 4 l0) (hwp : wp_X4_distanceTo l0 l1 l2 h Q) : Mt G (1 + d) 0 0 mX4_distanceTo [.ref l0, .int l1, .int l2] h (qqi Q) := by
  unfold wp_X4_distanceTo at hwp
  refine Mt.of (by decide) rfl (Nat.le_of_ble_eq_true rfl) ?_
  have hex := qEx.rf h
  have hnn : qn h = qn h + 0 := rfl
  have hzz : qz h = qz h + 0 := rfl
  refine x_lvE (lv2 := [(0, .ref l0), (1, .int l1), (2, .int l2)]) rfl ?_
  refine x_iload_n (pc := 0) dX4_distanceTo_0 rfl ?_
  refine x_aload_n (pc := 1) dX4_distanceTo_1 rfl ?_
  refine x_getI (pc := 2) dX4_distanceTo_2 qRX4_30 okl0 (by decide) ?_
  refine x_isub (pc := 5) dX4_distanceTo_5 ?_
  refine x_invS (As := [.int (l1 - (qI h l0 6))]) (st := []) (pc := 6) dX4_distanceTo_6 lRX4_81 fJ9_abs_0f7a4 sJ9_abs_0f7a4 rfl (Nat.le_of_ble_eq_true rfl) (q_R (by omega) (by decide)) (q_C hnn hzz (by decide) (by decide)) (sn_J9_abs_0f7a4 G (d + 0) (l1 - (qI h l0 6)) h _  hwp) (k_i (fun r2 h1 hwp cxh1 => ?_))
  have hex := hex.tr cxh1.1
  have hnn : qn h1 = qn h + 0 := by have := cxh1.2.1; omega
  have hzz : qz h1 = qz h + 0 := by have := cxh1.2.2; omega
  have okl0 := okl0.ex cxh1.1
  refine x_istore_n (lv2 := [(3, .int r2), (0, .ref l0), (1, .int l1), (2, .int l2)]) (pc := 9) dX4_distanceTo_9 (by decide) rfl ?_
  refine x_iload_n (pc := 10) dX4_distanceTo_10 rfl ?_
  refine x_iload_n (pc := 11) dX4_distanceTo_11 rfl ?_
  refine x_iload_n (pc := 12) dX4_distanceTo_12 rfl ?_
  refine x_isub (pc := 13) dX4_distanceTo_13 ?_
  refine x_invS (As := [.int r2, .int (l2 - r2)]) (st := []) (pc := 14) dX4_distanceTo_14 lRX4_84 fJ9_min_7cf53 sJ9_min_7cf53 rfl (Nat.le_of_ble_eq_true rfl) (q_R (by omega) (by decide)) (q_C hnn hzz (by decide) (by decide)) (sn_J9_min_7cf53 G (d + 0) r2 (l2 - r2) h1 _  hwp) (k_i (fun r4 h3 hwp cxh3 => ?_))
  have hex := hex.tr cxh3.1
  have hnn : qn h3 = qn h + 0 := by have := cxh3.2.1; omega
  have hzz : qz h3 = qz h + 0 := by have := cxh3.2.2; omega
  have okl0 := okl0.ex cxh3.1
  exact x_iret (pc := 17) dX4_distanceTo_17 rfl hex hnn hzz ⟨_, rfl, hwp⟩

theorem dX4_energyAt_0 : decode cX4_energyAt 0 = .ok (.aload_n 0, 1) := by decide +kernel
theorem dX4_energyAt_1 : decode cX4_energyAt 1 = .ok (.getfield 11, 3) := by decide +kernel
theorem dX4_energyAt_4 : decode cX4_energyAt 4 = .ok (.tableswitch 131 0 3 #[32, 49, 79, 111], 32) := by decide +kernel
theorem dX4_energyAt_36 : decode cX4_energyAt 36 = .ok (.aload_n 0, 1) := by decide +kernel
theorem dX4_energyAt_37 : decode cX4_energyAt 37 = .ok (.getfield 21, 3) := by decide +kernel
theorem dX4_energyAt_40 : decode cX4_energyAt 40 = .ok (.aload_n 0, 1) := by decide +kernel
theorem dX4_energyAt_41 : decode cX4_energyAt 41 = .ok (.iload_n 1, 1) := by decide +kernel
theorem dX4_energyAt_42 : decode cX4_energyAt 42 = .ok (.invokevirtual 65, 3) := by decide +kernel
theorem dX4_energyAt_45 : decode cX4_energyAt 45 = .ok (.imul, 1) := by decide +kernel
theorem dX4_energyAt_46 : decode cX4_energyAt 46 = .ok (.iload_n 1, 1) := by decide +kernel
theorem dX4_energyAt_47 : decode cX4_energyAt 47 = .ok (.iload_n 2, 1) := by decide +kernel
theorem dX4_energyAt_48 : decode cX4_energyAt 48 = .ok (.invokestatic 69, 3) := by decide +kernel
theorem dX4_energyAt_51 : decode cX4_energyAt 51 = .ok (.imul, 1) := by decide +kernel
theorem dX4_energyAt_52 : decode cX4_energyAt 52 = .ok (.ireturn, 1) := by decide +kernel
theorem dX4_energyAt_53 : decode cX4_energyAt 53 = .ok (.aload_n 0, 1) := by decide +kernel
theorem dX4_energyAt_54 : decode cX4_energyAt 54 = .ok (.iload_n 1, 1) := by decide +kernel
theorem dX4_energyAt_55 : decode cX4_energyAt 55 = .ok (.invokevirtual 61, 3) := by decide +kernel
theorem dX4_energyAt_58 : decode cX4_energyAt 58 = .ok (.ifCond .eq 23, 3) := by decide +kernel
theorem dX4_energyAt_61 : decode cX4_energyAt 61 = .ok (.bipush 10, 2) := by decide +kernel
theorem dX4_energyAt_63 : decode cX4_energyAt 63 = .ok (.aload_n 0, 1) := by decide +kernel
theorem dX4_energyAt_64 : decode cX4_energyAt 64 = .ok (.getfield 21, 3) := by decide +kernel
theorem dX4_energyAt_67 : decode cX4_energyAt 67 = .ok (.imul, 1) := by decide +kernel
theorem dX4_energyAt_68 : decode cX4_energyAt 68 = .ok (.iload_n 2, 1) := by decide +kernel
theorem dX4_energyAt_69 : decode cX4_energyAt 69 = .ok (.iconst 2, 1) := by decide +kernel
theorem dX4_energyAt_70 : decode cX4_energyAt 70 = .ok (.idiv, 1) := by decide +kernel
theorem dX4_energyAt_71 : decode cX4_energyAt 71 = .ok (.iload_n 1, 1) := by decide +kernel
theorem dX4_energyAt_72 : decode cX4_energyAt 72 = .ok (.iload_n 2, 1) := by decide +kernel
theorem dX4_energyAt_73 : decode cX4_energyAt 73 = .ok (.invokestatic 69, 3) := by decide +kernel
theorem dX4_energyAt_76 : decode cX4_energyAt 76 = .ok (.isub, 1) := by decide +kernel
theorem dX4_energyAt_77 : decode cX4_energyAt 77 = .ok (.imul, 1) := by decide +kernel
theorem dX4_energyAt_78 : decode cX4_energyAt 78 = .ok (.goto 4, 3) := by decide +kernel
theorem dX4_energyAt_81 : decode cX4_energyAt 81 = .ok (.iconst 0, 1) := by decide +kernel
theorem dX4_energyAt_82 : decode cX4_energyAt 82 = .ok (.ireturn, 1) := by decide +kernel
theorem dX4_energyAt_83 : decode cX4_energyAt 83 = .ok (.aload_n 0, 1) := by decide +kernel
theorem dX4_energyAt_84 : decode cX4_energyAt 84 = .ok (.iload_n 1, 1) := by decide +kernel
theorem dX4_energyAt_85 : decode cX4_energyAt 85 = .ok (.invokevirtual 61, 3) := by decide +kernel
theorem dX4_energyAt_88 : decode cX4_energyAt 88 = .ok (.ifCond .eq 7, 3) := by decide +kernel
theorem dX4_energyAt_91 : decode cX4_energyAt 91 = .ok (.iconst 0, 1) := by decide +kernel
theorem dX4_energyAt_92 : decode cX4_energyAt 92 = .ok (.goto 22, 3) := by decide +kernel
theorem dX4_energyAt_95 : decode cX4_energyAt 95 = .ok (.aload_n 0, 1) := by decide +kernel
theorem dX4_energyAt_96 : decode cX4_energyAt 96 = .ok (.getfield 21, 3) := by decide +kernel
theorem dX4_energyAt_99 : decode cX4_energyAt 99 = .ok (.ineg, 1) := by decide +kernel
theorem dX4_energyAt_100 : decode cX4_energyAt 100 = .ok (.iconst 0, 1) := by decide +kernel
theorem dX4_energyAt_101 : decode cX4_energyAt 101 = .ok (.bipush 6, 2) := by decide +kernel
theorem dX4_energyAt_103 : decode cX4_energyAt 103 = .ok (.aload_n 0, 1) := by decide +kernel
theorem dX4_energyAt_104 : decode cX4_energyAt 104 = .ok (.iload_n 1, 1) := by decide +kernel
theorem dX4_energyAt_105 : decode cX4_energyAt 105 = .ok (.iload_n 2, 1) := by decide +kernel
theorem dX4_energyAt_106 : decode cX4_energyAt 106 = .ok (.invokevirtual 73, 3) := by decide +kernel
theorem dX4_energyAt_109 : decode cX4_energyAt 109 = .ok (.isub, 1) := by decide +kernel
theorem dX4_energyAt_110 : decode cX4_energyAt 110 = .ok (.invokestatic 76, 3) := by decide +kernel
theorem dX4_energyAt_113 : decode cX4_energyAt 113 = .ok (.imul, 1) := by decide +kernel
theorem dX4_energyAt_114 : decode cX4_energyAt 114 = .ok (.ireturn, 1) := by decide +kernel
theorem dX4_energyAt_115 : decode cX4_energyAt 115 = .ok (.aload_n 0, 1) := by decide +kernel
theorem dX4_energyAt_116 : decode cX4_energyAt 116 = .ok (.iload_n 1, 1) := by decide +kernel
theorem dX4_energyAt_117 : decode cX4_energyAt 117 = .ok (.invokevirtual 61, 3) := by decide +kernel
theorem dX4_energyAt_120 : decode cX4_energyAt 120 = .ok (.ifCond .eq 13, 3) := by decide +kernel
theorem dX4_energyAt_123 : decode cX4_energyAt 123 = .ok (.bipush 40, 2) := by decide +kernel
theorem dX4_energyAt_125 : decode cX4_energyAt 125 = .ok (.aload_n 0, 1) := by decide +kernel
theorem dX4_energyAt_126 : decode cX4_energyAt 126 = .ok (.getfield 21, 3) := by decide +kernel
theorem dX4_energyAt_129 : decode cX4_energyAt 129 = .ok (.imul, 1) := by decide +kernel
theorem dX4_energyAt_130 : decode cX4_energyAt 130 = .ok (.goto 4, 3) := by decide +kernel
theorem dX4_energyAt_133 : decode cX4_energyAt 133 = .ok (.iconst 0, 1) := by decide +kernel
theorem dX4_energyAt_134 : decode cX4_energyAt 134 = .ok (.ireturn, 1) := by decide +kernel
theorem dX4_energyAt_135 : decode cX4_energyAt 135 = .ok (.iconst 0, 1) := by decide +kernel
theorem dX4_energyAt_136 : decode cX4_energyAt 136 = .ok (.ireturn, 1) := by decide +kernel
def wp_X4_energyAt (l0 : Nat) (l1 : Int32) (l2 : Int32) (h : PH) (Q : Int32 → PH → Prop) : Prop := (((qI h l0 0) = 0 → (wp_X4_armAt l0 l1 h (fun r3 h2 => (wp_X4_highOf l1 l2 h2 (fun r5 h4 => Q (((qI h l0 3) * r3) * r5) h4))))) ∧ ((qI h l0 0) = 1 → (wp_X4_isWithin l0 l1 h (fun r8 h7 => ((r8 = 0 → Q 0 h7) ∧ (¬ (r8 = 0) → (wp_X4_highOf l1 l2 h7 (fun r11 h10 => Q ((10 * (qI h7 l0 3)) * ((l2 / 2) - r11)) h10))))))) ∧ ((qI h l0 0) = 2 → (wp_X4_isWithin l0 l1 h (fun r14 h13 => ((r14 = 0 → (wp_X4_distanceTo l0 l1 l2 h13 (fun r17 h16 => (wp_J9_max_7cf53 0 (6 - r17) h16 (fun r19 h18 => Q ((-(qI h13 l0 3)) * r19) h18))))) ∧ (¬ (r14 = 0) → Q 0 h13))))) ∧ ((qI h l0 0) = 3 → (wp_X4_isWithin l0 l1 h (fun r22 h21 => ((r22 = 0 → Q 0 h21) ∧ (¬ (r22 = 0) → Q (40 * (qI h21 l0 3)) h21))))) ∧ (¬ (qI h l0 0) = 0 → ¬ (qI h l0 0) = 1 → ¬ (qI h l0 0) = 2 → ¬ (qI h l0 0) = 3 → Q 0 h))
set_option maxHeartbeats 4000000 in
set_option maxRecDepth 100000 in
theorem sn_X4_energyAt (G : GT) (d : Nat) (l0 : Nat) (l1 : Int32) (l2 : Int32) (h : PH) (Q : Int32 → PH → Prop) (okl0 : qOK h 4 l0) (hwp : wp_X4_energyAt l0 l1 l2 h Q) : Mt G (2 + d) 0 0 mX4_energyAt [.ref l0, .int l1, .int l2] h (qqi Q) := by
  unfold wp_X4_energyAt at hwp
  refine Mt.of (by decide) rfl (Nat.le_of_ble_eq_true rfl) ?_
  have hex := qEx.rf h
  have hnn : qn h = qn h + 0 := rfl
  have hzz : qz h = qz h + 0 := rfl
  refine x_lvE (lv2 := [(0, .ref l0), (1, .int l1), (2, .int l2)]) rfl ?_
  refine x_aload_n (pc := 0) dX4_energyAt_0 rfl ?_
  refine x_getI (pc := 1) dX4_energyAt_1 qRX4_11 okl0 (by decide) ?_
  by_cases c1 : (qI h l0 0) = 0
  · have hwp := hwp.1 c1
    refine x_tabIn (tgt := 36) (pc := 4) dX4_energyAt_4 (by rw [q_teq c1 (n := 0) (by decide)]; decide) (by rw [q_teq c1 (n := 0) (by decide)]; decide) (by rw [q_teq c1 (n := 0) (by decide)]; rfl) (by decide) ?_
    refine x_aload_n (pc := 36) dX4_energyAt_36 rfl ?_
    refine x_getI (pc := 37) dX4_energyAt_37 qRX4_21 okl0 (by decide) ?_
    refine x_aload_n (pc := 40) dX4_energyAt_40 rfl ?_
    refine x_iload_n (pc := 41) dX4_energyAt_41 rfl ?_
    refine x_invV (As := [.int l1]) (st := [.int (qI h l0 3)]) (pc := 42) dX4_energyAt_42 lRX4_65 fX4_armAt vX4_armAt okl0 rfl (Nat.le_of_ble_eq_true rfl) (q_R (by omega) (by decide)) (q_C hnn hzz (by decide) (by decide)) (sn_X4_armAt G (d + 0) l0 l1 h _ okl0 hwp) (k_i (fun r3 h2 hwp cxh2 => ?_))
    have hex := hex.tr cxh2.1
    have hnn : qn h2 = qn h + 0 := by have := cxh2.2.1; omega
    have hzz : qz h2 = qz h + 0 := by have := cxh2.2.2; omega
    have okl0 := okl0.ex cxh2.1
    refine x_imul (pc := 45) dX4_energyAt_45 ?_
    refine x_iload_n (pc := 46) dX4_energyAt_46 rfl ?_
    refine x_iload_n (pc := 47) dX4_energyAt_47 rfl ?_
    refine x_invS (As := [.int l1, .int l2]) (st := [.int ((qI h l0 3) * r3)]) (pc := 48) dX4_energyAt_48 lRX4_69 fX4_highOf sX4_highOf rfl (Nat.le_of_ble_eq_true rfl) (q_R (by omega) (by decide)) (q_C hnn hzz (by decide) (by decide)) (sn_X4_highOf G (d + 1) l1 l2 h2 _  hwp) (k_i (fun r5 h4 hwp cxh4 => ?_))
    have hex := hex.tr cxh4.1
    have hnn : qn h4 = qn h + 0 := by have := cxh4.2.1; omega
    have hzz : qz h4 = qz h + 0 := by have := cxh4.2.2; omega
    have okl0 := okl0.ex cxh4.1
    refine x_imul (pc := 51) dX4_energyAt_51 ?_
    exact x_iret (pc := 52) dX4_energyAt_52 rfl hex hnn hzz ⟨_, rfl, hwp⟩
  by_cases c6 : (qI h l0 0) = 1
  · have hwp := hwp.2.1 c6
    refine x_tabIn (tgt := 53) (pc := 4) dX4_energyAt_4 (by rw [q_teq c6 (n := 1) (by decide)]; decide) (by rw [q_teq c6 (n := 1) (by decide)]; decide) (by rw [q_teq c6 (n := 1) (by decide)]; rfl) (by decide) ?_
    refine x_aload_n (pc := 53) dX4_energyAt_53 rfl ?_
    refine x_iload_n (pc := 54) dX4_energyAt_54 rfl ?_
    refine x_invV (As := [.int l1]) (st := []) (pc := 55) dX4_energyAt_55 lRX4_61 fX4_isWithin vX4_isWithin okl0 rfl (Nat.le_of_ble_eq_true rfl) (q_R (by omega) (by decide)) (q_C hnn hzz (by decide) (by decide)) (sn_X4_isWithin G (d + 1) l0 l1 h _ okl0 hwp) (k_b (fun r8 h7 hwp zbr8 cxh7 => ?_))
    have hex := hex.tr cxh7.1
    have hnn : qn h7 = qn h + 0 := by have := cxh7.2.1; omega
    have hzz : qz h7 = qz h + 0 := by have := cxh7.2.2; omega
    have okl0 := okl0.ex cxh7.1
    refine x_if_eq (tgt := 81) (pc := 58) dX4_energyAt_58 (by decide) (fun c9 => ?_) (fun c9 => ?_)
    · have hwp := hwp.1 c9
      refine x_iconst (v := 0) (pc := 81) dX4_energyAt_81 (by decide) ?_
      exact x_iret (pc := 82) dX4_energyAt_82 rfl hex hnn hzz ⟨_, rfl, hwp⟩
    · have hwp := hwp.2 c9
      refine x_bipush (v := 10) (pc := 61) dX4_energyAt_61 (by decide) ?_
      refine x_aload_n (pc := 63) dX4_energyAt_63 rfl ?_
      refine x_getI (pc := 64) dX4_energyAt_64 qRX4_21 okl0 (by decide) ?_
      refine x_imul (pc := 67) dX4_energyAt_67 ?_
      refine x_iload_n (pc := 68) dX4_energyAt_68 rfl ?_
      refine x_iconst (v := 2) (pc := 69) dX4_energyAt_69 (by decide) ?_
      refine x_idiv (pc := 70) dX4_energyAt_70 (by decide) ?_
      refine x_iload_n (pc := 71) dX4_energyAt_71 rfl ?_
      refine x_iload_n (pc := 72) dX4_energyAt_72 rfl ?_
      refine x_invS (As := [.int l1, .int l2]) (st := [.int (l2 / 2), .int (10 * (qI h7 l0 3))]) (pc := 73) dX4_energyAt_73 lRX4_69 fX4_highOf sX4_highOf rfl (Nat.le_of_ble_eq_true rfl) (q_R (by omega) (by decide)) (q_C hnn hzz (by decide) (by decide)) (sn_X4_highOf G (d + 1) l1 l2 h7 _  hwp) (k_i (fun r11 h10 hwp cxh10 => ?_))
      have hex := hex.tr cxh10.1
      have hnn : qn h10 = qn h + 0 := by have := cxh10.2.1; omega
      have hzz : qz h10 = qz h + 0 := by have := cxh10.2.2; omega
      have okl0 := okl0.ex cxh10.1
      refine x_isub (pc := 76) dX4_energyAt_76 ?_
      refine x_imul (pc := 77) dX4_energyAt_77 ?_
      refine x_goto (tgt := 82) (pc := 78) dX4_energyAt_78 (by decide) ?_
      exact x_iret (pc := 82) dX4_energyAt_82 rfl hex hnn hzz ⟨_, rfl, hwp⟩
  by_cases c12 : (qI h l0 0) = 2
  · have hwp := hwp.2.2.1 c12
    refine x_tabIn (tgt := 83) (pc := 4) dX4_energyAt_4 (by rw [q_teq c12 (n := 2) (by decide)]; decide) (by rw [q_teq c12 (n := 2) (by decide)]; decide) (by rw [q_teq c12 (n := 2) (by decide)]; rfl) (by decide) ?_
    refine x_aload_n (pc := 83) dX4_energyAt_83 rfl ?_
    refine x_iload_n (pc := 84) dX4_energyAt_84 rfl ?_
    refine x_invV (As := [.int l1]) (st := []) (pc := 85) dX4_energyAt_85 lRX4_61 fX4_isWithin vX4_isWithin okl0 rfl (Nat.le_of_ble_eq_true rfl) (q_R (by omega) (by decide)) (q_C hnn hzz (by decide) (by decide)) (sn_X4_isWithin G (d + 1) l0 l1 h _ okl0 hwp) (k_b (fun r14 h13 hwp zbr14 cxh13 => ?_))
    have hex := hex.tr cxh13.1
    have hnn : qn h13 = qn h + 0 := by have := cxh13.2.1; omega
    have hzz : qz h13 = qz h + 0 := by have := cxh13.2.2; omega
    have okl0 := okl0.ex cxh13.1
    refine x_if_eq (tgt := 95) (pc := 88) dX4_energyAt_88 (by decide) (fun c15 => ?_) (fun c15 => ?_)
    · have hwp := hwp.1 c15
      refine x_aload_n (pc := 95) dX4_energyAt_95 rfl ?_
      refine x_getI (pc := 96) dX4_energyAt_96 qRX4_21 okl0 (by decide) ?_
      refine x_ineg (pc := 99) dX4_energyAt_99 ?_
      refine x_iconst (v := 0) (pc := 100) dX4_energyAt_100 (by decide) ?_
      refine x_bipush (v := 6) (pc := 101) dX4_energyAt_101 (by decide) ?_
      refine x_aload_n (pc := 103) dX4_energyAt_103 rfl ?_
      refine x_iload_n (pc := 104) dX4_energyAt_104 rfl ?_
      refine x_iload_n (pc := 105) dX4_energyAt_105 rfl ?_
      refine x_invV (As := [.int l1, .int l2]) (st := [.int 6, .int 0, .int (-(qI h13 l0 3))]) (pc := 106) dX4_energyAt_106 lRX4_73 fX4_distanceTo vX4_distanceTo okl0 rfl (Nat.le_of_ble_eq_true rfl) (q_R (by omega) (by decide)) (q_C hnn hzz (by decide) (by decide)) (sn_X4_distanceTo G (d + 0) l0 l1 l2 h13 _ okl0 hwp) (k_i (fun r17 h16 hwp cxh16 => ?_))
      have hex := hex.tr cxh16.1
      have hnn : qn h16 = qn h + 0 := by have := cxh16.2.1; omega
      have hzz : qz h16 = qz h + 0 := by have := cxh16.2.2; omega
      have okl0 := okl0.ex cxh16.1
      refine x_isub (pc := 109) dX4_energyAt_109 ?_
      refine x_invS (As := [.int 0, .int (6 - r17)]) (st := [.int (-(qI h13 l0 3))]) (pc := 110) dX4_energyAt_110 lRX4_76 fJ9_max_7cf53 sJ9_max_7cf53 rfl (Nat.le_of_ble_eq_true rfl) (q_R (by omega) (by decide)) (q_C hnn hzz (by decide) (by decide)) (sn_J9_max_7cf53 G (d + 1) 0 (6 - r17) h16 _  hwp) (k_i (fun r19 h18 hwp cxh18 => ?_))
      have hex := hex.tr cxh18.1
      have hnn : qn h18 = qn h + 0 := by have := cxh18.2.1; omega
      have hzz : qz h18 = qz h + 0 := by have := cxh18.2.2; omega
      have okl0 := okl0.ex cxh18.1
      refine x_imul (pc := 113) dX4_energyAt_113 ?_
      exact x_iret (pc := 114) dX4_energyAt_114 rfl hex hnn hzz ⟨_, rfl, hwp⟩
    · have hwp := hwp.2 c15
      refine x_iconst (v := 0) (pc := 91) dX4_energyAt_91 (by decide) ?_
      refine x_goto (tgt := 114) (pc := 92) dX4_energyAt_92 (by decide) ?_
      exact x_iret (pc := 114) dX4_energyAt_114 rfl hex hnn hzz ⟨_, rfl, hwp⟩
  by_cases c20 : (qI h l0 0) = 3
  · have hwp := hwp.2.2.2.1 c20
    refine x_tabIn (tgt := 115) (pc := 4) dX4_energyAt_4 (by rw [q_teq c20 (n := 3) (by decide)]; decide) (by rw [q_teq c20 (n := 3) (by decide)]; decide) (by rw [q_teq c20 (n := 3) (by decide)]; rfl) (by decide) ?_
    refine x_aload_n (pc := 115) dX4_energyAt_115 rfl ?_
    refine x_iload_n (pc := 116) dX4_energyAt_116 rfl ?_
    refine x_invV (As := [.int l1]) (st := []) (pc := 117) dX4_energyAt_117 lRX4_61 fX4_isWithin vX4_isWithin okl0 rfl (Nat.le_of_ble_eq_true rfl) (q_R (by omega) (by decide)) (q_C hnn hzz (by decide) (by decide)) (sn_X4_isWithin G (d + 1) l0 l1 h _ okl0 hwp) (k_b (fun r22 h21 hwp zbr22 cxh21 => ?_))
    have hex := hex.tr cxh21.1
    have hnn : qn h21 = qn h + 0 := by have := cxh21.2.1; omega
    have hzz : qz h21 = qz h + 0 := by have := cxh21.2.2; omega
    have okl0 := okl0.ex cxh21.1
    refine x_if_eq (tgt := 133) (pc := 120) dX4_energyAt_120 (by decide) (fun c23 => ?_) (fun c23 => ?_)
    · have hwp := hwp.1 c23
      refine x_iconst (v := 0) (pc := 133) dX4_energyAt_133 (by decide) ?_
      exact x_iret (pc := 134) dX4_energyAt_134 rfl hex hnn hzz ⟨_, rfl, hwp⟩
    · have hwp := hwp.2 c23
      refine x_bipush (v := 40) (pc := 123) dX4_energyAt_123 (by decide) ?_
      refine x_aload_n (pc := 125) dX4_energyAt_125 rfl ?_
      refine x_getI (pc := 126) dX4_energyAt_126 qRX4_21 okl0 (by decide) ?_
      refine x_imul (pc := 129) dX4_energyAt_129 ?_
      refine x_goto (tgt := 134) (pc := 130) dX4_energyAt_130 (by decide) ?_
      exact x_iret (pc := 134) dX4_energyAt_134 rfl hex hnn hzz ⟨_, rfl, hwp⟩
  have hwp := hwp.2.2.2.2 c1 c6 c12 c20
  refine x_tabOut (tgt := 135) (pc := 4) dX4_energyAt_4 (by have := q_tne c1 (n := 0) (by decide); have := q_tne c6 (n := 1) (by decide); have := q_tne c12 (n := 2) (by decide); have := q_tne c20 (n := 3) (by decide); omega) (by decide) ?_
  refine x_iconst (v := 0) (pc := 135) dX4_energyAt_135 (by decide) ?_
  exact x_iret (pc := 136) dX4_energyAt_136 rfl hex hnn hzz ⟨_, rfl, hwp⟩

theorem dX4_lawCounts_0 : decode cX4_lawCounts 0 = .ok (.aload_n 0, 1) := by decide +kernel
theorem dX4_lawCounts_1 : decode cX4_lawCounts 1 = .ok (.getfield 11, 3) := by decide +kernel
theorem dX4_lawCounts_4 : decode cX4_lawCounts 4 = .ok (.lookupswitch 66 #[(0, 28), (2, 47)], 28) := by decide +kernel
theorem dX4_lawCounts_32 : decode cX4_lawCounts 32 = .ok (.iload_n 2, 1) := by decide +kernel
theorem dX4_lawCounts_33 : decode cX4_lawCounts 33 = .ok (.iload_n 3, 1) := by decide +kernel
theorem dX4_lawCounts_34 : decode cX4_lawCounts 34 = .ok (.invokestatic 69, 3) := by decide +kernel
theorem dX4_lawCounts_37 : decode cX4_lawCounts 37 = .ok (.iload_n 1, 1) := by decide +kernel
theorem dX4_lawCounts_38 : decode cX4_lawCounts 38 = .ok (.iload_n 3, 1) := by decide +kernel
theorem dX4_lawCounts_39 : decode cX4_lawCounts 39 = .ok (.invokestatic 69, 3) := by decide +kernel
theorem dX4_lawCounts_42 : decode cX4_lawCounts 42 = .ok (.if_icmp .le 7, 3) := by decide +kernel
theorem dX4_lawCounts_45 : decode cX4_lawCounts 45 = .ok (.iconst 1, 1) := by decide +kernel
theorem dX4_lawCounts_46 : decode cX4_lawCounts 46 = .ok (.goto 4, 3) := by decide +kernel
theorem dX4_lawCounts_49 : decode cX4_lawCounts 49 = .ok (.iconst 0, 1) := by decide +kernel
theorem dX4_lawCounts_50 : decode cX4_lawCounts 50 = .ok (.ireturn, 1) := by decide +kernel
theorem dX4_lawCounts_51 : decode cX4_lawCounts 51 = .ok (.aload_n 0, 1) := by decide +kernel
theorem dX4_lawCounts_52 : decode cX4_lawCounts 52 = .ok (.iload_n 1, 1) := by decide +kernel
theorem dX4_lawCounts_53 : decode cX4_lawCounts 53 = .ok (.invokevirtual 61, 3) := by decide +kernel
theorem dX4_lawCounts_56 : decode cX4_lawCounts 56 = .ok (.aload_n 0, 1) := by decide +kernel
theorem dX4_lawCounts_57 : decode cX4_lawCounts 57 = .ok (.iload_n 2, 1) := by decide +kernel
theorem dX4_lawCounts_58 : decode cX4_lawCounts 58 = .ok (.invokevirtual 61, 3) := by decide +kernel
theorem dX4_lawCounts_61 : decode cX4_lawCounts 61 = .ok (.if_icmp .eq 7, 3) := by decide +kernel
theorem dX4_lawCounts_64 : decode cX4_lawCounts 64 = .ok (.iconst 1, 1) := by decide +kernel
theorem dX4_lawCounts_65 : decode cX4_lawCounts 65 = .ok (.goto 4, 3) := by decide +kernel
theorem dX4_lawCounts_68 : decode cX4_lawCounts 68 = .ok (.iconst 0, 1) := by decide +kernel
theorem dX4_lawCounts_69 : decode cX4_lawCounts 69 = .ok (.ireturn, 1) := by decide +kernel
theorem dX4_lawCounts_70 : decode cX4_lawCounts 70 = .ok (.aload_n 0, 1) := by decide +kernel
theorem dX4_lawCounts_71 : decode cX4_lawCounts 71 = .ok (.iload_n 1, 1) := by decide +kernel
theorem dX4_lawCounts_72 : decode cX4_lawCounts 72 = .ok (.invokevirtual 61, 3) := by decide +kernel
theorem dX4_lawCounts_75 : decode cX4_lawCounts 75 = .ok (.ifCond .ne 15, 3) := by decide +kernel
theorem dX4_lawCounts_78 : decode cX4_lawCounts 78 = .ok (.aload_n 0, 1) := by decide +kernel
theorem dX4_lawCounts_79 : decode cX4_lawCounts 79 = .ok (.iload_n 2, 1) := by decide +kernel
theorem dX4_lawCounts_80 : decode cX4_lawCounts 80 = .ok (.invokevirtual 61, 3) := by decide +kernel
theorem dX4_lawCounts_83 : decode cX4_lawCounts 83 = .ok (.ifCond .eq 7, 3) := by decide +kernel
theorem dX4_lawCounts_86 : decode cX4_lawCounts 86 = .ok (.iconst 1, 1) := by decide +kernel
theorem dX4_lawCounts_87 : decode cX4_lawCounts 87 = .ok (.goto 4, 3) := by decide +kernel
theorem dX4_lawCounts_90 : decode cX4_lawCounts 90 = .ok (.iconst 0, 1) := by decide +kernel
theorem dX4_lawCounts_91 : decode cX4_lawCounts 91 = .ok (.ireturn, 1) := by decide +kernel
def wp_X4_lawCounts (l0 : Nat) (l1 : Int32) (l2 : Int32) (l3 : Int32) (h : PH) (Q : Int32 → PH → Prop) : Prop := (((qI h l0 0) = 0 → (wp_X4_highOf l2 l3 h (fun r3 h2 => (wp_X4_highOf l1 l3 h2 (fun r5 h4 => ((r3 ≤ r5 → Q 0 h4) ∧ (¬ (r3 ≤ r5) → Q 1 h4))))))) ∧ ((qI h l0 0) = 2 → (wp_X4_isWithin l0 l1 h (fun r9 h8 => (wp_X4_isWithin l0 l2 h8 (fun r11 h10 => ((r9 = r11 → Q 0 h10) ∧ (¬ (r9 = r11) → Q 1 h10))))))) ∧ (¬ (qI h l0 0) = 0 → ¬ (qI h l0 0) = 2 → (wp_X4_isWithin l0 l1 h (fun r14 h13 => ((¬ r14 = 0 → Q 0 h13) ∧ (r14 = 0 → (wp_X4_isWithin l0 l2 h13 (fun r17 h16 => ((r17 = 0 → Q 0 h16) ∧ (¬ (r17 = 0) → Q 1 h16))))))))))
set_option maxHeartbeats 4000000 in
set_option maxRecDepth 100000 in
theorem sn_X4_lawCounts (G : GT) (d : Nat) (l0 : Nat) (l1 : Int32) (l2 : Int32) (l3 : Int32) (h : PH) (Q : Int32 → PH → Prop) (okl0 : qOK h 4 l0) (hwp : wp_X4_lawCounts l0 l1 l2 l3 h Q) : Mt G (1 + d) 0 0 mX4_lawCounts [.ref l0, .int l1, .int l2, .int l3] h (qqb Q) := by
  unfold wp_X4_lawCounts at hwp
  refine Mt.of (by decide) rfl (Nat.le_of_ble_eq_true rfl) ?_
  have hex := qEx.rf h
  have hnn : qn h = qn h + 0 := rfl
  have hzz : qz h = qz h + 0 := rfl
  refine x_lvE (lv2 := [(0, .ref l0), (1, .int l1), (2, .int l2), (3, .int l3)]) rfl ?_
  refine x_aload_n (pc := 0) dX4_lawCounts_0 rfl ?_
  refine x_getI (pc := 1) dX4_lawCounts_1 qRX4_11 okl0 (by decide) ?_
  by_cases c1 : (qI h l0 0) = 0
  · have hwp := hwp.1 c1
    refine x_lookup (tgt := 32) (pc := 4) dX4_lawCounts_4 (by decide) (by rw [q_teq c1 (n := 0) (by decide)]; try rfl) (by decide) ?_
    refine x_iload_n (pc := 32) dX4_lawCounts_32 rfl ?_
    refine x_iload_n (pc := 33) dX4_lawCounts_33 rfl ?_
    refine x_invS (As := [.int l2, .int l3]) (st := []) (pc := 34) dX4_lawCounts_34 lRX4_69 fX4_highOf sX4_highOf rfl (Nat.le_of_ble_eq_true rfl) (q_R (by omega) (by decide)) (q_C hnn hzz (by decide) (by decide)) (sn_X4_highOf G (d + 0) l2 l3 h _  hwp) (k_i (fun r3 h2 hwp cxh2 => ?_))
    have hex := hex.tr cxh2.1
    have hnn : qn h2 = qn h + 0 := by have := cxh2.2.1; omega
    have hzz : qz h2 = qz h + 0 := by have := cxh2.2.2; omega
    have okl0 := okl0.ex cxh2.1
    refine x_iload_n (pc := 37) dX4_lawCounts_37 rfl ?_
    refine x_iload_n (pc := 38) dX4_lawCounts_38 rfl ?_
    refine x_invS (As := [.int l1, .int l3]) (st := [.int r3]) (pc := 39) dX4_lawCounts_39 lRX4_69 fX4_highOf sX4_highOf rfl (Nat.le_of_ble_eq_true rfl) (q_R (by omega) (by decide)) (q_C hnn hzz (by decide) (by decide)) (sn_X4_highOf G (d + 0) l1 l3 h2 _  hwp) (k_i (fun r5 h4 hwp cxh4 => ?_))
    have hex := hex.tr cxh4.1
    have hnn : qn h4 = qn h + 0 := by have := cxh4.2.1; omega
    have hzz : qz h4 = qz h + 0 := by have := cxh4.2.2; omega
    have okl0 := okl0.ex cxh4.1
    refine x_icmp_le (tgt := 49) (pc := 42) dX4_lawCounts_42 (by decide) (fun c6 => ?_) (fun c6 => ?_)
    · have hwp := hwp.1 c6
      refine x_iconst (v := 0) (pc := 49) dX4_lawCounts_49 (by decide) ?_
      exact x_zret (pc := 50) dX4_lawCounts_50 rfl hex hnn hzz (by decide) ⟨_, rfl, by decide, hwp⟩
    · have hwp := hwp.2 c6
      refine x_iconst (v := 1) (pc := 45) dX4_lawCounts_45 (by decide) ?_
      refine x_goto (tgt := 50) (pc := 46) dX4_lawCounts_46 (by decide) ?_
      exact x_zret (pc := 50) dX4_lawCounts_50 rfl hex hnn hzz (by decide) ⟨_, rfl, by decide, hwp⟩
  by_cases c7 : (qI h l0 0) = 2
  · have hwp := hwp.2.1 c7
    refine x_lookup (tgt := 51) (pc := 4) dX4_lawCounts_4 (by decide) (by rw [q_teq c7 (n := 2) (by decide)]; try rfl) (by decide) ?_
    refine x_aload_n (pc := 51) dX4_lawCounts_51 rfl ?_
    refine x_iload_n (pc := 52) dX4_lawCounts_52 rfl ?_
    refine x_invV (As := [.int l1]) (st := []) (pc := 53) dX4_lawCounts_53 lRX4_61 fX4_isWithin vX4_isWithin okl0 rfl (Nat.le_of_ble_eq_true rfl) (q_R (by omega) (by decide)) (q_C hnn hzz (by decide) (by decide)) (sn_X4_isWithin G (d + 0) l0 l1 h _ okl0 hwp) (k_b (fun r9 h8 hwp zbr9 cxh8 => ?_))
    have hex := hex.tr cxh8.1
    have hnn : qn h8 = qn h + 0 := by have := cxh8.2.1; omega
    have hzz : qz h8 = qz h + 0 := by have := cxh8.2.2; omega
    have okl0 := okl0.ex cxh8.1
    refine x_aload_n (pc := 56) dX4_lawCounts_56 rfl ?_
    refine x_iload_n (pc := 57) dX4_lawCounts_57 rfl ?_
    refine x_invV (As := [.int l2]) (st := [.int r9]) (pc := 58) dX4_lawCounts_58 lRX4_61 fX4_isWithin vX4_isWithin okl0 rfl (Nat.le_of_ble_eq_true rfl) (q_R (by omega) (by decide)) (q_C hnn hzz (by decide) (by decide)) (sn_X4_isWithin G (d + 0) l0 l2 h8 _ okl0 hwp) (k_b (fun r11 h10 hwp zbr11 cxh10 => ?_))
    have hex := hex.tr cxh10.1
    have hnn : qn h10 = qn h + 0 := by have := cxh10.2.1; omega
    have hzz : qz h10 = qz h + 0 := by have := cxh10.2.2; omega
    have okl0 := okl0.ex cxh10.1
    refine x_icmp_eq (tgt := 68) (pc := 61) dX4_lawCounts_61 (by decide) (fun c12 => ?_) (fun c12 => ?_)
    · have hwp := hwp.1 c12
      refine x_iconst (v := 0) (pc := 68) dX4_lawCounts_68 (by decide) ?_
      exact x_zret (pc := 69) dX4_lawCounts_69 rfl hex hnn hzz (by decide) ⟨_, rfl, by decide, hwp⟩
    · have hwp := hwp.2 c12
      refine x_iconst (v := 1) (pc := 64) dX4_lawCounts_64 (by decide) ?_
      refine x_goto (tgt := 69) (pc := 65) dX4_lawCounts_65 (by decide) ?_
      exact x_zret (pc := 69) dX4_lawCounts_69 rfl hex hnn hzz (by decide) ⟨_, rfl, by decide, hwp⟩
  have hwp := hwp.2.2 c1 c7
  refine x_lookup (tgt := 70) (pc := 4) dX4_lawCounts_4 (by decide) (by simp only [Op.lookupswitch.offset]; rw [if_neg (fun w => q_tne c1 (n := 0) (by decide) w.symm), if_neg (fun w => q_tne c7 (n := 2) (by decide) w.symm)]) (by decide) ?_
  refine x_aload_n (pc := 70) dX4_lawCounts_70 rfl ?_
  refine x_iload_n (pc := 71) dX4_lawCounts_71 rfl ?_
  refine x_invV (As := [.int l1]) (st := []) (pc := 72) dX4_lawCounts_72 lRX4_61 fX4_isWithin vX4_isWithin okl0 rfl (Nat.le_of_ble_eq_true rfl) (q_R (by omega) (by decide)) (q_C hnn hzz (by decide) (by decide)) (sn_X4_isWithin G (d + 0) l0 l1 h _ okl0 hwp) (k_b (fun r14 h13 hwp zbr14 cxh13 => ?_))
  have hex := hex.tr cxh13.1
  have hnn : qn h13 = qn h + 0 := by have := cxh13.2.1; omega
  have hzz : qz h13 = qz h + 0 := by have := cxh13.2.2; omega
  have okl0 := okl0.ex cxh13.1
  refine x_if_ne (tgt := 90) (pc := 75) dX4_lawCounts_75 (by decide) (fun c15 => ?_) (fun c15 => ?_)
  · have hwp := hwp.1 c15
    refine x_iconst (v := 0) (pc := 90) dX4_lawCounts_90 (by decide) ?_
    exact x_zret (pc := 91) dX4_lawCounts_91 rfl hex hnn hzz (by decide) ⟨_, rfl, by decide, hwp⟩
  · have hwp := hwp.2 c15
    refine x_aload_n (pc := 78) dX4_lawCounts_78 rfl ?_
    refine x_iload_n (pc := 79) dX4_lawCounts_79 rfl ?_
    refine x_invV (As := [.int l2]) (st := []) (pc := 80) dX4_lawCounts_80 lRX4_61 fX4_isWithin vX4_isWithin okl0 rfl (Nat.le_of_ble_eq_true rfl) (q_R (by omega) (by decide)) (q_C hnn hzz (by decide) (by decide)) (sn_X4_isWithin G (d + 0) l0 l2 h13 _ okl0 hwp) (k_b (fun r17 h16 hwp zbr17 cxh16 => ?_))
    have hex := hex.tr cxh16.1
    have hnn : qn h16 = qn h + 0 := by have := cxh16.2.1; omega
    have hzz : qz h16 = qz h + 0 := by have := cxh16.2.2; omega
    have okl0 := okl0.ex cxh16.1
    refine x_if_eq (tgt := 90) (pc := 83) dX4_lawCounts_83 (by decide) (fun c18 => ?_) (fun c18 => ?_)
    · have hwp := hwp.1 c18
      refine x_iconst (v := 0) (pc := 90) dX4_lawCounts_90 (by decide) ?_
      exact x_zret (pc := 91) dX4_lawCounts_91 rfl hex hnn hzz (by decide) ⟨_, rfl, by decide, hwp⟩
    · have hwp := hwp.2 c18
      refine x_iconst (v := 1) (pc := 86) dX4_lawCounts_86 (by decide) ?_
      refine x_goto (tgt := 91) (pc := 87) dX4_lawCounts_87 (by decide) ?_
      exact x_zret (pc := 91) dX4_lawCounts_91 rfl hex hnn hzz (by decide) ⟨_, rfl, by decide, hwp⟩

theorem dX4_givesIn_0 : decode cX4_givesIn 0 = .ok (.aload_n 0, 1) := by decide +kernel
theorem dX4_givesIn_1 : decode cX4_givesIn 1 = .ok (.getfield 11, 3) := by decide +kernel
theorem dX4_givesIn_4 : decode cX4_givesIn 4 = .ok (.iconst 4, 1) := by decide +kernel
theorem dX4_givesIn_5 : decode cX4_givesIn 5 = .ok (.if_icmp .ne 20, 3) := by decide +kernel
theorem dX4_givesIn_8 : decode cX4_givesIn 8 = .ok (.iload_n 1, 1) := by decide +kernel
theorem dX4_givesIn_9 : decode cX4_givesIn 9 = .ok (.aload_n 0, 1) := by decide +kernel
theorem dX4_givesIn_10 : decode cX4_givesIn 10 = .ok (.getfield 18, 3) := by decide +kernel
theorem dX4_givesIn_13 : decode cX4_givesIn 13 = .ok (.if_icmp .ne 10, 3) := by decide +kernel
theorem dX4_givesIn_16 : decode cX4_givesIn 16 = .ok (.aload_n 0, 1) := by decide +kernel
theorem dX4_givesIn_17 : decode cX4_givesIn 17 = .ok (.getfield 21, 3) := by decide +kernel
theorem dX4_givesIn_20 : decode cX4_givesIn 20 = .ok (.goto 4, 3) := by decide +kernel
theorem dX4_givesIn_23 : decode cX4_givesIn 23 = .ok (.iconst 0, 1) := by decide +kernel
theorem dX4_givesIn_24 : decode cX4_givesIn 24 = .ok (.ireturn, 1) := by decide +kernel
theorem dX4_givesIn_25 : decode cX4_givesIn 25 = .ok (.aload_n 0, 1) := by decide +kernel
theorem dX4_givesIn_26 : decode cX4_givesIn 26 = .ok (.iload_n 1, 1) := by decide +kernel
theorem dX4_givesIn_27 : decode cX4_givesIn 27 = .ok (.iload_n 3, 1) := by decide +kernel
theorem dX4_givesIn_28 : decode cX4_givesIn 28 = .ok (.invokevirtual 87, 3) := by decide +kernel
theorem dX4_givesIn_31 : decode cX4_givesIn 31 = .ok (.istore 4, 2) := by decide +kernel
theorem dX4_givesIn_33 : decode cX4_givesIn 33 = .ok (.iload 4, 2) := by decide +kernel
theorem dX4_givesIn_35 : decode cX4_givesIn 35 = .ok (.iload_n 3, 1) := by decide +kernel
theorem dX4_givesIn_36 : decode cX4_givesIn 36 = .ok (.invokestatic 90, 3) := by decide +kernel
theorem dX4_givesIn_39 : decode cX4_givesIn 39 = .ok (.istore 5, 2) := by decide +kernel
theorem dX4_givesIn_41 : decode cX4_givesIn 41 = .ok (.aload_n 0, 1) := by decide +kernel
theorem dX4_givesIn_42 : decode cX4_givesIn 42 = .ok (.iload 4, 2) := by decide +kernel
theorem dX4_givesIn_44 : decode cX4_givesIn 44 = .ok (.iload_n 3, 1) := by decide +kernel
theorem dX4_givesIn_45 : decode cX4_givesIn 45 = .ok (.invokevirtual 93, 3) := by decide +kernel
theorem dX4_givesIn_48 : decode cX4_givesIn 48 = .ok (.aload_n 0, 1) := by decide +kernel
theorem dX4_givesIn_49 : decode cX4_givesIn 49 = .ok (.iload 5, 2) := by decide +kernel
theorem dX4_givesIn_51 : decode cX4_givesIn 51 = .ok (.iload_n 3, 1) := by decide +kernel
theorem dX4_givesIn_52 : decode cX4_givesIn 52 = .ok (.invokevirtual 93, 3) := by decide +kernel
theorem dX4_givesIn_55 : decode cX4_givesIn 55 = .ok (.isub, 1) := by decide +kernel
theorem dX4_givesIn_56 : decode cX4_givesIn 56 = .ok (.istore 6, 2) := by decide +kernel
theorem dX4_givesIn_58 : decode cX4_givesIn 58 = .ok (.iload_n 2, 1) := by decide +kernel
theorem dX4_givesIn_59 : decode cX4_givesIn 59 = .ok (.aload_n 0, 1) := by decide +kernel
theorem dX4_givesIn_60 : decode cX4_givesIn 60 = .ok (.invokevirtual 96, 3) := by decide +kernel
theorem dX4_givesIn_63 : decode cX4_givesIn 63 = .ok (.iand, 1) := by decide +kernel
theorem dX4_givesIn_64 : decode cX4_givesIn 64 = .ok (.ifCond .eq 15, 3) := by decide +kernel
theorem dX4_givesIn_67 : decode cX4_givesIn 67 = .ok (.aload_n 0, 1) := by decide +kernel
theorem dX4_givesIn_68 : decode cX4_givesIn 68 = .ok (.iload 4, 2) := by decide +kernel
theorem dX4_givesIn_70 : decode cX4_givesIn 70 = .ok (.iload 5, 2) := by decide +kernel
theorem dX4_givesIn_72 : decode cX4_givesIn 72 = .ok (.iload_n 3, 1) := by decide +kernel
theorem dX4_givesIn_73 : decode cX4_givesIn 73 = .ok (.invokevirtual 100, 3) := by decide +kernel
theorem dX4_givesIn_76 : decode cX4_givesIn 76 = .ok (.ifCond .ne 6, 3) := by decide +kernel
theorem dX4_givesIn_79 : decode cX4_givesIn 79 = .ok (.iload 6, 2) := by decide +kernel
theorem dX4_givesIn_81 : decode cX4_givesIn 81 = .ok (.ireturn, 1) := by decide +kernel
theorem dX4_givesIn_82 : decode cX4_givesIn 82 = .ok (.aload_n 0, 1) := by decide +kernel
theorem dX4_givesIn_83 : decode cX4_givesIn 83 = .ok (.getfield 11, 3) := by decide +kernel
theorem dX4_givesIn_86 : decode cX4_givesIn 86 = .ok (.ifCond .ne 10, 3) := by decide +kernel
theorem dX4_givesIn_89 : decode cX4_givesIn 89 = .ok (.iload 6, 2) := by decide +kernel
theorem dX4_givesIn_91 : decode cX4_givesIn 91 = .ok (.iconst 2, 1) := by decide +kernel
theorem dX4_givesIn_92 : decode cX4_givesIn 92 = .ok (.idiv, 1) := by decide +kernel
theorem dX4_givesIn_93 : decode cX4_givesIn 93 = .ok (.goto 4, 3) := by decide +kernel
theorem dX4_givesIn_96 : decode cX4_givesIn 96 = .ok (.iconst 0, 1) := by decide +kernel
theorem dX4_givesIn_97 : decode cX4_givesIn 97 = .ok (.ireturn, 1) := by decide +kernel
def wp_X4_givesIn (l0 : Nat) (l1 : Int32) (l2 : Int32) (l3 : Int32) (h : PH) (Q : Int32 → PH → Prop) : Prop := ((¬ (qI h l0 0) = 4 → (wp_X4_placeAt l0 l1 l3 h (fun r3 h2 => (wp_X4_placeBehind r3 l3 h2 (fun r5 h4 => (wp_X4_energyAt l0 r3 l3 h4 (fun r7 h6 => (wp_X4_energyAt l0 r5 l3 h6 (fun r9 h8 => ∀ v10 : Int32, v10 = r7 - r9 → (wp_X4_law l0 h8 (fun r12 h11 => (((l2 &&& r12) = 0 → Q v10 h11) ∧ (¬ ((l2 &&& r12) = 0) → (wp_X4_lawCounts l0 r3 r5 l3 h11 (fun r15 h14 => ((¬ r15 = 0 → ((¬ (qI h14 l0 0) = 0 → Q 0 h14) ∧ ((qI h14 l0 0) = 0 → Q (v10 / 2) h14))) ∧ (r15 = 0 → Q v10 h14))))))))))))))))) ∧ ((qI h l0 0) = 4 → ((¬ l1 = (qI h l0 2) → Q 0 h) ∧ (l1 = (qI h l0 2) → Q (qI h l0 3) h))))
set_option maxHeartbeats 4000000 in
set_option maxRecDepth 100000 in
theorem sn_X4_givesIn (G : GT) (d : Nat) (l0 : Nat) (l1 : Int32) (l2 : Int32) (l3 : Int32) (h : PH) (Q : Int32 → PH → Prop) (okl0 : qOK h 4 l0) (hwp : wp_X4_givesIn l0 l1 l2 l3 h Q) : Mt G (3 + d) 0 0 mX4_givesIn [.ref l0, .int l1, .int l2, .int l3] h (qqi Q) := by
  unfold wp_X4_givesIn at hwp
  refine Mt.of (by decide) rfl (Nat.le_of_ble_eq_true rfl) ?_
  have hex := qEx.rf h
  have hnn : qn h = qn h + 0 := rfl
  have hzz : qz h = qz h + 0 := rfl
  refine x_lvE (lv2 := [(0, .ref l0), (1, .int l1), (2, .int l2), (3, .int l3)]) rfl ?_
  refine x_aload_n (pc := 0) dX4_givesIn_0 rfl ?_
  refine x_getI (pc := 1) dX4_givesIn_1 qRX4_11 okl0 (by decide) ?_
  refine x_iconst (v := 4) (pc := 4) dX4_givesIn_4 (by decide) ?_
  refine x_icmp_ne (tgt := 25) (pc := 5) dX4_givesIn_5 (by decide) (fun c1 => ?_) (fun c1 => ?_)
  · have hwp := hwp.1 c1
    refine x_aload_n (pc := 25) dX4_givesIn_25 rfl ?_
    refine x_iload_n (pc := 26) dX4_givesIn_26 rfl ?_
    refine x_iload_n (pc := 27) dX4_givesIn_27 rfl ?_
    refine x_invV (As := [.int l1, .int l3]) (st := []) (pc := 28) dX4_givesIn_28 lRX4_87 fX4_placeAt vX4_placeAt okl0 rfl (Nat.le_of_ble_eq_true rfl) (q_R (by omega) (by decide)) (q_C hnn hzz (by decide) (by decide)) (sn_X4_placeAt G (d + 2) l0 l1 l3 h _ okl0 hwp) (k_i (fun r3 h2 hwp cxh2 => ?_))
    have hex := hex.tr cxh2.1
    have hnn : qn h2 = qn h + 0 := by have := cxh2.2.1; omega
    have hzz : qz h2 = qz h + 0 := by have := cxh2.2.2; omega
    have okl0 := okl0.ex cxh2.1
    refine x_istore (lv2 := [(4, .int r3), (0, .ref l0), (1, .int l1), (2, .int l2), (3, .int l3)]) (pc := 31) dX4_givesIn_31 (by decide) rfl ?_
    refine x_iload (pc := 33) dX4_givesIn_33 rfl ?_
    refine x_iload_n (pc := 35) dX4_givesIn_35 rfl ?_
    refine x_invS (As := [.int r3, .int l3]) (st := []) (pc := 36) dX4_givesIn_36 lRX4_90 fX4_placeBehind sX4_placeBehind rfl (Nat.le_of_ble_eq_true rfl) (q_R (by omega) (by decide)) (q_C hnn hzz (by decide) (by decide)) (sn_X4_placeBehind G (d + 2) r3 l3 h2 _  hwp) (k_i (fun r5 h4 hwp cxh4 => ?_))
    have hex := hex.tr cxh4.1
    have hnn : qn h4 = qn h + 0 := by have := cxh4.2.1; omega
    have hzz : qz h4 = qz h + 0 := by have := cxh4.2.2; omega
    have okl0 := okl0.ex cxh4.1
    refine x_istore (lv2 := [(5, .int r5), (4, .int r3), (0, .ref l0), (1, .int l1), (2, .int l2), (3, .int l3)]) (pc := 39) dX4_givesIn_39 (by decide) rfl ?_
    refine x_aload_n (pc := 41) dX4_givesIn_41 rfl ?_
    refine x_iload (pc := 42) dX4_givesIn_42 rfl ?_
    refine x_iload_n (pc := 44) dX4_givesIn_44 rfl ?_
    refine x_invV (As := [.int r3, .int l3]) (st := []) (pc := 45) dX4_givesIn_45 lRX4_93 fX4_energyAt vX4_energyAt okl0 rfl (Nat.le_of_ble_eq_true rfl) (q_R (by omega) (by decide)) (q_C hnn hzz (by decide) (by decide)) (sn_X4_energyAt G (d + 0) l0 r3 l3 h4 _ okl0 hwp) (k_i (fun r7 h6 hwp cxh6 => ?_))
    have hex := hex.tr cxh6.1
    have hnn : qn h6 = qn h + 0 := by have := cxh6.2.1; omega
    have hzz : qz h6 = qz h + 0 := by have := cxh6.2.2; omega
    have okl0 := okl0.ex cxh6.1
    refine x_aload_n (pc := 48) dX4_givesIn_48 rfl ?_
    refine x_iload (pc := 49) dX4_givesIn_49 rfl ?_
    refine x_iload_n (pc := 51) dX4_givesIn_51 rfl ?_
    refine x_invV (As := [.int r5, .int l3]) (st := [.int r7]) (pc := 52) dX4_givesIn_52 lRX4_93 fX4_energyAt vX4_energyAt okl0 rfl (Nat.le_of_ble_eq_true rfl) (q_R (by omega) (by decide)) (q_C hnn hzz (by decide) (by decide)) (sn_X4_energyAt G (d + 0) l0 r5 l3 h6 _ okl0 hwp) (k_i (fun r9 h8 hwp cxh8 => ?_))
    have hex := hex.tr cxh8.1
    have hnn : qn h8 = qn h + 0 := by have := cxh8.2.1; omega
    have hzz : qz h8 = qz h + 0 := by have := cxh8.2.2; omega
    have okl0 := okl0.ex cxh8.1
    refine x_isub (pc := 55) dX4_givesIn_55 ?_
    refine x_nmI (fun v10 ev10 => ?_)
    have hwp := hwp v10 ev10
    refine x_istore (lv2 := [(6, .int v10), (5, .int r5), (4, .int r3), (0, .ref l0), (1, .int l1), (2, .int l2), (3, .int l3)]) (pc := 56) dX4_givesIn_56 (by decide) rfl ?_
    refine x_iload_n (pc := 58) dX4_givesIn_58 rfl ?_
    refine x_aload_n (pc := 59) dX4_givesIn_59 rfl ?_
    refine x_invV (As := []) (st := [.int l2]) (pc := 60) dX4_givesIn_60 lRX4_96 fX4_law vX4_law okl0 rfl (Nat.le_of_ble_eq_true rfl) (q_R (by omega) (by decide)) (q_C hnn hzz (by decide) (by decide)) (sn_X4_law G (d + 2) l0 h8 _ okl0 hwp) (k_i (fun r12 h11 hwp cxh11 => ?_))
    have hex := hex.tr cxh11.1
    have hnn : qn h11 = qn h + 0 := by have := cxh11.2.1; omega
    have hzz : qz h11 = qz h + 0 := by have := cxh11.2.2; omega
    have okl0 := okl0.ex cxh11.1
    refine x_iand (pc := 63) dX4_givesIn_63 ?_
    refine x_if_eq (tgt := 79) (pc := 64) dX4_givesIn_64 (by decide) (fun c13 => ?_) (fun c13 => ?_)
    · have hwp := hwp.1 c13
      refine x_iload (pc := 79) dX4_givesIn_79 rfl ?_
      exact x_iret (pc := 81) dX4_givesIn_81 rfl hex hnn hzz ⟨_, rfl, hwp⟩
    · have hwp := hwp.2 c13
      refine x_aload_n (pc := 67) dX4_givesIn_67 rfl ?_
      refine x_iload (pc := 68) dX4_givesIn_68 rfl ?_
      refine x_iload (pc := 70) dX4_givesIn_70 rfl ?_
      refine x_iload_n (pc := 72) dX4_givesIn_72 rfl ?_
      refine x_invV (As := [.int r3, .int r5, .int l3]) (st := []) (pc := 73) dX4_givesIn_73 lRX4_100 fX4_lawCounts vX4_lawCounts okl0 rfl (Nat.le_of_ble_eq_true rfl) (q_R (by omega) (by decide)) (q_C hnn hzz (by decide) (by decide)) (sn_X4_lawCounts G (d + 1) l0 r3 r5 l3 h11 _ okl0 hwp) (k_b (fun r15 h14 hwp zbr15 cxh14 => ?_))
      have hex := hex.tr cxh14.1
      have hnn : qn h14 = qn h + 0 := by have := cxh14.2.1; omega
      have hzz : qz h14 = qz h + 0 := by have := cxh14.2.2; omega
      have okl0 := okl0.ex cxh14.1
      refine x_if_ne (tgt := 82) (pc := 76) dX4_givesIn_76 (by decide) (fun c16 => ?_) (fun c16 => ?_)
      · have hwp := hwp.1 c16
        refine x_aload_n (pc := 82) dX4_givesIn_82 rfl ?_
        refine x_getI (pc := 83) dX4_givesIn_83 qRX4_11 okl0 (by decide) ?_
        refine x_if_ne (tgt := 96) (pc := 86) dX4_givesIn_86 (by decide) (fun c17 => ?_) (fun c17 => ?_)
        · have hwp := hwp.1 c17
          refine x_iconst (v := 0) (pc := 96) dX4_givesIn_96 (by decide) ?_
          exact x_iret (pc := 97) dX4_givesIn_97 rfl hex hnn hzz ⟨_, rfl, hwp⟩
        · have hwp := hwp.2 c17
          refine x_iload (pc := 89) dX4_givesIn_89 rfl ?_
          refine x_iconst (v := 2) (pc := 91) dX4_givesIn_91 (by decide) ?_
          refine x_idiv (pc := 92) dX4_givesIn_92 (by decide) ?_
          refine x_goto (tgt := 97) (pc := 93) dX4_givesIn_93 (by decide) ?_
          exact x_iret (pc := 97) dX4_givesIn_97 rfl hex hnn hzz ⟨_, rfl, hwp⟩
      · have hwp := hwp.2 c16
        refine x_iload (pc := 79) dX4_givesIn_79 rfl ?_
        exact x_iret (pc := 81) dX4_givesIn_81 rfl hex hnn hzz ⟨_, rfl, hwp⟩
  · have hwp := hwp.2 c1
    refine x_iload_n (pc := 8) dX4_givesIn_8 rfl ?_
    refine x_aload_n (pc := 9) dX4_givesIn_9 rfl ?_
    refine x_getI (pc := 10) dX4_givesIn_10 qRX4_18 okl0 (by decide) ?_
    refine x_icmp_ne (tgt := 23) (pc := 13) dX4_givesIn_13 (by decide) (fun c18 => ?_) (fun c18 => ?_)
    · have hwp := hwp.1 c18
      refine x_iconst (v := 0) (pc := 23) dX4_givesIn_23 (by decide) ?_
      exact x_iret (pc := 24) dX4_givesIn_24 rfl hex hnn hzz ⟨_, rfl, hwp⟩
    · have hwp := hwp.2 c18
      refine x_aload_n (pc := 16) dX4_givesIn_16 rfl ?_
      refine x_getI (pc := 17) dX4_givesIn_17 qRX4_21 okl0 (by decide) ?_
      refine x_goto (tgt := 24) (pc := 20) dX4_givesIn_20 (by decide) ?_
      exact x_iret (pc := 24) dX4_givesIn_24 rfl hex hnn hzz ⟨_, rfl, hwp⟩

theorem dX4_takesWhereLawCounts_0 : decode cX4_takesWhereLawCounts 0 = .ok (.iconst 0, 1) := by decide +kernel
theorem dX4_takesWhereLawCounts_1 : decode cX4_takesWhereLawCounts 1 = .ok (.istore_n 2, 1) := by decide +kernel
theorem dX4_takesWhereLawCounts_2 : decode cX4_takesWhereLawCounts 2 = .ok (.iload_n 2, 1) := by decide +kernel
theorem dX4_takesWhereLawCounts_3 : decode cX4_takesWhereLawCounts 3 = .ok (.iload_n 1, 1) := by decide +kernel
theorem dX4_takesWhereLawCounts_4 : decode cX4_takesWhereLawCounts 4 = .ok (.if_icmp .ge 46, 3) := by decide +kernel
theorem dX4_takesWhereLawCounts_7 : decode cX4_takesWhereLawCounts 7 = .ok (.aload_n 0, 1) := by decide +kernel
theorem dX4_takesWhereLawCounts_8 : decode cX4_takesWhereLawCounts 8 = .ok (.iload_n 2, 1) := by decide +kernel
theorem dX4_takesWhereLawCounts_9 : decode cX4_takesWhereLawCounts 9 = .ok (.iload_n 1, 1) := by decide +kernel
theorem dX4_takesWhereLawCounts_10 : decode cX4_takesWhereLawCounts 10 = .ok (.invokevirtual 87, 3) := by decide +kernel
theorem dX4_takesWhereLawCounts_13 : decode cX4_takesWhereLawCounts 13 = .ok (.istore_n 3, 1) := by decide +kernel
theorem dX4_takesWhereLawCounts_14 : decode cX4_takesWhereLawCounts 14 = .ok (.iload_n 3, 1) := by decide +kernel
theorem dX4_takesWhereLawCounts_15 : decode cX4_takesWhereLawCounts 15 = .ok (.iload_n 1, 1) := by decide +kernel
theorem dX4_takesWhereLawCounts_16 : decode cX4_takesWhereLawCounts 16 = .ok (.invokestatic 90, 3) := by decide +kernel
theorem dX4_takesWhereLawCounts_19 : decode cX4_takesWhereLawCounts 19 = .ok (.istore 4, 2) := by decide +kernel
theorem dX4_takesWhereLawCounts_21 : decode cX4_takesWhereLawCounts 21 = .ok (.aload_n 0, 1) := by decide +kernel
theorem dX4_takesWhereLawCounts_22 : decode cX4_takesWhereLawCounts 22 = .ok (.iload_n 3, 1) := by decide +kernel
theorem dX4_takesWhereLawCounts_23 : decode cX4_takesWhereLawCounts 23 = .ok (.iload 4, 2) := by decide +kernel
theorem dX4_takesWhereLawCounts_25 : decode cX4_takesWhereLawCounts 25 = .ok (.iload_n 1, 1) := by decide +kernel
theorem dX4_takesWhereLawCounts_26 : decode cX4_takesWhereLawCounts 26 = .ok (.invokevirtual 100, 3) := by decide +kernel
theorem dX4_takesWhereLawCounts_29 : decode cX4_takesWhereLawCounts 29 = .ok (.ifCond .eq 15, 3) := by decide +kernel
theorem dX4_takesWhereLawCounts_32 : decode cX4_takesWhereLawCounts 32 = .ok (.aload_n 0, 1) := by decide +kernel
theorem dX4_takesWhereLawCounts_33 : decode cX4_takesWhereLawCounts 33 = .ok (.iload_n 2, 1) := by decide +kernel
theorem dX4_takesWhereLawCounts_34 : decode cX4_takesWhereLawCounts 34 = .ok (.iconst 0, 1) := by decide +kernel
theorem dX4_takesWhereLawCounts_35 : decode cX4_takesWhereLawCounts 35 = .ok (.iload_n 1, 1) := by decide +kernel
theorem dX4_takesWhereLawCounts_36 : decode cX4_takesWhereLawCounts 36 = .ok (.invokevirtual 104, 3) := by decide +kernel
theorem dX4_takesWhereLawCounts_39 : decode cX4_takesWhereLawCounts 39 = .ok (.ifCond .ge 5, 3) := by decide +kernel
theorem dX4_takesWhereLawCounts_42 : decode cX4_takesWhereLawCounts 42 = .ok (.iconst 1, 1) := by decide +kernel
theorem dX4_takesWhereLawCounts_43 : decode cX4_takesWhereLawCounts 43 = .ok (.ireturn, 1) := by decide +kernel
theorem dX4_takesWhereLawCounts_44 : decode cX4_takesWhereLawCounts 44 = .ok (.iinc 2 1, 3) := by decide +kernel
theorem dX4_takesWhereLawCounts_47 : decode cX4_takesWhereLawCounts 47 = .ok (.goto (-45), 3) := by decide +kernel
theorem dX4_takesWhereLawCounts_50 : decode cX4_takesWhereLawCounts 50 = .ok (.iconst 0, 1) := by decide +kernel
theorem dX4_takesWhereLawCounts_51 : decode cX4_takesWhereLawCounts 51 = .ok (.ireturn, 1) := by decide +kernel
def E_X4_takesWhereLawCounts_2 (G : GT) (d : Nat) (h0 hb : PH) (l0 : Nat) (l1 : Int32) (Q : Int32 → PH → Prop) (s : Int32 × PH) : Prop := qEx hb s.2 ∧ qn s.2 = qn hb ∧ qz s.2 = qz hb → Ex G (qrm (4 + d) 0 0) mX4_takesWhereLawCounts (qn h0) (qz h0) (ZN G h0 0 0 (qqb Q)) 2 [(0, .ref l0), (1, .int l1), (2, .int s.1)] [] s.2
def wb_X4_takesWhereLawCounts_2 (l0 : Nat) (l1 : Int32)  (Q : Int32 → PH → Prop) (bk2 : Int32 × PH → Prop) (l2 : Int32) (h : PH) : Prop := ((l1 ≤ l2 → Q 0 h) ∧ (¬ (l1 ≤ l2) → (wp_X4_placeAt l0 l2 l1 h (fun r3 h2 => (wp_X4_placeBehind r3 l1 h2 (fun r5 h4 => (wp_X4_lawCounts l0 r3 r5 l1 h4 (fun r7 h6 => ((r7 = 0 → ∀ v9 : Int32, v9 = l2 + 1 → bk2 (v9, h6)) ∧ (¬ (r7 = 0) → (wp_X4_givesIn l0 l2 0 l1 h6 (fun r11 h10 => ((0 ≤ r11 → ∀ v13 : Int32, v13 = l2 + 1 → bk2 (v13, h10)) ∧ (¬ (0 ≤ r11) → Q 1 h10))))))))))))))
def wp_X4_takesWhereLawCounts_2 (l0 : Nat) (l1 : Int32)  (Q : Int32 → PH → Prop) (bk2 : Int32 × PH → Prop) (s : Int32 × PH) : Prop := wb_X4_takesWhereLawCounts_2 l0 l1 Q bk2 s.1 s.2
set_option maxHeartbeats 4000000 in
set_option maxRecDepth 100000 in
theorem bd_X4_takesWhereLawCounts_2 (G : GT) (d : Nat) (h0 hb : PH) (l0 : Nat) (l1 : Int32) (Q : Int32 → PH → Prop)  (hex : qEx h0 hb) (hnn : qn hb = qn h0 + 0) (hzz : qz hb = qz h0 + 0) (okl0 : qOK hb 4 l0) (bk2 : Int32 × PH → Prop) (hbk2 : ∀ s2, bk2 s2 → E_X4_takesWhereLawCounts_2 G d h0 hb l0 l1 Q s2) (l2 : Int32) (h : PH) (hwp : wb_X4_takesWhereLawCounts_2 l0 l1 Q bk2 l2 h) (hx2 : qEx hb h) (hn2 : qn h = qn hb) (hz2 : qz h = qz hb) : Ex G (qrm (4 + d) 0 0) mX4_takesWhereLawCounts (qn h0) (qz h0) (ZN G h0 0 0 (qqb Q)) 2 [(0, .ref l0), (1, .int l1), (2, .int l2)] [] h := by
  unfold wb_X4_takesWhereLawCounts_2 at hwp
  have hex := hex.tr hx2
  have hnn := hn2.trans hnn
  have hzz := hz2.trans hzz
  have okl0 := okl0.ex hx2
  refine x_iload_n (pc := 2) dX4_takesWhereLawCounts_2 rfl ?_
  refine x_iload_n (pc := 3) dX4_takesWhereLawCounts_3 rfl ?_
  refine x_icmp_ge (tgt := 50) (pc := 4) dX4_takesWhereLawCounts_4 (by decide) (fun c1 => ?_) (fun c1 => ?_)
  · have hwp := hwp.1 c1
    refine x_iconst (v := 0) (pc := 50) dX4_takesWhereLawCounts_50 (by decide) ?_
    exact x_zret (pc := 51) dX4_takesWhereLawCounts_51 rfl hex hnn hzz (by decide) ⟨_, rfl, by decide, hwp⟩
  · have hwp := hwp.2 c1
    refine x_aload_n (pc := 7) dX4_takesWhereLawCounts_7 rfl ?_
    refine x_iload_n (pc := 8) dX4_takesWhereLawCounts_8 rfl ?_
    refine x_iload_n (pc := 9) dX4_takesWhereLawCounts_9 rfl ?_
    refine x_invV (As := [.int l2, .int l1]) (st := []) (pc := 10) dX4_takesWhereLawCounts_10 lRX4_87 fX4_placeAt vX4_placeAt okl0 rfl (Nat.le_of_ble_eq_true rfl) (q_R (by omega) (by decide)) (q_C hnn hzz (by decide) (by decide)) (sn_X4_placeAt G (d + 3) l0 l2 l1 h _ okl0 hwp) (k_i (fun r3 h2 hwp cxh2 => ?_))
    have hex := hex.tr cxh2.1
    have hnn : qn h2 = qn h0 + 0 := by have := cxh2.2.1; omega
    have hzz : qz h2 = qz h0 + 0 := by have := cxh2.2.2; omega
    have hx2 := hx2.tr cxh2.1
    have hn2 : qn h2 = qn hb := by have := cxh2.2.1; omega
    have hz2 : qz h2 = qz hb := by have := cxh2.2.2; omega
    have okl0 := okl0.ex cxh2.1
    refine x_istore_n (lv2 := [(3, .int r3), (0, .ref l0), (1, .int l1), (2, .int l2)]) (pc := 13) dX4_takesWhereLawCounts_13 (by decide) rfl ?_
    refine x_iload_n (pc := 14) dX4_takesWhereLawCounts_14 rfl ?_
    refine x_iload_n (pc := 15) dX4_takesWhereLawCounts_15 rfl ?_
    refine x_invS (As := [.int r3, .int l1]) (st := []) (pc := 16) dX4_takesWhereLawCounts_16 lRX4_90 fX4_placeBehind sX4_placeBehind rfl (Nat.le_of_ble_eq_true rfl) (q_R (by omega) (by decide)) (q_C hnn hzz (by decide) (by decide)) (sn_X4_placeBehind G (d + 3) r3 l1 h2 _  hwp) (k_i (fun r5 h4 hwp cxh4 => ?_))
    have hex := hex.tr cxh4.1
    have hnn : qn h4 = qn h0 + 0 := by have := cxh4.2.1; omega
    have hzz : qz h4 = qz h0 + 0 := by have := cxh4.2.2; omega
    have hx2 := hx2.tr cxh4.1
    have hn2 : qn h4 = qn hb := by have := cxh4.2.1; omega
    have hz2 : qz h4 = qz hb := by have := cxh4.2.2; omega
    have okl0 := okl0.ex cxh4.1
    refine x_istore (lv2 := [(4, .int r5), (3, .int r3), (0, .ref l0), (1, .int l1), (2, .int l2)]) (pc := 19) dX4_takesWhereLawCounts_19 (by decide) rfl ?_
    refine x_aload_n (pc := 21) dX4_takesWhereLawCounts_21 rfl ?_
    refine x_iload_n (pc := 22) dX4_takesWhereLawCounts_22 rfl ?_
    refine x_iload (pc := 23) dX4_takesWhereLawCounts_23 rfl ?_
    refine x_iload_n (pc := 25) dX4_takesWhereLawCounts_25 rfl ?_
    refine x_invV (As := [.int r3, .int r5, .int l1]) (st := []) (pc := 26) dX4_takesWhereLawCounts_26 lRX4_100 fX4_lawCounts vX4_lawCounts okl0 rfl (Nat.le_of_ble_eq_true rfl) (q_R (by omega) (by decide)) (q_C hnn hzz (by decide) (by decide)) (sn_X4_lawCounts G (d + 2) l0 r3 r5 l1 h4 _ okl0 hwp) (k_b (fun r7 h6 hwp zbr7 cxh6 => ?_))
    have hex := hex.tr cxh6.1
    have hnn : qn h6 = qn h0 + 0 := by have := cxh6.2.1; omega
    have hzz : qz h6 = qz h0 + 0 := by have := cxh6.2.2; omega
    have hx2 := hx2.tr cxh6.1
    have hn2 : qn h6 = qn hb := by have := cxh6.2.1; omega
    have hz2 : qz h6 = qz hb := by have := cxh6.2.2; omega
    have okl0 := okl0.ex cxh6.1
    refine x_if_eq (tgt := 44) (pc := 29) dX4_takesWhereLawCounts_29 (by decide) (fun c8 => ?_) (fun c8 => ?_)
    · have hwp := hwp.1 c8
      refine y_iinc (c := 1) (pc := 44) dX4_takesWhereLawCounts_44 rfl (by decide) (by decide) (fun v9 ev9 => ?_)
      have hwp := hwp v9 ev9
      refine x_lvE (lv2 := [(2, .int v9), (4, .int r5), (3, .int r3), (0, .ref l0), (1, .int l1)]) rfl ?_
      refine x_goto (tgt := 2) (pc := 47) dX4_takesWhereLawCounts_47 (by decide) ?_
      refine x_sub [3, 4, 0] rfl ?_
      exact hbk2 _ hwp ⟨hx2, hn2, hz2⟩
    · have hwp := hwp.2 c8
      refine x_aload_n (pc := 32) dX4_takesWhereLawCounts_32 rfl ?_
      refine x_iload_n (pc := 33) dX4_takesWhereLawCounts_33 rfl ?_
      refine x_iconst (v := 0) (pc := 34) dX4_takesWhereLawCounts_34 (by decide) ?_
      refine x_iload_n (pc := 35) dX4_takesWhereLawCounts_35 rfl ?_
      refine x_invV (As := [.int l2, .int 0, .int l1]) (st := []) (pc := 36) dX4_takesWhereLawCounts_36 lRX4_104 fX4_givesIn vX4_givesIn okl0 rfl (Nat.le_of_ble_eq_true rfl) (q_R (by omega) (by decide)) (q_C hnn hzz (by decide) (by decide)) (sn_X4_givesIn G (d + 0) l0 l2 0 l1 h6 _ okl0 hwp) (k_i (fun r11 h10 hwp cxh10 => ?_))
      have hex := hex.tr cxh10.1
      have hnn : qn h10 = qn h0 + 0 := by have := cxh10.2.1; omega
      have hzz : qz h10 = qz h0 + 0 := by have := cxh10.2.2; omega
      have hx2 := hx2.tr cxh10.1
      have hn2 : qn h10 = qn hb := by have := cxh10.2.1; omega
      have hz2 : qz h10 = qz hb := by have := cxh10.2.2; omega
      have okl0 := okl0.ex cxh10.1
      refine x_if_ge (tgt := 44) (pc := 39) dX4_takesWhereLawCounts_39 (by decide) (fun c12 => ?_) (fun c12 => ?_)
      · have hwp := hwp.1 c12
        refine y_iinc (c := 1) (pc := 44) dX4_takesWhereLawCounts_44 rfl (by decide) (by decide) (fun v13 ev13 => ?_)
        have hwp := hwp v13 ev13
        refine x_lvE (lv2 := [(2, .int v13), (4, .int r5), (3, .int r3), (0, .ref l0), (1, .int l1)]) rfl ?_
        refine x_goto (tgt := 2) (pc := 47) dX4_takesWhereLawCounts_47 (by decide) ?_
        refine x_sub [3, 4, 0] rfl ?_
        exact hbk2 _ hwp ⟨hx2, hn2, hz2⟩
      · have hwp := hwp.2 c12
        refine x_iconst (v := 1) (pc := 42) dX4_takesWhereLawCounts_42 (by decide) ?_
        exact x_zret (pc := 43) dX4_takesWhereLawCounts_43 rfl hex hnn hzz (by decide) ⟨_, rfl, by decide, hwp⟩
theorem lp_X4_takesWhereLawCounts_2 (G : GT) (d : Nat) (h0 hb : PH) (l0 : Nat) (l1 : Int32) (Q : Int32 → PH → Prop)  (hex : qEx h0 hb) (hnn : qn hb = qn h0 + 0) (hzz : qz hb = qz h0 + 0) (okl0 : qOK hb 4 l0) {s : Int32 × PH} (hwp : qLoop (wp_X4_takesWhereLawCounts_2 l0 l1 Q) s) : E_X4_takesWhereLawCounts_2 G d h0 hb l0 l1 Q s :=
  qLoop.use (E := E_X4_takesWhereLawCounts_2 G d h0 hb l0 l1 Q) (fun back s hbk hw hx => bd_X4_takesWhereLawCounts_2 G d h0 hb l0 l1 Q hex hnn hzz okl0 back hbk s.1 s.2 hw hx.1 hx.2.1 hx.2.2) hwp
def wp_X4_takesWhereLawCounts (l0 : Nat) (l1 : Int32) (h : PH) (Q : Int32 → PH → Prop) : Prop := (qLoop (wp_X4_takesWhereLawCounts_2 l0 l1 Q) (0, h))
set_option maxHeartbeats 4000000 in
set_option maxRecDepth 100000 in
theorem sn_X4_takesWhereLawCounts (G : GT) (d : Nat) (l0 : Nat) (l1 : Int32) (h : PH) (Q : Int32 → PH → Prop) (okl0 : qOK h 4 l0) (hwp : wp_X4_takesWhereLawCounts l0 l1 h Q) : Mt G (4 + d) 0 0 mX4_takesWhereLawCounts [.ref l0, .int l1] h (qqb Q) := by
  unfold wp_X4_takesWhereLawCounts at hwp
  refine Mt.of (by decide) rfl (Nat.le_of_ble_eq_true rfl) ?_
  have hex := qEx.rf h
  have hnn : qn h = qn h + 0 := rfl
  have hzz : qz h = qz h + 0 := rfl
  refine x_lvE (lv2 := [(0, .ref l0), (1, .int l1)]) rfl ?_
  refine x_iconst (v := 0) (pc := 0) dX4_takesWhereLawCounts_0 (by decide) ?_
  refine x_istore_n (lv2 := [(2, .int 0), (0, .ref l0), (1, .int l1)]) (pc := 1) dX4_takesWhereLawCounts_1 (by decide) rfl ?_
  refine x_sub [1, 2, 0] rfl ?_
  exact lp_X4_takesWhereLawCounts_2 G d h h l0 l1 Q hex hnn hzz okl0 hwp ⟨qEx.rf _, rfl, rfl⟩

theorem dX4_sumWith_0 : decode cX4_sumWith 0 = .ok (.iconst 0, 1) := by decide +kernel
theorem dX4_sumWith_1 : decode cX4_sumWith 1 = .ok (.istore_n 3, 1) := by decide +kernel
theorem dX4_sumWith_2 : decode cX4_sumWith 2 = .ok (.iconst 0, 1) := by decide +kernel
theorem dX4_sumWith_3 : decode cX4_sumWith 3 = .ok (.istore 4, 2) := by decide +kernel
theorem dX4_sumWith_5 : decode cX4_sumWith 5 = .ok (.iload 4, 2) := by decide +kernel
theorem dX4_sumWith_7 : decode cX4_sumWith 7 = .ok (.iload_n 2, 1) := by decide +kernel
theorem dX4_sumWith_8 : decode cX4_sumWith 8 = .ok (.if_icmp .ge 20, 3) := by decide +kernel
theorem dX4_sumWith_11 : decode cX4_sumWith 11 = .ok (.iload_n 3, 1) := by decide +kernel
theorem dX4_sumWith_12 : decode cX4_sumWith 12 = .ok (.aload_n 0, 1) := by decide +kernel
theorem dX4_sumWith_13 : decode cX4_sumWith 13 = .ok (.iload 4, 2) := by decide +kernel
theorem dX4_sumWith_15 : decode cX4_sumWith 15 = .ok (.iload_n 1, 1) := by decide +kernel
theorem dX4_sumWith_16 : decode cX4_sumWith 16 = .ok (.iload_n 2, 1) := by decide +kernel
theorem dX4_sumWith_17 : decode cX4_sumWith 17 = .ok (.invokevirtual 104, 3) := by decide +kernel
theorem dX4_sumWith_20 : decode cX4_sumWith 20 = .ok (.iadd, 1) := by decide +kernel
theorem dX4_sumWith_21 : decode cX4_sumWith 21 = .ok (.istore_n 3, 1) := by decide +kernel
theorem dX4_sumWith_22 : decode cX4_sumWith 22 = .ok (.iinc 4 1, 3) := by decide +kernel
theorem dX4_sumWith_25 : decode cX4_sumWith 25 = .ok (.goto (-20), 3) := by decide +kernel
theorem dX4_sumWith_28 : decode cX4_sumWith 28 = .ok (.iload_n 3, 1) := by decide +kernel
theorem dX4_sumWith_29 : decode cX4_sumWith 29 = .ok (.ireturn, 1) := by decide +kernel
def E_X4_sumWith_5 (G : GT) (d : Nat) (h0 hb : PH) (l0 : Nat) (l1 : Int32) (l2 : Int32) (Q : Int32 → PH → Prop) (s : Int32 × Int32 × PH) : Prop := qEx hb s.2.2 ∧ qn s.2.2 = qn hb ∧ qz s.2.2 = qz hb → Ex G (qrm (4 + d) 0 0) mX4_sumWith (qn h0) (qz h0) (ZN G h0 0 0 (qqi Q)) 5 [(0, .ref l0), (1, .int l1), (2, .int l2), (3, .int s.1), (4, .int s.2.1)] [] s.2.2
def wb_X4_sumWith_5 (l0 : Nat) (l1 : Int32) (l2 : Int32)  (Q : Int32 → PH → Prop) (bk5 : Int32 × Int32 × PH → Prop) (l3 : Int32) (l4 : Int32) (h : PH) : Prop := ((l2 ≤ l4 → Q l3 h) ∧ (¬ (l2 ≤ l4) → (wp_X4_givesIn l0 l4 l1 l2 h (fun r3 h2 => ∀ v4 : Int32, v4 = l3 + r3 → ∀ v5 : Int32, v5 = l4 + 1 → bk5 (v4, v5, h2)))))
def wp_X4_sumWith_5 (l0 : Nat) (l1 : Int32) (l2 : Int32)  (Q : Int32 → PH → Prop) (bk5 : Int32 × Int32 × PH → Prop) (s : Int32 × Int32 × PH) : Prop := wb_X4_sumWith_5 l0 l1 l2 Q bk5 s.1 s.2.1 s.2.2
set_option maxHeartbeats 4000000 in
set_option maxRecDepth 100000 in
theorem bd_X4_sumWith_5 (G : GT) (d : Nat) (h0 hb : PH) (l0 : Nat) (l1 : Int32) (l2 : Int32) (Q : Int32 → PH → Prop)  (hex : qEx h0 hb) (hnn : qn hb = qn h0 + 0) (hzz : qz hb = qz h0 + 0) (okl0 : qOK hb 4 l0) (bk5 : Int32 × Int32 × PH → Prop) (hbk5 : ∀ s2, bk5 s2 → E_X4_sumWith_5 G d h0 hb l0 l1 l2 Q s2) (l3 : Int32) (l4 : Int32) (h : PH) (hwp : wb_X4_sumWith_5 l0 l1 l2 Q bk5 l3 l4 h) (hx5 : qEx hb h) (hn5 : qn h = qn hb) (hz5 : qz h = qz hb) : Ex G (qrm (4 + d) 0 0) mX4_sumWith (qn h0) (qz h0) (ZN G h0 0 0 (qqi Q)) 5 [(0, .ref l0), (1, .int l1), (2, .int l2), (3, .int l3), (4, .int l4)] [] h := by
  unfold wb_X4_sumWith_5 at hwp
  have hex := hex.tr hx5
  have hnn := hn5.trans hnn
  have hzz := hz5.trans hzz
  have okl0 := okl0.ex hx5
  refine x_iload (pc := 5) dX4_sumWith_5 rfl ?_
  refine x_iload_n (pc := 7) dX4_sumWith_7 rfl ?_
  refine x_icmp_ge (tgt := 28) (pc := 8) dX4_sumWith_8 (by decide) (fun c1 => ?_) (fun c1 => ?_)
  · have hwp := hwp.1 c1
    refine x_iload_n (pc := 28) dX4_sumWith_28 rfl ?_
    exact x_iret (pc := 29) dX4_sumWith_29 rfl hex hnn hzz ⟨_, rfl, hwp⟩
  · have hwp := hwp.2 c1
    refine x_iload_n (pc := 11) dX4_sumWith_11 rfl ?_
    refine x_aload_n (pc := 12) dX4_sumWith_12 rfl ?_
    refine x_iload (pc := 13) dX4_sumWith_13 rfl ?_
    refine x_iload_n (pc := 15) dX4_sumWith_15 rfl ?_
    refine x_iload_n (pc := 16) dX4_sumWith_16 rfl ?_
    refine x_invV (As := [.int l4, .int l1, .int l2]) (st := [.int l3]) (pc := 17) dX4_sumWith_17 lRX4_104 fX4_givesIn vX4_givesIn okl0 rfl (Nat.le_of_ble_eq_true rfl) (q_R (by omega) (by decide)) (q_C hnn hzz (by decide) (by decide)) (sn_X4_givesIn G (d + 0) l0 l4 l1 l2 h _ okl0 hwp) (k_i (fun r3 h2 hwp cxh2 => ?_))
    have hex := hex.tr cxh2.1
    have hnn : qn h2 = qn h0 + 0 := by have := cxh2.2.1; omega
    have hzz : qz h2 = qz h0 + 0 := by have := cxh2.2.2; omega
    have hx5 := hx5.tr cxh2.1
    have hn5 : qn h2 = qn hb := by have := cxh2.2.1; omega
    have hz5 : qz h2 = qz hb := by have := cxh2.2.2; omega
    have okl0 := okl0.ex cxh2.1
    refine x_iadd (pc := 20) dX4_sumWith_20 ?_
    refine x_nmI (fun v4 ev4 => ?_)
    have hwp := hwp v4 ev4
    refine x_istore_n (lv2 := [(3, .int v4), (0, .ref l0), (1, .int l1), (2, .int l2), (4, .int l4)]) (pc := 21) dX4_sumWith_21 (by decide) rfl ?_
    refine y_iinc (c := 1) (pc := 22) dX4_sumWith_22 rfl (by decide) (by decide) (fun v5 ev5 => ?_)
    have hwp := hwp v5 ev5
    refine x_lvE (lv2 := [(4, .int v5), (3, .int v4), (0, .ref l0), (1, .int l1), (2, .int l2)]) rfl ?_
    refine x_goto (tgt := 5) (pc := 25) dX4_sumWith_25 (by decide) ?_
    refine x_sub [2, 3, 4, 1, 0] rfl ?_
    exact hbk5 _ hwp ⟨hx5, hn5, hz5⟩
theorem lp_X4_sumWith_5 (G : GT) (d : Nat) (h0 hb : PH) (l0 : Nat) (l1 : Int32) (l2 : Int32) (Q : Int32 → PH → Prop)  (hex : qEx h0 hb) (hnn : qn hb = qn h0 + 0) (hzz : qz hb = qz h0 + 0) (okl0 : qOK hb 4 l0) {s : Int32 × Int32 × PH} (hwp : qLoop (wp_X4_sumWith_5 l0 l1 l2 Q) s) : E_X4_sumWith_5 G d h0 hb l0 l1 l2 Q s :=
  qLoop.use (E := E_X4_sumWith_5 G d h0 hb l0 l1 l2 Q) (fun back s hbk hw hx => bd_X4_sumWith_5 G d h0 hb l0 l1 l2 Q hex hnn hzz okl0 back hbk s.1 s.2.1 s.2.2 hw hx.1 hx.2.1 hx.2.2) hwp
def wp_X4_sumWith (l0 : Nat) (l1 : Int32) (l2 : Int32) (h : PH) (Q : Int32 → PH → Prop) : Prop := (qLoop (wp_X4_sumWith_5 l0 l1 l2 Q) (0, 0, h))
set_option maxHeartbeats 4000000 in
set_option maxRecDepth 100000 in
theorem sn_X4_sumWith (G : GT) (d : Nat) (l0 : Nat) (l1 : Int32) (l2 : Int32) (h : PH) (Q : Int32 → PH → Prop) (okl0 : qOK h 4 l0) (hwp : wp_X4_sumWith l0 l1 l2 h Q) : Mt G (4 + d) 0 0 mX4_sumWith [.ref l0, .int l1, .int l2] h (qqi Q) := by
  unfold wp_X4_sumWith at hwp
  refine Mt.of (by decide) rfl (Nat.le_of_ble_eq_true rfl) ?_
  have hex := qEx.rf h
  have hnn : qn h = qn h + 0 := rfl
  have hzz : qz h = qz h + 0 := rfl
  refine x_lvE (lv2 := [(0, .ref l0), (1, .int l1), (2, .int l2)]) rfl ?_
  refine x_iconst (v := 0) (pc := 0) dX4_sumWith_0 (by decide) ?_
  refine x_istore_n (lv2 := [(3, .int 0), (0, .ref l0), (1, .int l1), (2, .int l2)]) (pc := 1) dX4_sumWith_1 (by decide) rfl ?_
  refine x_iconst (v := 0) (pc := 2) dX4_sumWith_2 (by decide) ?_
  refine x_istore (lv2 := [(4, .int 0), (3, .int 0), (0, .ref l0), (1, .int l1), (2, .int l2)]) (pc := 3) dX4_sumWith_3 (by decide) rfl ?_
  refine x_sub [2, 3, 4, 1, 0] rfl ?_
  exact lp_X4_sumWith_5 G d h h l0 l1 l2 Q hex hnn hzz okl0 hwp ⟨qEx.rf _, rfl, rfl⟩

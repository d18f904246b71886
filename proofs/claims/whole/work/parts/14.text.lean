theorem dX0_init_0 : decode cX0_init 0 = .ok (.aload_n 0, 1) := by decide +kernel
theorem dX0_init_1 : decode cX0_init 1 = .ok (.invokespecial 5, 3) := by decide +kernel
theorem dX0_init_4 : decode cX0_init 4 = .ok (.aload_n 0, 1) := by decide +kernel
theorem dX0_init_5 : decode cX0_init 5 = .ok (.bipush 40, 2) := by decide +kernel
theorem dX0_init_7 : decode cX0_init 7 = .ok (.newarray .int, 2) := by decide +kernel
theorem dX0_init_9 : decode cX0_init 9 = .ok (.putfield 11, 3) := by decide +kernel
theorem dX0_init_12 : decode cX0_init 12 = .ok (.aload_n 0, 1) := by decide +kernel
theorem dX0_init_13 : decode cX0_init 13 = .ok (.bipush 40, 2) := by decide +kernel
theorem dX0_init_15 : decode cX0_init 15 = .ok (.newarray .int, 2) := by decide +kernel
theorem dX0_init_17 : decode cX0_init 17 = .ok (.putfield 15, 3) := by decide +kernel
theorem dX0_init_20 : decode cX0_init 20 = .ok (.aload_n 0, 1) := by decide +kernel
theorem dX0_init_21 : decode cX0_init 21 = .ok (.bipush 40, 2) := by decide +kernel
theorem dX0_init_23 : decode cX0_init 23 = .ok (.newarray .int, 2) := by decide +kernel
theorem dX0_init_25 : decode cX0_init 25 = .ok (.putfield 18, 3) := by decide +kernel
theorem dX0_init_28 : decode cX0_init 28 = .ok (.aload_n 0, 1) := by decide +kernel
theorem dX0_init_29 : decode cX0_init 29 = .ok (.bipush 40, 2) := by decide +kernel
theorem dX0_init_31 : decode cX0_init 31 = .ok (.newarray .boolean, 2) := by decide +kernel
theorem dX0_init_33 : decode cX0_init 33 = .ok (.putfield 21, 3) := by decide +kernel
theorem dX0_init_36 : decode cX0_init 36 = .ok (.aload_n 0, 1) := by decide +kernel
theorem dX0_init_37 : decode cX0_init 37 = .ok (.iconst 0, 1) := by decide +kernel
theorem dX0_init_38 : decode cX0_init 38 = .ok (.putfield 25, 3) := by decide +kernel
theorem dX0_init_41 : decode cX0_init 41 = .ok (.aload_n 0, 1) := by decide +kernel
theorem dX0_init_42 : decode cX0_init 42 = .ok (.iconst 0, 1) := by decide +kernel
theorem dX0_init_43 : decode cX0_init 43 = .ok (.putfield 29, 3) := by decide +kernel
theorem dX0_init_46 : decode cX0_init 46 = .ok (.aload_n 0, 1) := by decide +kernel
theorem dX0_init_47 : decode cX0_init 47 = .ok (.iconst 0, 1) := by decide +kernel
theorem dX0_init_48 : decode cX0_init 48 = .ok (.putfield 32, 3) := by decide +kernel
theorem dX0_init_51 : decode cX0_init 51 = .ok (.return_, 1) := by decide +kernel
def wp_X0_init (l0 : Nat) (h : PH) (Q : PH → Prop) : Prop := (qn h + 1 ≤ 1000000 ∧ ∀ h1, h1 = qnew h 14 40 40 → (∀ h3, h3 = qsR h1 l0 0 (some (qn h)) → (qn h3 + 1 ≤ 1000000 ∧ ∀ h4, h4 = qnew h3 14 40 40 → (∀ h6, h6 = qsR h4 l0 1 (some (qn h3)) → (qn h6 + 1 ≤ 1000000 ∧ ∀ h7, h7 = qnew h6 14 40 40 → (∀ h9, h9 = qsR h7 l0 2 (some (qn h6)) → (qn h9 + 1 ≤ 1000000 ∧ ∀ h10, h10 = qnew h9 16 40 40 → (∀ h12, h12 = qsR h10 l0 3 (some (qn h9)) → (∀ h13, h13 = qsI h12 l0 4 0 → (∀ h14, h14 = qsI h13 l0 5 0 → (∀ h15, h15 = qsI h14 l0 6 0 → Q h15)))))))))))
set_option maxHeartbeats 4000000 in
set_option maxRecDepth 100000 in
theorem sn_X0_init (G : GT) (d : Nat) (l0 : Nat) (h : PH) (Q : PH → Prop) (okl0 : qOK h 0 l0) (hwp : wp_X0_init l0 h Q) : Mt G (1 + d) 4 160 mX0_init [.ref l0] h (qqv Q) := by
  unfold wp_X0_init at hwp
  refine Mt.of (by decide) rfl (Nat.le_of_ble_eq_true rfl) ?_
  have hex := qEx.rf h
  have hnn : qn h = qn h + 0 := rfl
  have hzz : qz h = qz h + 0 := rfl
  refine x_lvE (lv2 := [(0, .ref l0)]) rfl ?_
  refine x_aload_n (pc := 0) dX0_init_0 rfl ?_
  refine x_objInit (pc := 1) dX0_init_1 lRX0_5 wk_oi wk_oc (q_R1 (by omega)) (Nat.le_of_ble_eq_true rfl) ?_
  refine x_aload_n (pc := 4) dX0_init_4 rfl ?_
  refine x_bipush (v := 40) (pc := 5) dX0_init_5 (by decide) ?_
  obtain ⟨m2, hwp⟩ := hwp
  refine y_newa (t := 14) (N := 40) (t0 := 1) (ty := .int) (pc := 7) dX0_init_7 rfl (by decide) wk_ac_int (by decide) (by decide) (by decide) (q_C hnn hzz (by decide) (by decide)) m2 (fun h1 eh1 nwh1 okbh1 => ?_)
  have hwp := hwp h1 eh1
  have hex := hex.tr nwh1.1
  have hnn : qn h1 = qn h + 1 := by have := nwh1.2.1; omega
  have hzz : qz h1 = qz h + 40 := by have := nwh1.2.2; omega
  have okl0 := okl0.ex nwh1.1
  refine y_putF rfl (pc := 9) dX0_init_9 FRX0_11 okl0 okbh1 (fun h3 eh3 nxh3 => ?_)
  have hwp := hwp h3 eh3
  have hex := hex.tr nxh3.1
  have hnn := nxh3.2.1.trans hnn
  have hzz := nxh3.2.2.trans hzz
  have okl0 := okl0.ex nxh3.1
  have okbh1 := okbh1.ex nxh3.1
  refine x_aload_n (pc := 12) dX0_init_12 rfl ?_
  refine x_bipush (v := 40) (pc := 13) dX0_init_13 (by decide) ?_
  obtain ⟨m5, hwp⟩ := hwp
  refine y_newa (t := 14) (N := 40) (t0 := 1) (ty := .int) (pc := 15) dX0_init_15 rfl (by decide) wk_ac_int (by decide) (by decide) (by decide) (q_C hnn hzz (by decide) (by decide)) m5 (fun h4 eh4 nwh4 okbh4 => ?_)
  have hwp := hwp h4 eh4
  have hex := hex.tr nwh4.1
  have hnn : qn h4 = qn h + 2 := by have := nwh4.2.1; omega
  have hzz : qz h4 = qz h + 80 := by have := nwh4.2.2; omega
  have okl0 := okl0.ex nwh4.1
  have okbh1 := okbh1.ex nwh4.1
  refine y_putF rfl (pc := 17) dX0_init_17 FRX0_15 okl0 okbh4 (fun h6 eh6 nxh6 => ?_)
  have hwp := hwp h6 eh6
  have hex := hex.tr nxh6.1
  have hnn := nxh6.2.1.trans hnn
  have hzz := nxh6.2.2.trans hzz
  have okl0 := okl0.ex nxh6.1
  have okbh1 := okbh1.ex nxh6.1
  have okbh4 := okbh4.ex nxh6.1
  refine x_aload_n (pc := 20) dX0_init_20 rfl ?_
  refine x_bipush (v := 40) (pc := 21) dX0_init_21 (by decide) ?_
  obtain ⟨m8, hwp⟩ := hwp
  refine y_newa (t := 14) (N := 40) (t0 := 1) (ty := .int) (pc := 23) dX0_init_23 rfl (by decide) wk_ac_int (by decide) (by decide) (by decide) (q_C hnn hzz (by decide) (by decide)) m8 (fun h7 eh7 nwh7 okbh7 => ?_)
  have hwp := hwp h7 eh7
  have hex := hex.tr nwh7.1
  have hnn : qn h7 = qn h + 3 := by have := nwh7.2.1; omega
  have hzz : qz h7 = qz h + 120 := by have := nwh7.2.2; omega
  have okl0 := okl0.ex nwh7.1
  have okbh1 := okbh1.ex nwh7.1
  have okbh4 := okbh4.ex nwh7.1
  refine y_putF rfl (pc := 25) dX0_init_25 FRX0_18 okl0 okbh7 (fun h9 eh9 nxh9 => ?_)
  have hwp := hwp h9 eh9
  have hex := hex.tr nxh9.1
  have hnn := nxh9.2.1.trans hnn
  have hzz := nxh9.2.2.trans hzz
  have okl0 := okl0.ex nxh9.1
  have okbh1 := okbh1.ex nxh9.1
  have okbh4 := okbh4.ex nxh9.1
  have okbh7 := okbh7.ex nxh9.1
  refine x_aload_n (pc := 28) dX0_init_28 rfl ?_
  refine x_bipush (v := 40) (pc := 29) dX0_init_29 (by decide) ?_
  obtain ⟨m11, hwp⟩ := hwp
  refine y_newa (t := 16) (N := 40) (t0 := 3) (ty := .boolean) (pc := 31) dX0_init_31 rfl (by decide) wk_ac_boolean (by decide) (by decide) (by decide) (q_C hnn hzz (by decide) (by decide)) m11 (fun h10 eh10 nwh10 okbh10 => ?_)
  have hwp := hwp h10 eh10
  have hex := hex.tr nwh10.1
  have hnn : qn h10 = qn h + 4 := by have := nwh10.2.1; omega
  have hzz : qz h10 = qz h + 160 := by have := nwh10.2.2; omega
  have okl0 := okl0.ex nwh10.1
  have okbh1 := okbh1.ex nwh10.1
  have okbh4 := okbh4.ex nwh10.1
  have okbh7 := okbh7.ex nwh10.1
  refine y_putF rfl (pc := 33) dX0_init_33 FRX0_21 okl0 okbh10 (fun h12 eh12 nxh12 => ?_)
  have hwp := hwp h12 eh12
  have hex := hex.tr nxh12.1
  have hnn := nxh12.2.1.trans hnn
  have hzz := nxh12.2.2.trans hzz
  have okl0 := okl0.ex nxh12.1
  have okbh1 := okbh1.ex nxh12.1
  have okbh4 := okbh4.ex nxh12.1
  have okbh7 := okbh7.ex nxh12.1
  have okbh10 := okbh10.ex nxh12.1
  refine x_aload_n (pc := 36) dX0_init_36 rfl ?_
  refine x_iconst (v := 0) (pc := 37) dX0_init_37 (by decide) ?_
  refine y_putI (pc := 38) dX0_init_38 qRX0_25 okl0 (fun h13 eh13 nxh13 => ?_)
  have hwp := hwp h13 eh13
  have hex := hex.tr nxh13.1
  have hnn := nxh13.2.1.trans hnn
  have hzz := nxh13.2.2.trans hzz
  have okl0 := okl0.ex nxh13.1
  have okbh1 := okbh1.ex nxh13.1
  have okbh4 := okbh4.ex nxh13.1
  have okbh7 := okbh7.ex nxh13.1
  have okbh10 := okbh10.ex nxh13.1
  refine x_aload_n (pc := 41) dX0_init_41 rfl ?_
  refine x_iconst (v := 0) (pc := 42) dX0_init_42 (by decide) ?_
  refine y_putI (pc := 43) dX0_init_43 qRX0_29 okl0 (fun h14 eh14 nxh14 => ?_)
  have hwp := hwp h14 eh14
  have hex := hex.tr nxh14.1
  have hnn := nxh14.2.1.trans hnn
  have hzz := nxh14.2.2.trans hzz
  have okl0 := okl0.ex nxh14.1
  have okbh1 := okbh1.ex nxh14.1
  have okbh4 := okbh4.ex nxh14.1
  have okbh7 := okbh7.ex nxh14.1
  have okbh10 := okbh10.ex nxh14.1
  refine x_aload_n (pc := 46) dX0_init_46 rfl ?_
  refine x_iconst (v := 0) (pc := 47) dX0_init_47 (by decide) ?_
  refine y_putI (pc := 48) dX0_init_48 qRX0_32 okl0 (fun h15 eh15 nxh15 => ?_)
  have hwp := hwp h15 eh15
  have hex := hex.tr nxh15.1
  have hnn := nxh15.2.1.trans hnn
  have hzz := nxh15.2.2.trans hzz
  have okl0 := okl0.ex nxh15.1
  have okbh1 := okbh1.ex nxh15.1
  have okbh4 := okbh4.ex nxh15.1
  have okbh7 := okbh7.ex nxh15.1
  have okbh10 := okbh10.ex nxh15.1
  exact x_vret (pc := 51) dX0_init_51 rfl hex hnn hzz ⟨rfl, hwp⟩

theorem dX0_kindOf_0 : decode cX0_kindOf 0 = .ok (.aload_n 0, 1) := by decide +kernel
theorem dX0_kindOf_1 : decode cX0_kindOf 1 = .ok (.getstatic 60, 3) := by decide +kernel
theorem dX0_kindOf_4 : decode cX0_kindOf 4 = .ok (.if_acmp .ne 5, 3) := by decide +kernel
theorem dX0_kindOf_7 : decode cX0_kindOf 7 = .ok (.iconst 1, 1) := by decide +kernel
theorem dX0_kindOf_8 : decode cX0_kindOf 8 = .ok (.ireturn, 1) := by decide +kernel
theorem dX0_kindOf_9 : decode cX0_kindOf 9 = .ok (.aload_n 0, 1) := by decide +kernel
theorem dX0_kindOf_10 : decode cX0_kindOf 10 = .ok (.getstatic 66, 3) := by decide +kernel
theorem dX0_kindOf_13 : decode cX0_kindOf 13 = .ok (.if_acmp .ne 5, 3) := by decide +kernel
theorem dX0_kindOf_16 : decode cX0_kindOf 16 = .ok (.iconst 2, 1) := by decide +kernel
theorem dX0_kindOf_17 : decode cX0_kindOf 17 = .ok (.ireturn, 1) := by decide +kernel
theorem dX0_kindOf_18 : decode cX0_kindOf 18 = .ok (.aload_n 0, 1) := by decide +kernel
theorem dX0_kindOf_19 : decode cX0_kindOf 19 = .ok (.getstatic 69, 3) := by decide +kernel
theorem dX0_kindOf_22 : decode cX0_kindOf 22 = .ok (.if_acmp .ne 7, 3) := by decide +kernel
theorem dX0_kindOf_25 : decode cX0_kindOf 25 = .ok (.iconst 3, 1) := by decide +kernel
theorem dX0_kindOf_26 : decode cX0_kindOf 26 = .ok (.goto 4, 3) := by decide +kernel
theorem dX0_kindOf_29 : decode cX0_kindOf 29 = .ok (.iconst 0, 1) := by decide +kernel
theorem dX0_kindOf_30 : decode cX0_kindOf 30 = .ok (.ireturn, 1) := by decide +kernel
def wp_X0_kindOf (l0 : Option Nat) (h : PH) (Q : Int32 → PH → Prop) : Prop := (qWd l0 ∧ (¬ l0 = some (wd 13) → (qWd l0 ∧ (¬ l0 = some (wd 14) → (qWd l0 ∧ (¬ l0 = some (wd 15) → Q 0 h) ∧ (l0 = some (wd 15) → Q 3 h))) ∧ (l0 = some (wd 14) → Q 2 h))) ∧ (l0 = some (wd 13) → Q 1 h))
set_option maxHeartbeats 4000000 in
set_option maxRecDepth 100000 in
theorem sn_X0_kindOf (G : GT) (d : Nat) (l0 : Option Nat) (h : PH) (Q : Int32 → PH → Prop)  (hwp : wp_X0_kindOf l0 h Q) : Mt G (0 + d) 0 0 mX0_kindOf [va_rf l0] h (qqi Q) := by
  unfold wp_X0_kindOf at hwp
  refine Mt.of (by decide) rfl (by cases l0 <;> exact Nat.le_of_ble_eq_true rfl) ?_
  have hex := qEx.rf h
  have hnn : qn h = qn h + 0 := rfl
  have hzz : qz h = qz h + 0 := rfl
  refine x_lvE (lv2 := [(0, va_rf l0)]) rfl ?_
  refine x_aloadq_n (pc := 0) dX0_kindOf_0 rfl ?_
  refine x_gets (pc := 1) dX0_kindOf_1 (by decide) gRX0_60 ?_
  obtain ⟨w2, hwp⟩ := hwp
  refine x_acmp_ne (tgt := 9) (pc := 4) dX0_kindOf_4 (by decide) (by decide) w2 (fun c1 => ?_) (fun c1 => ?_)
  · have hwp := hwp.1 c1
    refine x_aloadq_n (pc := 9) dX0_kindOf_9 rfl ?_
    refine x_gets (pc := 10) dX0_kindOf_10 (by decide) gRX0_66 ?_
    obtain ⟨w4, hwp⟩ := hwp
    refine x_acmp_ne (tgt := 18) (pc := 13) dX0_kindOf_13 (by decide) (by decide) w4 (fun c3 => ?_) (fun c3 => ?_)
    · have hwp := hwp.1 c3
      refine x_aloadq_n (pc := 18) dX0_kindOf_18 rfl ?_
      refine x_gets (pc := 19) dX0_kindOf_19 (by decide) gRX0_69 ?_
      obtain ⟨w6, hwp⟩ := hwp
      refine x_acmp_ne (tgt := 29) (pc := 22) dX0_kindOf_22 (by decide) (by decide) w6 (fun c5 => ?_) (fun c5 => ?_)
      · have hwp := hwp.1 c5
        refine x_iconst (v := 0) (pc := 29) dX0_kindOf_29 (by decide) ?_
        exact x_iret (pc := 30) dX0_kindOf_30 rfl hex hnn hzz ⟨_, rfl, hwp⟩
      · have hwp := hwp.2 c5
        refine x_iconst (v := 3) (pc := 25) dX0_kindOf_25 (by decide) ?_
        refine x_goto (tgt := 30) (pc := 26) dX0_kindOf_26 (by decide) ?_
        exact x_iret (pc := 30) dX0_kindOf_30 rfl hex hnn hzz ⟨_, rfl, hwp⟩
    · have hwp := hwp.2 c3
      refine x_iconst (v := 2) (pc := 16) dX0_kindOf_16 (by decide) ?_
      exact x_iret (pc := 17) dX0_kindOf_17 rfl hex hnn hzz ⟨_, rfl, hwp⟩
  · have hwp := hwp.2 c1
    refine x_iconst (v := 1) (pc := 7) dX0_kindOf_7 (by decide) ?_
    exact x_iret (pc := 8) dX0_kindOf_8 rfl hex hnn hzz ⟨_, rfl, hwp⟩

theorem dX0_add_0 : decode cX0_add 0 = .ok (.aload_n 0, 1) := by decide +kernel
theorem dX0_add_1 : decode cX0_add 1 = .ok (.getfield 29, 3) := by decide +kernel
theorem dX0_add_4 : decode cX0_add 4 = .ok (.ifCond .lt 55, 3) := by decide +kernel
theorem dX0_add_7 : decode cX0_add 7 = .ok (.aload_n 0, 1) := by decide +kernel
theorem dX0_add_8 : decode cX0_add 8 = .ok (.getfield 29, 3) := by decide +kernel
theorem dX0_add_11 : decode cX0_add 11 = .ok (.aload_n 0, 1) := by decide +kernel
theorem dX0_add_12 : decode cX0_add 12 = .ok (.getfield 11, 3) := by decide +kernel
theorem dX0_add_15 : decode cX0_add 15 = .ok (.arraylength, 1) := by decide +kernel
theorem dX0_add_16 : decode cX0_add 16 = .ok (.if_icmp .ge 43, 3) := by decide +kernel
theorem dX0_add_19 : decode cX0_add 19 = .ok (.aload_n 0, 1) := by decide +kernel
theorem dX0_add_20 : decode cX0_add 20 = .ok (.getfield 11, 3) := by decide +kernel
theorem dX0_add_23 : decode cX0_add 23 = .ok (.aload_n 0, 1) := by decide +kernel
theorem dX0_add_24 : decode cX0_add 24 = .ok (.getfield 29, 3) := by decide +kernel
theorem dX0_add_27 : decode cX0_add 27 = .ok (.iload_n 1, 1) := by decide +kernel
theorem dX0_add_28 : decode cX0_add 28 = .ok (.iastore, 1) := by decide +kernel
theorem dX0_add_29 : decode cX0_add 29 = .ok (.aload_n 0, 1) := by decide +kernel
theorem dX0_add_30 : decode cX0_add 30 = .ok (.getfield 15, 3) := by decide +kernel
theorem dX0_add_33 : decode cX0_add 33 = .ok (.aload_n 0, 1) := by decide +kernel
theorem dX0_add_34 : decode cX0_add 34 = .ok (.getfield 29, 3) := by decide +kernel
theorem dX0_add_37 : decode cX0_add 37 = .ok (.iload_n 2, 1) := by decide +kernel
theorem dX0_add_38 : decode cX0_add 38 = .ok (.iastore, 1) := by decide +kernel
theorem dX0_add_39 : decode cX0_add 39 = .ok (.aload_n 0, 1) := by decide +kernel
theorem dX0_add_40 : decode cX0_add 40 = .ok (.getfield 18, 3) := by decide +kernel
theorem dX0_add_43 : decode cX0_add 43 = .ok (.aload_n 0, 1) := by decide +kernel
theorem dX0_add_44 : decode cX0_add 44 = .ok (.getfield 29, 3) := by decide +kernel
theorem dX0_add_47 : decode cX0_add 47 = .ok (.iload_n 3, 1) := by decide +kernel
theorem dX0_add_48 : decode cX0_add 48 = .ok (.iastore, 1) := by decide +kernel
theorem dX0_add_49 : decode cX0_add 49 = .ok (.aload_n 0, 1) := by decide +kernel
theorem dX0_add_50 : decode cX0_add 50 = .ok (.dup, 1) := by decide +kernel
theorem dX0_add_51 : decode cX0_add 51 = .ok (.getfield 29, 3) := by decide +kernel
theorem dX0_add_54 : decode cX0_add 54 = .ok (.iconst 1, 1) := by decide +kernel
theorem dX0_add_55 : decode cX0_add 55 = .ok (.iadd, 1) := by decide +kernel
theorem dX0_add_56 : decode cX0_add 56 = .ok (.putfield 29, 3) := by decide +kernel
theorem dX0_add_59 : decode cX0_add 59 = .ok (.return_, 1) := by decide +kernel
def wp_X0_add (l0 : Nat) (l1 : Int32) (l2 : Int32) (l3 : Int32) (h : PH) (Q : PH → Prop) : Prop := (((qI h l0 5) < 0 → Q h) ∧ (¬ ((qI h l0 5) < 0) → (∃ b2, qR h l0 0 = some b2 ∧ (((nI (qL h b2)) ≤ (qI h l0 5) → Q h) ∧ (¬ ((nI (qL h b2)) ≤ (qI h l0 5)) → (∃ b5, qR h l0 0 = some b5 ∧ (vp_in (qI h l0 5) (qL h b5) ∧ ∀ h7, h7 = qsI h b5 (qI h l0 5).toNatClampNeg l1 → (∃ b9, qR h7 l0 1 = some b9 ∧ (vp_in (qI h7 l0 5) (qL h7 b9) ∧ ∀ h11, h11 = qsI h7 b9 (qI h7 l0 5).toNatClampNeg l2 → (∃ b13, qR h11 l0 2 = some b13 ∧ (vp_in (qI h11 l0 5) (qL h11 b13) ∧ ∀ h15, h15 = qsI h11 b13 (qI h11 l0 5).toNatClampNeg l3 → (∀ h17, h17 = qsI h15 l0 5 ((qI h15 l0 5) + 1) → Q h17))))))))))))
set_option maxHeartbeats 4000000 in
set_option maxRecDepth 100000 in
theorem sn_X0_add (G : GT) (d : Nat) (l0 : Nat) (l1 : Int32) (l2 : Int32) (l3 : Int32) (h : PH) (Q : PH → Prop) (okl0 : qOK h 0 l0) (hwp : wp_X0_add l0 l1 l2 l3 h Q) : Mt G (0 + d) 0 0 mX0_add [.ref l0, .int l1, .int l2, .int l3] h (qqv Q) := by
  unfold wp_X0_add at hwp
  refine Mt.of (by decide) rfl (Nat.le_of_ble_eq_true rfl) ?_
  have hex := qEx.rf h
  have hnn : qn h = qn h + 0 := rfl
  have hzz : qz h = qz h + 0 := rfl
  refine x_lvE (lv2 := [(0, .ref l0), (1, .int l1), (2, .int l2), (3, .int l3)]) rfl ?_
  refine x_aload_n (pc := 0) dX0_add_0 rfl ?_
  refine x_getI (pc := 1) dX0_add_1 qRX0_29 okl0 (by decide) ?_
  refine x_if_lt (tgt := 59) (pc := 4) dX0_add_4 (by decide) (fun c1 => ?_) (fun c1 => ?_)
  · have hwp := hwp.1 c1
    exact x_vret (pc := 59) dX0_add_59 rfl hex hnn hzz ⟨rfl, hwp⟩
  · have hwp := hwp.2 c1
    refine x_aload_n (pc := 7) dX0_add_7 rfl ?_
    refine x_getI (pc := 8) dX0_add_8 qRX0_29 okl0 (by decide) ?_
    refine x_aload_n (pc := 11) dX0_add_11 rfl ?_
    obtain ⟨b2, e3, hwp⟩ := hwp
    refine x_getR (pc := 12) dX0_add_12 qRX0_11 okl0 e3 (fun okb2 => ?_)
    refine x_alen (pc := 15) dX0_add_15 okb2 (by decide) ?_
    refine x_icmp_ge (tgt := 59) (pc := 16) dX0_add_16 (by decide) (fun c4 => ?_) (fun c4 => ?_)
    · have hwp := hwp.1 c4
      exact x_vret (pc := 59) dX0_add_59 rfl hex hnn hzz ⟨rfl, hwp⟩
    · have hwp := hwp.2 c4
      refine x_aload_n (pc := 19) dX0_add_19 rfl ?_
      obtain ⟨b5, e6, hwp⟩ := hwp
      refine x_getR (pc := 20) dX0_add_20 qRX0_11 okl0 e6 (fun okb5 => ?_)
      refine x_aload_n (pc := 23) dX0_add_23 rfl ?_
      refine x_getI (pc := 24) dX0_add_24 qRX0_29 okl0 (by decide) ?_
      refine x_iload_n (pc := 27) dX0_add_27 rfl ?_
      obtain ⟨i8, hwp⟩ := hwp
      refine y_iastore (pc := 28) dX0_add_28 okb5 i8 (fun h7 eh7 nxh7 => ?_)
      have hwp := hwp h7 eh7
      have hex := hex.tr nxh7.1
      have hnn := nxh7.2.1.trans hnn
      have hzz := nxh7.2.2.trans hzz
      have okl0 := okl0.ex nxh7.1
      have okb2 := okb2.ex nxh7.1
      have okb5 := okb5.ex nxh7.1
      refine x_aload_n (pc := 29) dX0_add_29 rfl ?_
      obtain ⟨b9, e10, hwp⟩ := hwp
      refine x_getR (pc := 30) dX0_add_30 qRX0_15 okl0 e10 (fun okb9 => ?_)
      refine x_aload_n (pc := 33) dX0_add_33 rfl ?_
      refine x_getI (pc := 34) dX0_add_34 qRX0_29 okl0 (by decide) ?_
      refine x_iload_n (pc := 37) dX0_add_37 rfl ?_
      obtain ⟨i12, hwp⟩ := hwp
      refine y_iastore (pc := 38) dX0_add_38 okb9 i12 (fun h11 eh11 nxh11 => ?_)
      have hwp := hwp h11 eh11
      have hex := hex.tr nxh11.1
      have hnn := nxh11.2.1.trans hnn
      have hzz := nxh11.2.2.trans hzz
      have okl0 := okl0.ex nxh11.1
      have okb2 := okb2.ex nxh11.1
      have okb5 := okb5.ex nxh11.1
      have okb9 := okb9.ex nxh11.1
      refine x_aload_n (pc := 39) dX0_add_39 rfl ?_
      obtain ⟨b13, e14, hwp⟩ := hwp
      refine x_getR (pc := 40) dX0_add_40 qRX0_18 okl0 e14 (fun okb13 => ?_)
      refine x_aload_n (pc := 43) dX0_add_43 rfl ?_
      refine x_getI (pc := 44) dX0_add_44 qRX0_29 okl0 (by decide) ?_
      refine x_iload_n (pc := 47) dX0_add_47 rfl ?_
      obtain ⟨i16, hwp⟩ := hwp
      refine y_iastore (pc := 48) dX0_add_48 okb13 i16 (fun h15 eh15 nxh15 => ?_)
      have hwp := hwp h15 eh15
      have hex := hex.tr nxh15.1
      have hnn := nxh15.2.1.trans hnn
      have hzz := nxh15.2.2.trans hzz
      have okl0 := okl0.ex nxh15.1
      have okb2 := okb2.ex nxh15.1
      have okb5 := okb5.ex nxh15.1
      have okb9 := okb9.ex nxh15.1
      have okb13 := okb13.ex nxh15.1
      refine x_aload_n (pc := 49) dX0_add_49 rfl ?_
      refine x_dup (pc := 50) dX0_add_50 rfl ?_
      refine x_getI (pc := 51) dX0_add_51 qRX0_29 okl0 (by decide) ?_
      refine x_iconst (v := 1) (pc := 54) dX0_add_54 (by decide) ?_
      refine x_iadd (pc := 55) dX0_add_55 ?_
      refine y_putI (pc := 56) dX0_add_56 qRX0_29 okl0 (fun h17 eh17 nxh17 => ?_)
      have hwp := hwp h17 eh17
      have hex := hex.tr nxh17.1
      have hnn := nxh17.2.1.trans hnn
      have hzz := nxh17.2.2.trans hzz
      have okl0 := okl0.ex nxh17.1
      have okb2 := okb2.ex nxh17.1
      have okb5 := okb5.ex nxh17.1
      have okb9 := okb9.ex nxh17.1
      have okb13 := okb13.ex nxh17.1
      exact x_vret (pc := 59) dX0_add_59 rfl hex hnn hzz ⟨rfl, hwp⟩

theorem dX0_isValue_0 : decode cX0_isValue 0 = .ok (.aload_n 0, 1) := by decide +kernel
theorem dX0_isValue_1 : decode cX0_isValue 1 = .ok (.invokevirtual 35, 3) := by decide +kernel
theorem dX0_isValue_4 : decode cX0_isValue 4 = .ok (.astore_n 1, 1) := by decide +kernel
theorem dX0_isValue_5 : decode cX0_isValue 5 = .ok (.aload_n 0, 1) := by decide +kernel
theorem dX0_isValue_6 : decode cX0_isValue 6 = .ok (.invokevirtual 116, 3) := by decide +kernel
theorem dX0_isValue_9 : decode cX0_isValue 9 = .ok (.ifCond .ne 15, 3) := by decide +kernel
theorem dX0_isValue_12 : decode cX0_isValue 12 = .ok (.aload_n 1, 1) := by decide +kernel
theorem dX0_isValue_13 : decode cX0_isValue 13 = .ok (.ifnull 15, 3) := by decide +kernel
theorem dX0_isValue_16 : decode cX0_isValue 16 = .ok (.aload_n 1, 1) := by decide +kernel
theorem dX0_isValue_17 : decode cX0_isValue 17 = .ok (.getfield 119, 3) := by decide +kernel
theorem dX0_isValue_20 : decode cX0_isValue 20 = .ok (.iconst (-1), 1) := by decide +kernel
theorem dX0_isValue_21 : decode cX0_isValue 21 = .ok (.if_icmp .eq 7, 3) := by decide +kernel
theorem dX0_isValue_24 : decode cX0_isValue 24 = .ok (.iconst 1, 1) := by decide +kernel
theorem dX0_isValue_25 : decode cX0_isValue 25 = .ok (.goto 4, 3) := by decide +kernel
theorem dX0_isValue_28 : decode cX0_isValue 28 = .ok (.iconst 0, 1) := by decide +kernel
theorem dX0_isValue_29 : decode cX0_isValue 29 = .ok (.ireturn, 1) := by decide +kernel
def wp_X0_isValue (l0 : Nat) (h : PH) (Q : Int32 → PH → Prop) : Prop := (wp_X7_knownWord l0 h (fun r2 h1 => (wp_X7_isNumber l0 h1 (fun r4 h3 => ((¬ r4 = 0 → Q 1 h3) ∧ (r4 = 0 → ((r2 = none → Q 0 h3) ∧ (∀ b7 : Nat, r2 = some b7 → (∃ i8, i8 < 34 ∧ b7 = wd i8 ∧ (((q_wc 2 i8) = (-1) → Q 0 h3) ∧ (¬ ((q_wc 2 i8) = (-1)) → Q 1 h3)))))))))))
set_option maxHeartbeats 4000000 in
set_option maxRecDepth 100000 in
theorem sn_X0_isValue (G : GT) (d : Nat) (l0 : Nat) (h : PH) (Q : Int32 → PH → Prop) (okl0 : qOK h 7 l0) (hwp : wp_X0_isValue l0 h Q) : Mt G (1 + d) 0 0 mX0_isValue [.ref l0] h (qqb Q) := by
  unfold wp_X0_isValue at hwp
  refine Mt.of (by decide) rfl (Nat.le_of_ble_eq_true rfl) ?_
  have hex := qEx.rf h
  have hnn : qn h = qn h + 0 := rfl
  have hzz : qz h = qz h + 0 := rfl
  refine x_lvE (lv2 := [(0, .ref l0)]) rfl ?_
  refine x_aload_n (pc := 0) dX0_isValue_0 rfl ?_
  refine x_invV (As := []) (st := []) (pc := 1) dX0_isValue_1 lRX0_35 fX7_knownWord vX7_knownWord okl0 rfl (Nat.le_of_ble_eq_true rfl) (q_R (by omega) (by decide)) (q_C hnn hzz (by decide) (by decide)) (sn_X7_knownWord G (d + 0) l0 h _ okl0 hwp) (k_r (fun r2 h1 hwp cxh1 => ?_))
  have hex := hex.tr cxh1.1
  have hnn : qn h1 = qn h + 0 := by have := cxh1.2.1; omega
  have hzz : qz h1 = qz h + 0 := by have := cxh1.2.2; omega
  have okl0 := okl0.ex cxh1.1
  refine x_astoreq_n (lv2 := [(1, va_rf r2), (0, .ref l0)]) (pc := 4) dX0_isValue_4 (by decide) rfl ?_
  refine x_aload_n (pc := 5) dX0_isValue_5 rfl ?_
  refine x_invV (As := []) (st := []) (pc := 6) dX0_isValue_6 lRX0_116 fX7_isNumber vX7_isNumber okl0 rfl (Nat.le_of_ble_eq_true rfl) (q_R (by omega) (by decide)) (q_C hnn hzz (by decide) (by decide)) (sn_X7_isNumber G (d + 0) l0 h1 _ okl0 hwp) (k_b (fun r4 h3 hwp zbr4 cxh3 => ?_))
  have hex := hex.tr cxh3.1
  have hnn : qn h3 = qn h + 0 := by have := cxh3.2.1; omega
  have hzz : qz h3 = qz h + 0 := by have := cxh3.2.2; omega
  have okl0 := okl0.ex cxh3.1
  refine x_if_ne (tgt := 24) (pc := 9) dX0_isValue_9 (by decide) (fun c5 => ?_) (fun c5 => ?_)
  · have hwp := hwp.1 c5
    refine x_iconst (v := 1) (pc := 24) dX0_isValue_24 (by decide) ?_
    refine x_goto (tgt := 29) (pc := 25) dX0_isValue_25 (by decide) ?_
    exact x_zret (pc := 29) dX0_isValue_29 rfl hex hnn hzz (by decide) ⟨_, rfl, by decide, hwp⟩
  · have hwp := hwp.2 c5
    refine x_aloadq_n (pc := 12) dX0_isValue_12 rfl ?_
    refine x_ifnull (tgt := 28) (pc := 13) dX0_isValue_13 (by decide) (fun c6 => ?_) (fun b7 c6 => ?_)
    · have hwp := hwp.1 c6
      refine x_iconst (v := 0) (pc := 28) dX0_isValue_28 (by decide) ?_
      exact x_zret (pc := 29) dX0_isValue_29 rfl hex hnn hzz (by decide) ⟨_, rfl, by decide, hwp⟩
    · have hwp := hwp.2 b7 c6
      refine x_lvE (lv2 := [(1, .ref b7), (0, .ref l0)]) (by rw [c6]; rfl) ?_
      refine x_aload_n (pc := 16) dX0_isValue_16 rfl ?_
      obtain ⟨i8, hi8, e9, hwp⟩ := hwp
      refine x_wgetE (i := i8) (q := q_wt 2) e9 (pc := 17) dX0_isValue_17 hi8 (by simp [q_wt, qwF]) wRX0_119 ?_
      refine x_iconst (v := (-1)) (pc := 20) dX0_isValue_20 (by decide) ?_
      refine x_icmp_eq (tgt := 28) (pc := 21) dX0_isValue_21 (by decide) (fun c10 => ?_) (fun c10 => ?_)
      · have hwp := hwp.1 c10
        refine x_iconst (v := 0) (pc := 28) dX0_isValue_28 (by decide) ?_
        exact x_zret (pc := 29) dX0_isValue_29 rfl hex hnn hzz (by decide) ⟨_, rfl, by decide, hwp⟩
      · have hwp := hwp.2 c10
        refine x_iconst (v := 1) (pc := 24) dX0_isValue_24 (by decide) ?_
        refine x_goto (tgt := 29) (pc := 25) dX0_isValue_25 (by decide) ?_
        exact x_zret (pc := 29) dX0_isValue_29 rfl hex hnn hzz (by decide) ⟨_, rfl, by decide, hwp⟩

theorem dX0_takeOperand_0 : decode cX0_takeOperand 0 = .ok (.aload_n 0, 1) := by decide +kernel
theorem dX0_takeOperand_1 : decode cX0_takeOperand 1 = .ok (.invokevirtual 35, 3) := by decide +kernel
theorem dX0_takeOperand_4 : decode cX0_takeOperand 4 = .ok (.astore_n 1, 1) := by decide +kernel
theorem dX0_takeOperand_5 : decode cX0_takeOperand 5 = .ok (.aload_n 1, 1) := by decide +kernel
theorem dX0_takeOperand_6 : decode cX0_takeOperand 6 = .ok (.ifnonnull 10, 3) := by decide +kernel
theorem dX0_takeOperand_9 : decode cX0_takeOperand 9 = .ok (.aload_n 0, 1) := by decide +kernel
theorem dX0_takeOperand_10 : decode cX0_takeOperand 10 = .ok (.invokevirtual 112, 3) := by decide +kernel
theorem dX0_takeOperand_13 : decode cX0_takeOperand 13 = .ok (.goto 9, 3) := by decide +kernel
theorem dX0_takeOperand_16 : decode cX0_takeOperand 16 = .ok (.iconst (-1), 1) := by decide +kernel
theorem dX0_takeOperand_17 : decode cX0_takeOperand 17 = .ok (.aload_n 1, 1) := by decide +kernel
theorem dX0_takeOperand_18 : decode cX0_takeOperand 18 = .ok (.getfield 119, 3) := by decide +kernel
theorem dX0_takeOperand_21 : decode cX0_takeOperand 21 = .ok (.isub, 1) := by decide +kernel
theorem dX0_takeOperand_22 : decode cX0_takeOperand 22 = .ok (.istore_n 2, 1) := by decide +kernel
theorem dX0_takeOperand_23 : decode cX0_takeOperand 23 = .ok (.aload_n 0, 1) := by decide +kernel
theorem dX0_takeOperand_24 : decode cX0_takeOperand 24 = .ok (.invokevirtual 49, 3) := by decide +kernel
theorem dX0_takeOperand_27 : decode cX0_takeOperand 27 = .ok (.iload_n 2, 1) := by decide +kernel
theorem dX0_takeOperand_28 : decode cX0_takeOperand 28 = .ok (.ireturn, 1) := by decide +kernel
def wp_X0_takeOperand (l0 : Nat) (h : PH) (Q : Int32 → PH → Prop) : Prop := (wp_X7_knownWord l0 h (fun r2 h1 => ((r2 = none → (wp_X7_content l0 h1 (fun r6 h5 => (wp_X7_pass l0 h5 (fun h7 => Q r6 h7))))) ∧ (∀ b4 : Nat, r2 = some b4 → (∃ i9, i9 < 34 ∧ b4 = wd i9 ∧ ∀ v11 : Int32, v11 = (-1) - (q_wc 2 i9) → (wp_X7_pass l0 h1 (fun h12 => Q v11 h12)))))))
set_option maxHeartbeats 4000000 in
set_option maxRecDepth 100000 in
theorem sn_X0_takeOperand (G : GT) (d : Nat) (l0 : Nat) (h : PH) (Q : Int32 → PH → Prop) (okl0 : qOK h 7 l0) (hwp : wp_X0_takeOperand l0 h Q) : Mt G (1 + d) 0 0 mX0_takeOperand [.ref l0] h (qqi Q) := by
  unfold wp_X0_takeOperand at hwp
  refine Mt.of (by decide) rfl (Nat.le_of_ble_eq_true rfl) ?_
  have hex := qEx.rf h
  have hnn : qn h = qn h + 0 := rfl
  have hzz : qz h = qz h + 0 := rfl
  refine x_lvE (lv2 := [(0, .ref l0)]) rfl ?_
  refine x_aload_n (pc := 0) dX0_takeOperand_0 rfl ?_
  refine x_invV (As := []) (st := []) (pc := 1) dX0_takeOperand_1 lRX0_35 fX7_knownWord vX7_knownWord okl0 rfl (Nat.le_of_ble_eq_true rfl) (q_R (by omega) (by decide)) (q_C hnn hzz (by decide) (by decide)) (sn_X7_knownWord G (d + 0) l0 h _ okl0 hwp) (k_r (fun r2 h1 hwp cxh1 => ?_))
  have hex := hex.tr cxh1.1
  have hnn : qn h1 = qn h + 0 := by have := cxh1.2.1; omega
  have hzz : qz h1 = qz h + 0 := by have := cxh1.2.2; omega
  have okl0 := okl0.ex cxh1.1
  refine x_astoreq_n (lv2 := [(1, va_rf r2), (0, .ref l0)]) (pc := 4) dX0_takeOperand_4 (by decide) rfl ?_
  refine x_aloadq_n (pc := 5) dX0_takeOperand_5 rfl ?_
  refine x_ifnonnull (tgt := 16) (pc := 6) dX0_takeOperand_6 (by decide) (fun b4 c3 => ?_) (fun c3 => ?_)
  · have hwp := hwp.2 b4 c3
    refine x_lvE (lv2 := [(1, .ref b4), (0, .ref l0)]) (by rw [c3]; rfl) ?_
    refine x_iconst (v := (-1)) (pc := 16) dX0_takeOperand_16 (by decide) ?_
    refine x_aload_n (pc := 17) dX0_takeOperand_17 rfl ?_
    obtain ⟨i9, hi9, e10, hwp⟩ := hwp
    refine x_wgetE (i := i9) (q := q_wt 2) e10 (pc := 18) dX0_takeOperand_18 hi9 (by simp [q_wt, qwF]) wRX0_119 ?_
    refine x_isub (pc := 21) dX0_takeOperand_21 ?_
    refine x_nmI (fun v11 ev11 => ?_)
    have hwp := hwp v11 ev11
    refine x_istore_n (lv2 := [(2, .int v11), (1, .ref b4), (0, .ref l0)]) (pc := 22) dX0_takeOperand_22 (by decide) rfl ?_
    refine x_aload_n (pc := 23) dX0_takeOperand_23 rfl ?_
    refine x_invV (As := []) (st := []) (pc := 24) dX0_takeOperand_24 lRX0_49 fX7_pass vX7_pass okl0 rfl (Nat.le_of_ble_eq_true rfl) (q_R (by omega) (by decide)) (q_C hnn hzz (by decide) (by decide)) (sn_X7_pass G (d + 0) l0 h1 _ okl0 hwp) (k_v (fun h12 hwp cxh12 => ?_))
    have hex := hex.tr cxh12.1
    have hnn : qn h12 = qn h + 0 := by have := cxh12.2.1; omega
    have hzz : qz h12 = qz h + 0 := by have := cxh12.2.2; omega
    have okl0 := okl0.ex cxh12.1
    refine x_iload_n (pc := 27) dX0_takeOperand_27 rfl ?_
    exact x_iret (pc := 28) dX0_takeOperand_28 rfl hex hnn hzz ⟨_, rfl, hwp⟩
  · have hwp := hwp.1 c3
    refine x_aload_n (pc := 9) dX0_takeOperand_9 rfl ?_
    refine x_invV (As := []) (st := []) (pc := 10) dX0_takeOperand_10 lRX0_112 fX7_content vX7_content okl0 rfl (Nat.le_of_ble_eq_true rfl) (q_R (by omega) (by decide)) (q_C hnn hzz (by decide) (by decide)) (sn_X7_content G (d + 0) l0 h1 _ okl0 hwp) (k_i (fun r6 h5 hwp cxh5 => ?_))
    have hex := hex.tr cxh5.1
    have hnn : qn h5 = qn h + 0 := by have := cxh5.2.1; omega
    have hzz : qz h5 = qz h + 0 := by have := cxh5.2.2; omega
    have okl0 := okl0.ex cxh5.1
    refine x_goto (tgt := 22) (pc := 13) dX0_takeOperand_13 (by decide) ?_
    refine x_istore_n (lv2 := [(2, .int r6), (1, va_rf r2), (0, .ref l0)]) (pc := 22) dX0_takeOperand_22 (by decide) (by cases r2 <;> rfl) ?_
    refine x_aload_n (pc := 23) dX0_takeOperand_23 rfl ?_
    refine x_invV (As := []) (st := []) (pc := 24) dX0_takeOperand_24 lRX0_49 fX7_pass vX7_pass okl0 rfl (Nat.le_of_ble_eq_true rfl) (q_R (by omega) (by decide)) (q_C hnn hzz (by decide) (by decide)) (sn_X7_pass G (d + 0) l0 h5 _ okl0 hwp) (k_v (fun h7 hwp cxh7 => ?_))
    have hex := hex.tr cxh7.1
    have hnn : qn h7 = qn h + 0 := by have := cxh7.2.1; omega
    have hzz : qz h7 = qz h + 0 := by have := cxh7.2.2; omega
    have okl0 := okl0.ex cxh7.1
    refine x_iload_n (pc := 27) dX0_takeOperand_27 rfl ?_
    exact x_iret (pc := 28) dX0_takeOperand_28 rfl hex hnn hzz ⟨_, rfl, hwp⟩

theorem dX0_readComparison_0 : decode cX0_readComparison 0 = .ok (.aload_n 1, 1) := by decide +kernel
theorem dX0_readComparison_1 : decode cX0_readComparison 1 = .ok (.invokestatic 108, 3) := by decide +kernel
theorem dX0_readComparison_4 : decode cX0_readComparison 4 = .ok (.istore_n 2, 1) := by decide +kernel
theorem dX0_readComparison_5 : decode cX0_readComparison 5 = .ok (.aload_n 1, 1) := by decide +kernel
theorem dX0_readComparison_6 : decode cX0_readComparison 6 = .ok (.bipush 60, 2) := by decide +kernel
theorem dX0_readComparison_8 : decode cX0_readComparison 8 = .ok (.invokevirtual 95, 3) := by decide +kernel
theorem dX0_readComparison_11 : decode cX0_readComparison 11 = .ok (.ifCond .ne 27, 3) := by decide +kernel
theorem dX0_readComparison_14 : decode cX0_readComparison 14 = .ok (.aload_n 1, 1) := by decide +kernel
theorem dX0_readComparison_15 : decode cX0_readComparison 15 = .ok (.bipush 61, 2) := by decide +kernel
theorem dX0_readComparison_17 : decode cX0_readComparison 17 = .ok (.invokevirtual 95, 3) := by decide +kernel
theorem dX0_readComparison_20 : decode cX0_readComparison 20 = .ok (.ifCond .ne 18, 3) := by decide +kernel
theorem dX0_readComparison_23 : decode cX0_readComparison 23 = .ok (.aload_n 1, 1) := by decide +kernel
theorem dX0_readComparison_24 : decode cX0_readComparison 24 = .ok (.bipush 62, 2) := by decide +kernel
theorem dX0_readComparison_26 : decode cX0_readComparison 26 = .ok (.invokevirtual 95, 3) := by decide +kernel
theorem dX0_readComparison_29 : decode cX0_readComparison 29 = .ok (.ifCond .ne 9, 3) := by decide +kernel
theorem dX0_readComparison_32 : decode cX0_readComparison 32 = .ok (.aload_n 1, 1) := by decide +kernel
theorem dX0_readComparison_33 : decode cX0_readComparison 33 = .ok (.iconst 1, 1) := by decide +kernel
theorem dX0_readComparison_34 : decode cX0_readComparison 34 = .ok (.invokevirtual 45, 3) := by decide +kernel
theorem dX0_readComparison_37 : decode cX0_readComparison 37 = .ok (.ireturn, 1) := by decide +kernel
theorem dX0_readComparison_38 : decode cX0_readComparison 38 = .ok (.aload_n 1, 1) := by decide +kernel
theorem dX0_readComparison_39 : decode cX0_readComparison 39 = .ok (.invokevirtual 112, 3) := by decide +kernel
theorem dX0_readComparison_42 : decode cX0_readComparison 42 = .ok (.istore_n 3, 1) := by decide +kernel
theorem dX0_readComparison_43 : decode cX0_readComparison 43 = .ok (.aload_n 1, 1) := by decide +kernel
theorem dX0_readComparison_44 : decode cX0_readComparison 44 = .ok (.invokevirtual 49, 3) := by decide +kernel
theorem dX0_readComparison_47 : decode cX0_readComparison 47 = .ok (.aload_n 1, 1) := by decide +kernel
theorem dX0_readComparison_48 : decode cX0_readComparison 48 = .ok (.invokestatic 98, 3) := by decide +kernel
theorem dX0_readComparison_51 : decode cX0_readComparison 51 = .ok (.ifCond .ne 9, 3) := by decide +kernel
theorem dX0_readComparison_54 : decode cX0_readComparison 54 = .ok (.aload_n 1, 1) := by decide +kernel
theorem dX0_readComparison_55 : decode cX0_readComparison 55 = .ok (.iconst 1, 1) := by decide +kernel
theorem dX0_readComparison_56 : decode cX0_readComparison 56 = .ok (.invokevirtual 45, 3) := by decide +kernel
theorem dX0_readComparison_59 : decode cX0_readComparison 59 = .ok (.ireturn, 1) := by decide +kernel
theorem dX0_readComparison_60 : decode cX0_readComparison 60 = .ok (.aload_n 0, 1) := by decide +kernel
theorem dX0_readComparison_61 : decode cX0_readComparison 61 = .ok (.iload_n 3, 1) := by decide +kernel
theorem dX0_readComparison_62 : decode cX0_readComparison 62 = .ok (.iload_n 2, 1) := by decide +kernel
theorem dX0_readComparison_63 : decode cX0_readComparison 63 = .ok (.aload_n 1, 1) := by decide +kernel
theorem dX0_readComparison_64 : decode cX0_readComparison 64 = .ok (.invokestatic 108, 3) := by decide +kernel
theorem dX0_readComparison_67 : decode cX0_readComparison 67 = .ok (.invokevirtual 82, 3) := by decide +kernel
theorem dX0_readComparison_70 : decode cX0_readComparison 70 = .ok (.iconst 1, 1) := by decide +kernel
theorem dX0_readComparison_71 : decode cX0_readComparison 71 = .ok (.ireturn, 1) := by decide +kernel
def wp_X0_readComparison_38 (l0 : Nat) (l1 : Nat) (l2 : Int32)  (h : PH) (Q : Int32 → PH → Prop) : Prop := (wp_X7_content l1 h (fun r16 h15 => (wp_X7_pass l1 h15 (fun h17 => (wp_X0_isValue l1 h17 (fun r20 h19 => ((¬ r20 = 0 → (wp_X0_takeOperand l1 h19 (fun r23 h22 => (wp_X0_add l0 r16 l2 r23 h22 (fun h24 => Q 1 h24))))) ∧ (r20 = 0 → (wp_X7_fail l1 1 h19 (fun r27 h26 => ((r27 = 0 ∨ r27 = 1) ∧ Q r27 h26)))))))))))
set_option maxHeartbeats 4000000 in
set_option maxRecDepth 100000 in
theorem sg_X0_readComparison_38 (G : GT) (d : Nat) (h0 : PH) (l0 : Nat) (l1 : Nat) (l2 : Int32) (h : PH) (Q : Int32 → PH → Prop) (hex : qEx h0 h) (hnn : qn h = qn h0 + 0) (hzz : qz h = qz h0 + 0) (okl0 : qOK h 0 l0) (okl1 : qOK h 7 l1) (hwp : wp_X0_readComparison_38 l0 l1 l2 h Q) : Ex G (qrm (2 + d) 0 0) mX0_readComparison (qn h0) (qz h0) (ZN G h0 0 0 (qqb Q)) 38 [(0, .ref l0), (1, .ref l1), (2, .int l2)] [] h := by
  unfold wp_X0_readComparison_38 at hwp
  refine x_aload_n (pc := 38) dX0_readComparison_38 rfl ?_
  refine x_invV (As := []) (st := []) (pc := 39) dX0_readComparison_39 lRX0_112 fX7_content vX7_content okl1 rfl (Nat.le_of_ble_eq_true rfl) (q_R (by omega) (by decide)) (q_C hnn hzz (by decide) (by decide)) (sn_X7_content G (d + 1) l1 h _ okl1 hwp) (k_i (fun r16 h15 hwp cxh15 => ?_))
  have hex := hex.tr cxh15.1
  have hnn : qn h15 = qn h0 + 0 := by have := cxh15.2.1; omega
  have hzz : qz h15 = qz h0 + 0 := by have := cxh15.2.2; omega
  have okl0 := okl0.ex cxh15.1
  have okl1 := okl1.ex cxh15.1
  refine x_istore_n (lv2 := [(3, .int r16), (0, .ref l0), (1, .ref l1), (2, .int l2)]) (pc := 42) dX0_readComparison_42 (by decide) rfl ?_
  refine x_aload_n (pc := 43) dX0_readComparison_43 rfl ?_
  refine x_invV (As := []) (st := []) (pc := 44) dX0_readComparison_44 lRX0_49 fX7_pass vX7_pass okl1 rfl (Nat.le_of_ble_eq_true rfl) (q_R (by omega) (by decide)) (q_C hnn hzz (by decide) (by decide)) (sn_X7_pass G (d + 1) l1 h15 _ okl1 hwp) (k_v (fun h17 hwp cxh17 => ?_))
  have hex := hex.tr cxh17.1
  have hnn : qn h17 = qn h0 + 0 := by have := cxh17.2.1; omega
  have hzz : qz h17 = qz h0 + 0 := by have := cxh17.2.2; omega
  have okl0 := okl0.ex cxh17.1
  have okl1 := okl1.ex cxh17.1
  refine x_aload_n (pc := 47) dX0_readComparison_47 rfl ?_
  refine x_invS (As := [.ref l1]) (st := []) (pc := 48) dX0_readComparison_48 lRX0_98 fX0_isValue sX0_isValue rfl (Nat.le_of_ble_eq_true rfl) (q_R (by omega) (by decide)) (q_C hnn hzz (by decide) (by decide)) (sn_X0_isValue G (d + 0) l1 h17 _ okl1 hwp) (k_b (fun r20 h19 hwp zbr20 cxh19 => ?_))
  have hex := hex.tr cxh19.1
  have hnn : qn h19 = qn h0 + 0 := by have := cxh19.2.1; omega
  have hzz : qz h19 = qz h0 + 0 := by have := cxh19.2.2; omega
  have okl0 := okl0.ex cxh19.1
  have okl1 := okl1.ex cxh19.1
  refine x_if_ne (tgt := 60) (pc := 51) dX0_readComparison_51 (by decide) (fun c21 => ?_) (fun c21 => ?_)
  · have hwp := hwp.1 c21
    refine x_aload_n (pc := 60) dX0_readComparison_60 rfl ?_
    refine x_iload_n (pc := 61) dX0_readComparison_61 rfl ?_
    refine x_iload_n (pc := 62) dX0_readComparison_62 rfl ?_
    refine x_aload_n (pc := 63) dX0_readComparison_63 rfl ?_
    refine x_invS (As := [.ref l1]) (st := [.int l2, .int r16, .ref l0]) (pc := 64) dX0_readComparison_64 lRX0_108 fX0_takeOperand sX0_takeOperand rfl (Nat.le_of_ble_eq_true rfl) (q_R (by omega) (by decide)) (q_C hnn hzz (by decide) (by decide)) (sn_X0_takeOperand G (d + 0) l1 h19 _ okl1 hwp) (k_i (fun r23 h22 hwp cxh22 => ?_))
    have hex := hex.tr cxh22.1
    have hnn : qn h22 = qn h0 + 0 := by have := cxh22.2.1; omega
    have hzz : qz h22 = qz h0 + 0 := by have := cxh22.2.2; omega
    have okl0 := okl0.ex cxh22.1
    have okl1 := okl1.ex cxh22.1
    refine x_invV (As := [.int r16, .int l2, .int r23]) (st := []) (pc := 67) dX0_readComparison_67 lRX0_82 fX0_add vX0_add okl0 rfl (Nat.le_of_ble_eq_true rfl) (q_R (by omega) (by decide)) (q_C hnn hzz (by decide) (by decide)) (sn_X0_add G (d + 1) l0 r16 l2 r23 h22 _ okl0 hwp) (k_v (fun h24 hwp cxh24 => ?_))
    have hex := hex.tr cxh24.1
    have hnn : qn h24 = qn h0 + 0 := by have := cxh24.2.1; omega
    have hzz : qz h24 = qz h0 + 0 := by have := cxh24.2.2; omega
    have okl0 := okl0.ex cxh24.1
    have okl1 := okl1.ex cxh24.1
    refine x_iconst (v := 1) (pc := 70) dX0_readComparison_70 (by decide) ?_
    exact x_zret (pc := 71) dX0_readComparison_71 rfl hex hnn hzz (by decide) ⟨_, rfl, by decide, hwp⟩
  · have hwp := hwp.2 c21
    refine x_aload_n (pc := 54) dX0_readComparison_54 rfl ?_
    refine x_iconst (v := 1) (pc := 55) dX0_readComparison_55 (by decide) ?_
    refine x_invV (As := [.int 1]) (st := []) (pc := 56) dX0_readComparison_56 lRX0_45 fX7_fail vX7_fail okl1 rfl (Nat.le_of_ble_eq_true rfl) (q_R (by omega) (by decide)) (q_C hnn hzz (by decide) (by decide)) (sn_X7_fail G (d + 1) l1 1 h19 _ okl1 hwp) (k_b (fun r27 h26 hwp zbr27 cxh26 => ?_))
    have hex := hex.tr cxh26.1
    have hnn : qn h26 = qn h0 + 0 := by have := cxh26.2.1; omega
    have hzz : qz h26 = qz h0 + 0 := by have := cxh26.2.2; omega
    have okl0 := okl0.ex cxh26.1
    have okl1 := okl1.ex cxh26.1
    exact x_zret (pc := 59) dX0_readComparison_59 rfl hex hnn hzz hwp.1 ⟨_, rfl, hwp.1, hwp.2⟩
def wp_X0_readComparison (l0 : Nat) (l1 : Nat) (h : PH) (Q : Int32 → PH → Prop) : Prop := (wp_X0_takeOperand l1 h (fun r2 h1 => (wp_X7_isSign l1 60 h1 (fun r4 h3 => ((¬ r4 = 0 → (wp_X0_readComparison_38 l0 l1 r2 h3 Q)) ∧ (r4 = 0 → (wp_X7_isSign l1 61 h3 (fun r7 h6 => ((¬ r7 = 0 → (wp_X0_readComparison_38 l0 l1 r2 h6 Q)) ∧ (r7 = 0 → (wp_X7_isSign l1 62 h6 (fun r10 h9 => ((¬ r10 = 0 → (wp_X0_readComparison_38 l0 l1 r2 h9 Q)) ∧ (r10 = 0 → (wp_X7_fail l1 1 h9 (fun r13 h12 => ((r13 = 0 ∨ r13 = 1) ∧ Q r13 h12)))))))))))))))))
set_option maxHeartbeats 4000000 in
set_option maxRecDepth 100000 in
theorem sn_X0_readComparison (G : GT) (d : Nat) (l0 : Nat) (l1 : Nat) (h : PH) (Q : Int32 → PH → Prop) (okl0 : qOK h 0 l0) (okl1 : qOK h 7 l1) (hwp : wp_X0_readComparison l0 l1 h Q) : Mt G (2 + d) 0 0 mX0_readComparison [.ref l0, .ref l1] h (qqb Q) := by
  unfold wp_X0_readComparison at hwp
  refine Mt.of (by decide) rfl (Nat.le_of_ble_eq_true rfl) ?_
  have hex := qEx.rf h
  have hnn : qn h = qn h + 0 := rfl
  have hzz : qz h = qz h + 0 := rfl
  refine x_lvE (lv2 := [(0, .ref l0), (1, .ref l1)]) rfl ?_
  refine x_aload_n (pc := 0) dX0_readComparison_0 rfl ?_
  refine x_invS (As := [.ref l1]) (st := []) (pc := 1) dX0_readComparison_1 lRX0_108 fX0_takeOperand sX0_takeOperand rfl (Nat.le_of_ble_eq_true rfl) (q_R (by omega) (by decide)) (q_C hnn hzz (by decide) (by decide)) (sn_X0_takeOperand G (d + 0) l1 h _ okl1 hwp) (k_i (fun r2 h1 hwp cxh1 => ?_))
  have hex := hex.tr cxh1.1
  have hnn : qn h1 = qn h + 0 := by have := cxh1.2.1; omega
  have hzz : qz h1 = qz h + 0 := by have := cxh1.2.2; omega
  have okl0 := okl0.ex cxh1.1
  have okl1 := okl1.ex cxh1.1
  refine x_istore_n (lv2 := [(2, .int r2), (0, .ref l0), (1, .ref l1)]) (pc := 4) dX0_readComparison_4 (by decide) rfl ?_
  refine x_aload_n (pc := 5) dX0_readComparison_5 rfl ?_
  refine x_bipush (v := 60) (pc := 6) dX0_readComparison_6 (by decide) ?_
  refine x_invV (As := [.int 60]) (st := []) (pc := 8) dX0_readComparison_8 lRX0_95 fX7_isSign vX7_isSign okl1 rfl (Nat.le_of_ble_eq_true rfl) (q_R (by omega) (by decide)) (q_C hnn hzz (by decide) (by decide)) (sn_X7_isSign G (d + 1) l1 60 h1 _ okl1 hwp) (k_b (fun r4 h3 hwp zbr4 cxh3 => ?_))
  have hex := hex.tr cxh3.1
  have hnn : qn h3 = qn h + 0 := by have := cxh3.2.1; omega
  have hzz : qz h3 = qz h + 0 := by have := cxh3.2.2; omega
  have okl0 := okl0.ex cxh3.1
  have okl1 := okl1.ex cxh3.1
  refine x_if_ne (tgt := 38) (pc := 11) dX0_readComparison_11 (by decide) (fun c5 => ?_) (fun c5 => ?_)
  · have hwp := hwp.1 c5
    refine x_sub [1, 2, 0] rfl ?_
    exact sg_X0_readComparison_38 G d h l0 l1 r2 h3 Q hex hnn hzz okl0 okl1 hwp
  · have hwp := hwp.2 c5
    refine x_aload_n (pc := 14) dX0_readComparison_14 rfl ?_
    refine x_bipush (v := 61) (pc := 15) dX0_readComparison_15 (by decide) ?_
    refine x_invV (As := [.int 61]) (st := []) (pc := 17) dX0_readComparison_17 lRX0_95 fX7_isSign vX7_isSign okl1 rfl (Nat.le_of_ble_eq_true rfl) (q_R (by omega) (by decide)) (q_C hnn hzz (by decide) (by decide)) (sn_X7_isSign G (d + 1) l1 61 h3 _ okl1 hwp) (k_b (fun r7 h6 hwp zbr7 cxh6 => ?_))
    have hex := hex.tr cxh6.1
    have hnn : qn h6 = qn h + 0 := by have := cxh6.2.1; omega
    have hzz : qz h6 = qz h + 0 := by have := cxh6.2.2; omega
    have okl0 := okl0.ex cxh6.1
    have okl1 := okl1.ex cxh6.1
    refine x_if_ne (tgt := 38) (pc := 20) dX0_readComparison_20 (by decide) (fun c8 => ?_) (fun c8 => ?_)
    · have hwp := hwp.1 c8
      refine x_sub [1, 2, 0] rfl ?_
      exact sg_X0_readComparison_38 G d h l0 l1 r2 h6 Q hex hnn hzz okl0 okl1 hwp
    · have hwp := hwp.2 c8
      refine x_aload_n (pc := 23) dX0_readComparison_23 rfl ?_
      refine x_bipush (v := 62) (pc := 24) dX0_readComparison_24 (by decide) ?_
      refine x_invV (As := [.int 62]) (st := []) (pc := 26) dX0_readComparison_26 lRX0_95 fX7_isSign vX7_isSign okl1 rfl (Nat.le_of_ble_eq_true rfl) (q_R (by omega) (by decide)) (q_C hnn hzz (by decide) (by decide)) (sn_X7_isSign G (d + 1) l1 62 h6 _ okl1 hwp) (k_b (fun r10 h9 hwp zbr10 cxh9 => ?_))
      have hex := hex.tr cxh9.1
      have hnn : qn h9 = qn h + 0 := by have := cxh9.2.1; omega
      have hzz : qz h9 = qz h + 0 := by have := cxh9.2.2; omega
      have okl0 := okl0.ex cxh9.1
      have okl1 := okl1.ex cxh9.1
      refine x_if_ne (tgt := 38) (pc := 29) dX0_readComparison_29 (by decide) (fun c11 => ?_) (fun c11 => ?_)
      · have hwp := hwp.1 c11
        refine x_sub [1, 2, 0] rfl ?_
        exact sg_X0_readComparison_38 G d h l0 l1 r2 h9 Q hex hnn hzz okl0 okl1 hwp
      · have hwp := hwp.2 c11
        refine x_aload_n (pc := 32) dX0_readComparison_32 rfl ?_
        refine x_iconst (v := 1) (pc := 33) dX0_readComparison_33 (by decide) ?_
        refine x_invV (As := [.int 1]) (st := []) (pc := 34) dX0_readComparison_34 lRX0_45 fX7_fail vX7_fail okl1 rfl (Nat.le_of_ble_eq_true rfl) (q_R (by omega) (by decide)) (q_C hnn hzz (by decide) (by decide)) (sn_X7_fail G (d + 1) l1 1 h9 _ okl1 hwp) (k_b (fun r13 h12 hwp zbr13 cxh12 => ?_))
        have hex := hex.tr cxh12.1
        have hnn : qn h12 = qn h + 0 := by have := cxh12.2.1; omega
        have hzz : qz h12 = qz h + 0 := by have := cxh12.2.2; omega
        have okl0 := okl0.ex cxh12.1
        have okl1 := okl1.ex cxh12.1
        exact x_zret (pc := 37) dX0_readComparison_37 rfl hex hnn hzz hwp.1 ⟨_, rfl, hwp.1, hwp.2⟩

theorem dX0_readAll_0 : decode cX0_readAll 0 = .ok (.aload_n 0, 1) := by decide +kernel
theorem dX0_readAll_1 : decode cX0_readAll 1 = .ok (.aload_n 1, 1) := by decide +kernel
theorem dX0_readAll_2 : decode cX0_readAll 2 = .ok (.iload_n 2, 1) := by decide +kernel
theorem dX0_readAll_3 : decode cX0_readAll 3 = .ok (.invokevirtual 86, 3) := by decide +kernel
theorem dX0_readAll_6 : decode cX0_readAll 6 = .ok (.ifCond .ne 5, 3) := by decide +kernel
theorem dX0_readAll_9 : decode cX0_readAll 9 = .ok (.iconst 0, 1) := by decide +kernel
theorem dX0_readAll_10 : decode cX0_readAll 10 = .ok (.ireturn, 1) := by decide +kernel
theorem dX0_readAll_11 : decode cX0_readAll 11 = .ok (.iconst 0, 1) := by decide +kernel
theorem dX0_readAll_12 : decode cX0_readAll 12 = .ok (.istore_n 3, 1) := by decide +kernel
theorem dX0_readAll_13 : decode cX0_readAll 13 = .ok (.iload_n 3, 1) := by decide +kernel
theorem dX0_readAll_14 : decode cX0_readAll 14 = .ok (.sipush 640, 3) := by decide +kernel
theorem dX0_readAll_17 : decode cX0_readAll 17 = .ok (.if_icmp .ge 41, 3) := by decide +kernel
theorem dX0_readAll_20 : decode cX0_readAll 20 = .ok (.aload_n 1, 1) := by decide +kernel
theorem dX0_readAll_21 : decode cX0_readAll 21 = .ok (.getstatic 89, 3) := by decide +kernel
theorem dX0_readAll_24 : decode cX0_readAll 24 = .ok (.invokevirtual 78, 3) := by decide +kernel
theorem dX0_readAll_27 : decode cX0_readAll 27 = .ok (.ifCond .eq 31, 3) := by decide +kernel
theorem dX0_readAll_30 : decode cX0_readAll 30 = .ok (.aload_n 1, 1) := by decide +kernel
theorem dX0_readAll_31 : decode cX0_readAll 31 = .ok (.invokevirtual 49, 3) := by decide +kernel
theorem dX0_readAll_34 : decode cX0_readAll 34 = .ok (.aload_n 0, 1) := by decide +kernel
theorem dX0_readAll_35 : decode cX0_readAll 35 = .ok (.aload_n 1, 1) := by decide +kernel
theorem dX0_readAll_36 : decode cX0_readAll 36 = .ok (.iload_n 2, 1) := by decide +kernel
theorem dX0_readAll_37 : decode cX0_readAll 37 = .ok (.invokevirtual 86, 3) := by decide +kernel
theorem dX0_readAll_40 : decode cX0_readAll 40 = .ok (.ifCond .ne 5, 3) := by decide +kernel
theorem dX0_readAll_43 : decode cX0_readAll 43 = .ok (.iconst 0, 1) := by decide +kernel
theorem dX0_readAll_44 : decode cX0_readAll 44 = .ok (.ireturn, 1) := by decide +kernel
theorem dX0_readAll_45 : decode cX0_readAll 45 = .ok (.aload_n 0, 1) := by decide +kernel
theorem dX0_readAll_46 : decode cX0_readAll 46 = .ok (.iconst 1, 1) := by decide +kernel
theorem dX0_readAll_47 : decode cX0_readAll 47 = .ok (.iconst 0, 1) := by decide +kernel
theorem dX0_readAll_48 : decode cX0_readAll 48 = .ok (.iconst 0, 1) := by decide +kernel
theorem dX0_readAll_49 : decode cX0_readAll 49 = .ok (.invokevirtual 82, 3) := by decide +kernel
theorem dX0_readAll_52 : decode cX0_readAll 52 = .ok (.iinc 3 1, 3) := by decide +kernel
theorem dX0_readAll_55 : decode cX0_readAll 55 = .ok (.goto (-42), 3) := by decide +kernel
theorem dX0_readAll_58 : decode cX0_readAll 58 = .ok (.iconst 1, 1) := by decide +kernel
theorem dX0_readAll_59 : decode cX0_readAll 59 = .ok (.ireturn, 1) := by decide +kernel
def E_X0_readAll_13 (G : GT) (d : Nat) (h0 hb : PH) (l0 : Nat) (l1 : Nat) (l2 : Int32) (Q : Int32 → PH → Prop) (s : Int32 × PH) : Prop := qEx hb s.2 ∧ qn s.2 = qn hb ∧ qz s.2 = qz hb → Ex G (qrm (3 + d) 0 0) mX0_readAll (qn h0) (qz h0) (ZN G h0 0 0 (qqb Q)) 13 [(0, .ref l0), (1, .ref l1), (2, .int l2), (3, .int s.1)] [] s.2
def wb_X0_readAll_13 (rc_X0_readAll : Nat → Nat → Int32 → PH → (Int32 → PH → Prop) → Prop) (rc_X0_readCondition : Nat → Nat → Int32 → PH → (Int32 → PH → Prop) → Prop) (rc_X0_readOne : Nat → Nat → Int32 → PH → (Int32 → PH → Prop) → Prop) (l0 : Nat) (l1 : Nat) (l2 : Int32)  (Q : Int32 → PH → Prop) (bk13 : Int32 × PH → Prop) (l3 : Int32) (h : PH) : Prop := ((640 ≤ l3 → Q 1 h) ∧ (¬ (640 ≤ l3) → (wp_X7_isWord l1 (wd 17) h (fun r6 h5 => ((r6 = 0 → Q 1 h5) ∧ (¬ (r6 = 0) → (wp_X7_pass l1 h5 (fun h8 => (rc_X0_readOne l0 l1 l2 h8 (fun r11 h10 => ((¬ r11 = 0 → (wp_X0_add l0 1 0 0 h10 (fun h13 => ∀ v15 : Int32, v15 = l3 + 1 → bk13 (v15, h13)))) ∧ (r11 = 0 → Q 0 h10))))))))))))
def wp_X0_readAll_13 (rc_X0_readAll : Nat → Nat → Int32 → PH → (Int32 → PH → Prop) → Prop) (rc_X0_readCondition : Nat → Nat → Int32 → PH → (Int32 → PH → Prop) → Prop) (rc_X0_readOne : Nat → Nat → Int32 → PH → (Int32 → PH → Prop) → Prop) (l0 : Nat) (l1 : Nat) (l2 : Int32)  (Q : Int32 → PH → Prop) (bk13 : Int32 × PH → Prop) (s : Int32 × PH) : Prop := wb_X0_readAll_13 rc_X0_readAll rc_X0_readCondition rc_X0_readOne l0 l1 l2 Q bk13 s.1 s.2
set_option maxHeartbeats 4000000 in
set_option maxRecDepth 100000 in
theorem bd_X0_readAll_13 (G : GT) (d : Nat) (h0 hb : PH) (rc_X0_readAll : Nat → Nat → Int32 → PH → (Int32 → PH → Prop) → Prop) (hrc_X0_readAll : ∀ (a0 : Nat) (a1 : Nat) (a2 : Int32) (h : PH) (Q : Int32 → PH → Prop), qOK h 0 a0 → qOK h 7 a1 → rc_X0_readAll a0 a1 a2 h Q → Mt G (2 + d) 0 0 mX0_readAll [.ref a0, .ref a1, .int a2] h (qqb Q)) (rc_X0_readCondition : Nat → Nat → Int32 → PH → (Int32 → PH → Prop) → Prop) (hrc_X0_readCondition : ∀ (a0 : Nat) (a1 : Nat) (a2 : Int32) (h : PH) (Q : Int32 → PH → Prop), qOK h 0 a0 → qOK h 7 a1 → rc_X0_readCondition a0 a1 a2 h Q → Mt G (2 + d) 0 0 mX0_readCondition [.ref a0, .ref a1, .int a2] h (qqb Q)) (rc_X0_readOne : Nat → Nat → Int32 → PH → (Int32 → PH → Prop) → Prop) (hrc_X0_readOne : ∀ (a0 : Nat) (a1 : Nat) (a2 : Int32) (h : PH) (Q : Int32 → PH → Prop), qOK h 0 a0 → qOK h 7 a1 → rc_X0_readOne a0 a1 a2 h Q → Mt G (2 + d) 0 0 mX0_readOne [.ref a0, .ref a1, .int a2] h (qqb Q)) (l0 : Nat) (l1 : Nat) (l2 : Int32) (Q : Int32 → PH → Prop)  (hex : qEx h0 hb) (hnn : qn hb = qn h0 + 0) (hzz : qz hb = qz h0 + 0) (okl0 : qOK hb 0 l0) (okl1 : qOK hb 7 l1) (bk13 : Int32 × PH → Prop) (hbk13 : ∀ s2, bk13 s2 → E_X0_readAll_13 G d h0 hb l0 l1 l2 Q s2) (l3 : Int32) (h : PH) (hwp : wb_X0_readAll_13 rc_X0_readAll rc_X0_readCondition rc_X0_readOne l0 l1 l2 Q bk13 l3 h) (hx13 : qEx hb h) (hn13 : qn h = qn hb) (hz13 : qz h = qz hb) : Ex G (qrm (3 + d) 0 0) mX0_readAll (qn h0) (qz h0) (ZN G h0 0 0 (qqb Q)) 13 [(0, .ref l0), (1, .ref l1), (2, .int l2), (3, .int l3)] [] h := by
  unfold wb_X0_readAll_13 at hwp
  have hex := hex.tr hx13
  have hnn := hn13.trans hnn
  have hzz := hz13.trans hzz
  have okl0 := okl0.ex hx13
  have okl1 := okl1.ex hx13
  refine x_iload_n (pc := 13) dX0_readAll_13 rfl ?_
  refine x_sipush (v := 640) (pc := 14) dX0_readAll_14 (by decide) ?_
  refine x_icmp_ge (tgt := 58) (pc := 17) dX0_readAll_17 (by decide) (fun c4 => ?_) (fun c4 => ?_)
  · have hwp := hwp.1 c4
    refine x_iconst (v := 1) (pc := 58) dX0_readAll_58 (by decide) ?_
    exact x_zret (pc := 59) dX0_readAll_59 rfl hex hnn hzz (by decide) ⟨_, rfl, by decide, hwp⟩
  · have hwp := hwp.2 c4
    refine x_aload_n (pc := 20) dX0_readAll_20 rfl ?_
    refine x_gets (pc := 21) dX0_readAll_21 (by decide) gRX0_89 ?_
    refine x_invV (As := [.ref (wd 17)]) (st := []) (pc := 24) dX0_readAll_24 lRX0_78 fX7_isWord vX7_isWord okl1 rfl (Nat.le_of_ble_eq_true rfl) (q_R (by omega) (by decide)) (q_C hnn hzz (by decide) (by decide)) (sn_X7_isWord G (d + 2) l1 (wd 17) h _ okl1 hwp) (k_b (fun r6 h5 hwp zbr6 cxh5 => ?_))
    have hex := hex.tr cxh5.1
    have hnn : qn h5 = qn h0 + 0 := by have := cxh5.2.1; omega
    have hzz : qz h5 = qz h0 + 0 := by have := cxh5.2.2; omega
    have hx13 := hx13.tr cxh5.1
    have hn13 : qn h5 = qn hb := by have := cxh5.2.1; omega
    have hz13 : qz h5 = qz hb := by have := cxh5.2.2; omega
    have okl0 := okl0.ex cxh5.1
    have okl1 := okl1.ex cxh5.1
    refine x_if_eq (tgt := 58) (pc := 27) dX0_readAll_27 (by decide) (fun c7 => ?_) (fun c7 => ?_)
    · have hwp := hwp.1 c7
      refine x_iconst (v := 1) (pc := 58) dX0_readAll_58 (by decide) ?_
      exact x_zret (pc := 59) dX0_readAll_59 rfl hex hnn hzz (by decide) ⟨_, rfl, by decide, hwp⟩
    · have hwp := hwp.2 c7
      refine x_aload_n (pc := 30) dX0_readAll_30 rfl ?_
      refine x_invV (As := []) (st := []) (pc := 31) dX0_readAll_31 lRX0_49 fX7_pass vX7_pass okl1 rfl (Nat.le_of_ble_eq_true rfl) (q_R (by omega) (by decide)) (q_C hnn hzz (by decide) (by decide)) (sn_X7_pass G (d + 2) l1 h5 _ okl1 hwp) (k_v (fun h8 hwp cxh8 => ?_))
      have hex := hex.tr cxh8.1
      have hnn : qn h8 = qn h0 + 0 := by have := cxh8.2.1; omega
      have hzz : qz h8 = qz h0 + 0 := by have := cxh8.2.2; omega
      have hx13 := hx13.tr cxh8.1
      have hn13 : qn h8 = qn hb := by have := cxh8.2.1; omega
      have hz13 : qz h8 = qz hb := by have := cxh8.2.2; omega
      have okl0 := okl0.ex cxh8.1
      have okl1 := okl1.ex cxh8.1
      refine x_aload_n (pc := 34) dX0_readAll_34 rfl ?_
      refine x_aload_n (pc := 35) dX0_readAll_35 rfl ?_
      refine x_iload_n (pc := 36) dX0_readAll_36 rfl ?_
      refine x_invV (As := [.ref l1, .int l2]) (st := []) (pc := 37) dX0_readAll_37 lRX0_86 fX0_readOne vX0_readOne okl0 rfl (Nat.le_of_ble_eq_true rfl) (q_R (by omega) (by decide)) (q_C hnn hzz (by decide) (by decide)) (hrc_X0_readOne l0 l1 l2 h8 _ okl0 okl1 hwp) (k_b (fun r11 h10 hwp zbr11 cxh10 => ?_))
      have hex := hex.tr cxh10.1
      have hnn : qn h10 = qn h0 + 0 := by have := cxh10.2.1; omega
      have hzz : qz h10 = qz h0 + 0 := by have := cxh10.2.2; omega
      have hx13 := hx13.tr cxh10.1
      have hn13 : qn h10 = qn hb := by have := cxh10.2.1; omega
      have hz13 : qz h10 = qz hb := by have := cxh10.2.2; omega
      have okl0 := okl0.ex cxh10.1
      have okl1 := okl1.ex cxh10.1
      refine x_if_ne (tgt := 45) (pc := 40) dX0_readAll_40 (by decide) (fun c12 => ?_) (fun c12 => ?_)
      · have hwp := hwp.1 c12
        refine x_aload_n (pc := 45) dX0_readAll_45 rfl ?_
        refine x_iconst (v := 1) (pc := 46) dX0_readAll_46 (by decide) ?_
        refine x_iconst (v := 0) (pc := 47) dX0_readAll_47 (by decide) ?_
        refine x_iconst (v := 0) (pc := 48) dX0_readAll_48 (by decide) ?_
        refine x_invV (As := [.int 1, .int 0, .int 0]) (st := []) (pc := 49) dX0_readAll_49 lRX0_82 fX0_add vX0_add okl0 rfl (Nat.le_of_ble_eq_true rfl) (q_R (by omega) (by decide)) (q_C hnn hzz (by decide) (by decide)) (sn_X0_add G (d + 2) l0 1 0 0 h10 _ okl0 hwp) (k_v (fun h13 hwp cxh13 => ?_))
        have hex := hex.tr cxh13.1
        have hnn : qn h13 = qn h0 + 0 := by have := cxh13.2.1; omega
        have hzz : qz h13 = qz h0 + 0 := by have := cxh13.2.2; omega
        have hx13 := hx13.tr cxh13.1
        have hn13 : qn h13 = qn hb := by have := cxh13.2.1; omega
        have hz13 : qz h13 = qz hb := by have := cxh13.2.2; omega
        have okl0 := okl0.ex cxh13.1
        have okl1 := okl1.ex cxh13.1
        refine y_iinc (c := 1) (pc := 52) dX0_readAll_52 rfl (by decide) (by decide) (fun v15 ev15 => ?_)
        have hwp := hwp v15 ev15
        refine x_lvE (lv2 := [(3, .int v15), (0, .ref l0), (1, .ref l1), (2, .int l2)]) rfl ?_
        refine x_goto (tgt := 13) (pc := 55) dX0_readAll_55 (by decide) ?_
        refine x_sub [1, 2, 3, 0] rfl ?_
        exact hbk13 _ hwp ⟨hx13, hn13, hz13⟩
      · have hwp := hwp.2 c12
        refine x_iconst (v := 0) (pc := 43) dX0_readAll_43 (by decide) ?_
        exact x_zret (pc := 44) dX0_readAll_44 rfl hex hnn hzz (by decide) ⟨_, rfl, by decide, hwp⟩
theorem lp_X0_readAll_13 (G : GT) (d : Nat) (h0 hb : PH) (rc_X0_readAll : Nat → Nat → Int32 → PH → (Int32 → PH → Prop) → Prop) (hrc_X0_readAll : ∀ (a0 : Nat) (a1 : Nat) (a2 : Int32) (h : PH) (Q : Int32 → PH → Prop), qOK h 0 a0 → qOK h 7 a1 → rc_X0_readAll a0 a1 a2 h Q → Mt G (2 + d) 0 0 mX0_readAll [.ref a0, .ref a1, .int a2] h (qqb Q)) (rc_X0_readCondition : Nat → Nat → Int32 → PH → (Int32 → PH → Prop) → Prop) (hrc_X0_readCondition : ∀ (a0 : Nat) (a1 : Nat) (a2 : Int32) (h : PH) (Q : Int32 → PH → Prop), qOK h 0 a0 → qOK h 7 a1 → rc_X0_readCondition a0 a1 a2 h Q → Mt G (2 + d) 0 0 mX0_readCondition [.ref a0, .ref a1, .int a2] h (qqb Q)) (rc_X0_readOne : Nat → Nat → Int32 → PH → (Int32 → PH → Prop) → Prop) (hrc_X0_readOne : ∀ (a0 : Nat) (a1 : Nat) (a2 : Int32) (h : PH) (Q : Int32 → PH → Prop), qOK h 0 a0 → qOK h 7 a1 → rc_X0_readOne a0 a1 a2 h Q → Mt G (2 + d) 0 0 mX0_readOne [.ref a0, .ref a1, .int a2] h (qqb Q)) (l0 : Nat) (l1 : Nat) (l2 : Int32) (Q : Int32 → PH → Prop)  (hex : qEx h0 hb) (hnn : qn hb = qn h0 + 0) (hzz : qz hb = qz h0 + 0) (okl0 : qOK hb 0 l0) (okl1 : qOK hb 7 l1) {s : Int32 × PH} (hwp : qLoop (wp_X0_readAll_13 rc_X0_readAll rc_X0_readCondition rc_X0_readOne l0 l1 l2 Q) s) : E_X0_readAll_13 G d h0 hb l0 l1 l2 Q s :=
  qLoop.use (E := E_X0_readAll_13 G d h0 hb l0 l1 l2 Q) (fun back s hbk hw hx => bd_X0_readAll_13 G d h0 hb rc_X0_readAll hrc_X0_readAll rc_X0_readCondition hrc_X0_readCondition rc_X0_readOne hrc_X0_readOne l0 l1 l2 Q hex hnn hzz okl0 okl1 back hbk s.1 s.2 hw hx.1 hx.2.1 hx.2.2) hwp
def wp_X0_readAll (rc_X0_readAll : Nat → Nat → Int32 → PH → (Int32 → PH → Prop) → Prop) (rc_X0_readCondition : Nat → Nat → Int32 → PH → (Int32 → PH → Prop) → Prop) (rc_X0_readOne : Nat → Nat → Int32 → PH → (Int32 → PH → Prop) → Prop) (l0 : Nat) (l1 : Nat) (l2 : Int32) (h : PH) (Q : Int32 → PH → Prop) : Prop := (rc_X0_readOne l0 l1 l2 h (fun r2 h1 => ((¬ r2 = 0 → (qLoop (wp_X0_readAll_13 rc_X0_readAll rc_X0_readCondition rc_X0_readOne l0 l1 l2 Q) (0, h1))) ∧ (r2 = 0 → Q 0 h1))))
set_option maxHeartbeats 4000000 in
set_option maxRecDepth 100000 in
theorem sn_X0_readAll (G : GT) (d : Nat) (rc_X0_readAll : Nat → Nat → Int32 → PH → (Int32 → PH → Prop) → Prop) (hrc_X0_readAll : ∀ (a0 : Nat) (a1 : Nat) (a2 : Int32) (h : PH) (Q : Int32 → PH → Prop), qOK h 0 a0 → qOK h 7 a1 → rc_X0_readAll a0 a1 a2 h Q → Mt G (2 + d) 0 0 mX0_readAll [.ref a0, .ref a1, .int a2] h (qqb Q)) (rc_X0_readCondition : Nat → Nat → Int32 → PH → (Int32 → PH → Prop) → Prop) (hrc_X0_readCondition : ∀ (a0 : Nat) (a1 : Nat) (a2 : Int32) (h : PH) (Q : Int32 → PH → Prop), qOK h 0 a0 → qOK h 7 a1 → rc_X0_readCondition a0 a1 a2 h Q → Mt G (2 + d) 0 0 mX0_readCondition [.ref a0, .ref a1, .int a2] h (qqb Q)) (rc_X0_readOne : Nat → Nat → Int32 → PH → (Int32 → PH → Prop) → Prop) (hrc_X0_readOne : ∀ (a0 : Nat) (a1 : Nat) (a2 : Int32) (h : PH) (Q : Int32 → PH → Prop), qOK h 0 a0 → qOK h 7 a1 → rc_X0_readOne a0 a1 a2 h Q → Mt G (2 + d) 0 0 mX0_readOne [.ref a0, .ref a1, .int a2] h (qqb Q)) (l0 : Nat) (l1 : Nat) (l2 : Int32) (h : PH) (Q : Int32 → PH → Prop) (okl0 : qOK h 0 l0) (okl1 : qOK h 7 l1) (hwp : wp_X0_readAll rc_X0_readAll rc_X0_readCondition rc_X0_readOne l0 l1 l2 h Q) : Mt G (3 + d) 0 0 mX0_readAll [.ref l0, .ref l1, .int l2] h (qqb Q) := by
  unfold wp_X0_readAll at hwp
  refine Mt.of (by decide) rfl (Nat.le_of_ble_eq_true rfl) ?_
  have hex := qEx.rf h
  have hnn : qn h = qn h + 0 := rfl
  have hzz : qz h = qz h + 0 := rfl
  refine x_lvE (lv2 := [(0, .ref l0), (1, .ref l1), (2, .int l2)]) rfl ?_
  refine x_aload_n (pc := 0) dX0_readAll_0 rfl ?_
  refine x_aload_n (pc := 1) dX0_readAll_1 rfl ?_
  refine x_iload_n (pc := 2) dX0_readAll_2 rfl ?_
  refine x_invV (As := [.ref l1, .int l2]) (st := []) (pc := 3) dX0_readAll_3 lRX0_86 fX0_readOne vX0_readOne okl0 rfl (Nat.le_of_ble_eq_true rfl) (q_R (by omega) (by decide)) (q_C hnn hzz (by decide) (by decide)) (hrc_X0_readOne l0 l1 l2 h _ okl0 okl1 hwp) (k_b (fun r2 h1 hwp zbr2 cxh1 => ?_))
  have hex := hex.tr cxh1.1
  have hnn : qn h1 = qn h + 0 := by have := cxh1.2.1; omega
  have hzz : qz h1 = qz h + 0 := by have := cxh1.2.2; omega
  have okl0 := okl0.ex cxh1.1
  have okl1 := okl1.ex cxh1.1
  refine x_if_ne (tgt := 11) (pc := 6) dX0_readAll_6 (by decide) (fun c3 => ?_) (fun c3 => ?_)
  · have hwp := hwp.1 c3
    refine x_iconst (v := 0) (pc := 11) dX0_readAll_11 (by decide) ?_
    refine x_istore_n (lv2 := [(3, .int 0), (0, .ref l0), (1, .ref l1), (2, .int l2)]) (pc := 12) dX0_readAll_12 (by decide) rfl ?_
    refine x_sub [1, 2, 3, 0] rfl ?_
    exact lp_X0_readAll_13 G d h h1 rc_X0_readAll hrc_X0_readAll rc_X0_readCondition hrc_X0_readCondition rc_X0_readOne hrc_X0_readOne l0 l1 l2 Q hex hnn hzz okl0 okl1 hwp ⟨qEx.rf _, rfl, rfl⟩
  · have hwp := hwp.2 c3
    refine x_iconst (v := 0) (pc := 9) dX0_readAll_9 (by decide) ?_
    exact x_zret (pc := 10) dX0_readAll_10 rfl hex hnn hzz (by decide) ⟨_, rfl, by decide, hwp⟩

theorem dX0_readCondition_0 : decode cX0_readCondition 0 = .ok (.aload_n 0, 1) := by decide +kernel
theorem dX0_readCondition_1 : decode cX0_readCondition 1 = .ok (.aload_n 1, 1) := by decide +kernel
theorem dX0_readCondition_2 : decode cX0_readCondition 2 = .ok (.iload_n 2, 1) := by decide +kernel
theorem dX0_readCondition_3 : decode cX0_readCondition 3 = .ok (.invokevirtual 72, 3) := by decide +kernel
theorem dX0_readCondition_6 : decode cX0_readCondition 6 = .ok (.ifCond .ne 5, 3) := by decide +kernel
theorem dX0_readCondition_9 : decode cX0_readCondition 9 = .ok (.iconst 0, 1) := by decide +kernel
theorem dX0_readCondition_10 : decode cX0_readCondition 10 = .ok (.ireturn, 1) := by decide +kernel
theorem dX0_readCondition_11 : decode cX0_readCondition 11 = .ok (.iconst 0, 1) := by decide +kernel
theorem dX0_readCondition_12 : decode cX0_readCondition 12 = .ok (.istore_n 3, 1) := by decide +kernel
theorem dX0_readCondition_13 : decode cX0_readCondition 13 = .ok (.iload_n 3, 1) := by decide +kernel
theorem dX0_readCondition_14 : decode cX0_readCondition 14 = .ok (.sipush 640, 3) := by decide +kernel
theorem dX0_readCondition_17 : decode cX0_readCondition 17 = .ok (.if_icmp .ge 41, 3) := by decide +kernel
theorem dX0_readCondition_20 : decode cX0_readCondition 20 = .ok (.aload_n 1, 1) := by decide +kernel
theorem dX0_readCondition_21 : decode cX0_readCondition 21 = .ok (.getstatic 75, 3) := by decide +kernel
theorem dX0_readCondition_24 : decode cX0_readCondition 24 = .ok (.invokevirtual 78, 3) := by decide +kernel
theorem dX0_readCondition_27 : decode cX0_readCondition 27 = .ok (.ifCond .eq 31, 3) := by decide +kernel
theorem dX0_readCondition_30 : decode cX0_readCondition 30 = .ok (.aload_n 1, 1) := by decide +kernel
theorem dX0_readCondition_31 : decode cX0_readCondition 31 = .ok (.invokevirtual 49, 3) := by decide +kernel
theorem dX0_readCondition_34 : decode cX0_readCondition 34 = .ok (.aload_n 0, 1) := by decide +kernel
theorem dX0_readCondition_35 : decode cX0_readCondition 35 = .ok (.aload_n 1, 1) := by decide +kernel
theorem dX0_readCondition_36 : decode cX0_readCondition 36 = .ok (.iload_n 2, 1) := by decide +kernel
theorem dX0_readCondition_37 : decode cX0_readCondition 37 = .ok (.invokevirtual 72, 3) := by decide +kernel
theorem dX0_readCondition_40 : decode cX0_readCondition 40 = .ok (.ifCond .ne 5, 3) := by decide +kernel
theorem dX0_readCondition_43 : decode cX0_readCondition 43 = .ok (.iconst 0, 1) := by decide +kernel
theorem dX0_readCondition_44 : decode cX0_readCondition 44 = .ok (.ireturn, 1) := by decide +kernel
theorem dX0_readCondition_45 : decode cX0_readCondition 45 = .ok (.aload_n 0, 1) := by decide +kernel
theorem dX0_readCondition_46 : decode cX0_readCondition 46 = .ok (.iconst 2, 1) := by decide +kernel
theorem dX0_readCondition_47 : decode cX0_readCondition 47 = .ok (.iconst 0, 1) := by decide +kernel
theorem dX0_readCondition_48 : decode cX0_readCondition 48 = .ok (.iconst 0, 1) := by decide +kernel
theorem dX0_readCondition_49 : decode cX0_readCondition 49 = .ok (.invokevirtual 82, 3) := by decide +kernel
theorem dX0_readCondition_52 : decode cX0_readCondition 52 = .ok (.iinc 3 1, 3) := by decide +kernel
theorem dX0_readCondition_55 : decode cX0_readCondition 55 = .ok (.goto (-42), 3) := by decide +kernel
theorem dX0_readCondition_58 : decode cX0_readCondition 58 = .ok (.iconst 1, 1) := by decide +kernel
theorem dX0_readCondition_59 : decode cX0_readCondition 59 = .ok (.ireturn, 1) := by decide +kernel
def E_X0_readCondition_13 (G : GT) (d : Nat) (h0 hb : PH) (l0 : Nat) (l1 : Nat) (l2 : Int32) (Q : Int32 → PH → Prop) (s : Int32 × PH) : Prop := qEx hb s.2 ∧ qn s.2 = qn hb ∧ qz s.2 = qz hb → Ex G (qrm (3 + d) 0 0) mX0_readCondition (qn h0) (qz h0) (ZN G h0 0 0 (qqb Q)) 13 [(0, .ref l0), (1, .ref l1), (2, .int l2), (3, .int s.1)] [] s.2
def wb_X0_readCondition_13 (rc_X0_readAll : Nat → Nat → Int32 → PH → (Int32 → PH → Prop) → Prop) (rc_X0_readCondition : Nat → Nat → Int32 → PH → (Int32 → PH → Prop) → Prop) (rc_X0_readOne : Nat → Nat → Int32 → PH → (Int32 → PH → Prop) → Prop) (l0 : Nat) (l1 : Nat) (l2 : Int32)  (Q : Int32 → PH → Prop) (bk13 : Int32 × PH → Prop) (l3 : Int32) (h : PH) : Prop := ((640 ≤ l3 → Q 1 h) ∧ (¬ (640 ≤ l3) → (wp_X7_isWord l1 (wd 16) h (fun r6 h5 => ((r6 = 0 → Q 1 h5) ∧ (¬ (r6 = 0) → (wp_X7_pass l1 h5 (fun h8 => (rc_X0_readAll l0 l1 l2 h8 (fun r11 h10 => ((¬ r11 = 0 → (wp_X0_add l0 2 0 0 h10 (fun h13 => ∀ v15 : Int32, v15 = l3 + 1 → bk13 (v15, h13)))) ∧ (r11 = 0 → Q 0 h10))))))))))))
def wp_X0_readCondition_13 (rc_X0_readAll : Nat → Nat → Int32 → PH → (Int32 → PH → Prop) → Prop) (rc_X0_readCondition : Nat → Nat → Int32 → PH → (Int32 → PH → Prop) → Prop) (rc_X0_readOne : Nat → Nat → Int32 → PH → (Int32 → PH → Prop) → Prop) (l0 : Nat) (l1 : Nat) (l2 : Int32)  (Q : Int32 → PH → Prop) (bk13 : Int32 × PH → Prop) (s : Int32 × PH) : Prop := wb_X0_readCondition_13 rc_X0_readAll rc_X0_readCondition rc_X0_readOne l0 l1 l2 Q bk13 s.1 s.2
set_option maxHeartbeats 4000000 in
set_option maxRecDepth 100000 in
theorem bd_X0_readCondition_13 (G : GT) (d : Nat) (h0 hb : PH) (rc_X0_readAll : Nat → Nat → Int32 → PH → (Int32 → PH → Prop) → Prop) (hrc_X0_readAll : ∀ (a0 : Nat) (a1 : Nat) (a2 : Int32) (h : PH) (Q : Int32 → PH → Prop), qOK h 0 a0 → qOK h 7 a1 → rc_X0_readAll a0 a1 a2 h Q → Mt G (2 + d) 0 0 mX0_readAll [.ref a0, .ref a1, .int a2] h (qqb Q)) (rc_X0_readCondition : Nat → Nat → Int32 → PH → (Int32 → PH → Prop) → Prop) (hrc_X0_readCondition : ∀ (a0 : Nat) (a1 : Nat) (a2 : Int32) (h : PH) (Q : Int32 → PH → Prop), qOK h 0 a0 → qOK h 7 a1 → rc_X0_readCondition a0 a1 a2 h Q → Mt G (2 + d) 0 0 mX0_readCondition [.ref a0, .ref a1, .int a2] h (qqb Q)) (rc_X0_readOne : Nat → Nat → Int32 → PH → (Int32 → PH → Prop) → Prop) (hrc_X0_readOne : ∀ (a0 : Nat) (a1 : Nat) (a2 : Int32) (h : PH) (Q : Int32 → PH → Prop), qOK h 0 a0 → qOK h 7 a1 → rc_X0_readOne a0 a1 a2 h Q → Mt G (2 + d) 0 0 mX0_readOne [.ref a0, .ref a1, .int a2] h (qqb Q)) (l0 : Nat) (l1 : Nat) (l2 : Int32) (Q : Int32 → PH → Prop)  (hex : qEx h0 hb) (hnn : qn hb = qn h0 + 0) (hzz : qz hb = qz h0 + 0) (okl0 : qOK hb 0 l0) (okl1 : qOK hb 7 l1) (bk13 : Int32 × PH → Prop) (hbk13 : ∀ s2, bk13 s2 → E_X0_readCondition_13 G d h0 hb l0 l1 l2 Q s2) (l3 : Int32) (h : PH) (hwp : wb_X0_readCondition_13 rc_X0_readAll rc_X0_readCondition rc_X0_readOne l0 l1 l2 Q bk13 l3 h) (hx13 : qEx hb h) (hn13 : qn h = qn hb) (hz13 : qz h = qz hb) : Ex G (qrm (3 + d) 0 0) mX0_readCondition (qn h0) (qz h0) (ZN G h0 0 0 (qqb Q)) 13 [(0, .ref l0), (1, .ref l1), (2, .int l2), (3, .int l3)] [] h := by
  unfold wb_X0_readCondition_13 at hwp
  have hex := hex.tr hx13
  have hnn := hn13.trans hnn
  have hzz := hz13.trans hzz
  have okl0 := okl0.ex hx13
  have okl1 := okl1.ex hx13
  refine x_iload_n (pc := 13) dX0_readCondition_13 rfl ?_
  refine x_sipush (v := 640) (pc := 14) dX0_readCondition_14 (by decide) ?_
  refine x_icmp_ge (tgt := 58) (pc := 17) dX0_readCondition_17 (by decide) (fun c4 => ?_) (fun c4 => ?_)
  · have hwp := hwp.1 c4
    refine x_iconst (v := 1) (pc := 58) dX0_readCondition_58 (by decide) ?_
    exact x_zret (pc := 59) dX0_readCondition_59 rfl hex hnn hzz (by decide) ⟨_, rfl, by decide, hwp⟩
  · have hwp := hwp.2 c4
    refine x_aload_n (pc := 20) dX0_readCondition_20 rfl ?_
    refine x_gets (pc := 21) dX0_readCondition_21 (by decide) gRX0_75 ?_
    refine x_invV (As := [.ref (wd 16)]) (st := []) (pc := 24) dX0_readCondition_24 lRX0_78 fX7_isWord vX7_isWord okl1 rfl (Nat.le_of_ble_eq_true rfl) (q_R (by omega) (by decide)) (q_C hnn hzz (by decide) (by decide)) (sn_X7_isWord G (d + 2) l1 (wd 16) h _ okl1 hwp) (k_b (fun r6 h5 hwp zbr6 cxh5 => ?_))
    have hex := hex.tr cxh5.1
    have hnn : qn h5 = qn h0 + 0 := by have := cxh5.2.1; omega
    have hzz : qz h5 = qz h0 + 0 := by have := cxh5.2.2; omega
    have hx13 := hx13.tr cxh5.1
    have hn13 : qn h5 = qn hb := by have := cxh5.2.1; omega
    have hz13 : qz h5 = qz hb := by have := cxh5.2.2; omega
    have okl0 := okl0.ex cxh5.1
    have okl1 := okl1.ex cxh5.1
    refine x_if_eq (tgt := 58) (pc := 27) dX0_readCondition_27 (by decide) (fun c7 => ?_) (fun c7 => ?_)
    · have hwp := hwp.1 c7
      refine x_iconst (v := 1) (pc := 58) dX0_readCondition_58 (by decide) ?_
      exact x_zret (pc := 59) dX0_readCondition_59 rfl hex hnn hzz (by decide) ⟨_, rfl, by decide, hwp⟩
    · have hwp := hwp.2 c7
      refine x_aload_n (pc := 30) dX0_readCondition_30 rfl ?_
      refine x_invV (As := []) (st := []) (pc := 31) dX0_readCondition_31 lRX0_49 fX7_pass vX7_pass okl1 rfl (Nat.le_of_ble_eq_true rfl) (q_R (by omega) (by decide)) (q_C hnn hzz (by decide) (by decide)) (sn_X7_pass G (d + 2) l1 h5 _ okl1 hwp) (k_v (fun h8 hwp cxh8 => ?_))
      have hex := hex.tr cxh8.1
      have hnn : qn h8 = qn h0 + 0 := by have := cxh8.2.1; omega
      have hzz : qz h8 = qz h0 + 0 := by have := cxh8.2.2; omega
      have hx13 := hx13.tr cxh8.1
      have hn13 : qn h8 = qn hb := by have := cxh8.2.1; omega
      have hz13 : qz h8 = qz hb := by have := cxh8.2.2; omega
      have okl0 := okl0.ex cxh8.1
      have okl1 := okl1.ex cxh8.1
      refine x_aload_n (pc := 34) dX0_readCondition_34 rfl ?_
      refine x_aload_n (pc := 35) dX0_readCondition_35 rfl ?_
      refine x_iload_n (pc := 36) dX0_readCondition_36 rfl ?_
      refine x_invV (As := [.ref l1, .int l2]) (st := []) (pc := 37) dX0_readCondition_37 lRX0_72 fX0_readAll vX0_readAll okl0 rfl (Nat.le_of_ble_eq_true rfl) (q_R (by omega) (by decide)) (q_C hnn hzz (by decide) (by decide)) (hrc_X0_readAll l0 l1 l2 h8 _ okl0 okl1 hwp) (k_b (fun r11 h10 hwp zbr11 cxh10 => ?_))
      have hex := hex.tr cxh10.1
      have hnn : qn h10 = qn h0 + 0 := by have := cxh10.2.1; omega
      have hzz : qz h10 = qz h0 + 0 := by have := cxh10.2.2; omega
      have hx13 := hx13.tr cxh10.1
      have hn13 : qn h10 = qn hb := by have := cxh10.2.1; omega
      have hz13 : qz h10 = qz hb := by have := cxh10.2.2; omega
      have okl0 := okl0.ex cxh10.1
      have okl1 := okl1.ex cxh10.1
      refine x_if_ne (tgt := 45) (pc := 40) dX0_readCondition_40 (by decide) (fun c12 => ?_) (fun c12 => ?_)
      · have hwp := hwp.1 c12
        refine x_aload_n (pc := 45) dX0_readCondition_45 rfl ?_
        refine x_iconst (v := 2) (pc := 46) dX0_readCondition_46 (by decide) ?_
        refine x_iconst (v := 0) (pc := 47) dX0_readCondition_47 (by decide) ?_
        refine x_iconst (v := 0) (pc := 48) dX0_readCondition_48 (by decide) ?_
        refine x_invV (As := [.int 2, .int 0, .int 0]) (st := []) (pc := 49) dX0_readCondition_49 lRX0_82 fX0_add vX0_add okl0 rfl (Nat.le_of_ble_eq_true rfl) (q_R (by omega) (by decide)) (q_C hnn hzz (by decide) (by decide)) (sn_X0_add G (d + 2) l0 2 0 0 h10 _ okl0 hwp) (k_v (fun h13 hwp cxh13 => ?_))
        have hex := hex.tr cxh13.1
        have hnn : qn h13 = qn h0 + 0 := by have := cxh13.2.1; omega
        have hzz : qz h13 = qz h0 + 0 := by have := cxh13.2.2; omega
        have hx13 := hx13.tr cxh13.1
        have hn13 : qn h13 = qn hb := by have := cxh13.2.1; omega
        have hz13 : qz h13 = qz hb := by have := cxh13.2.2; omega
        have okl0 := okl0.ex cxh13.1
        have okl1 := okl1.ex cxh13.1
        refine y_iinc (c := 1) (pc := 52) dX0_readCondition_52 rfl (by decide) (by decide) (fun v15 ev15 => ?_)
        have hwp := hwp v15 ev15
        refine x_lvE (lv2 := [(3, .int v15), (0, .ref l0), (1, .ref l1), (2, .int l2)]) rfl ?_
        refine x_goto (tgt := 13) (pc := 55) dX0_readCondition_55 (by decide) ?_
        refine x_sub [1, 2, 3, 0] rfl ?_
        exact hbk13 _ hwp ⟨hx13, hn13, hz13⟩
      · have hwp := hwp.2 c12
        refine x_iconst (v := 0) (pc := 43) dX0_readCondition_43 (by decide) ?_
        exact x_zret (pc := 44) dX0_readCondition_44 rfl hex hnn hzz (by decide) ⟨_, rfl, by decide, hwp⟩
theorem lp_X0_readCondition_13 (G : GT) (d : Nat) (h0 hb : PH) (rc_X0_readAll : Nat → Nat → Int32 → PH → (Int32 → PH → Prop) → Prop) (hrc_X0_readAll : ∀ (a0 : Nat) (a1 : Nat) (a2 : Int32) (h : PH) (Q : Int32 → PH → Prop), qOK h 0 a0 → qOK h 7 a1 → rc_X0_readAll a0 a1 a2 h Q → Mt G (2 + d) 0 0 mX0_readAll [.ref a0, .ref a1, .int a2] h (qqb Q)) (rc_X0_readCondition : Nat → Nat → Int32 → PH → (Int32 → PH → Prop) → Prop) (hrc_X0_readCondition : ∀ (a0 : Nat) (a1 : Nat) (a2 : Int32) (h : PH) (Q : Int32 → PH → Prop), qOK h 0 a0 → qOK h 7 a1 → rc_X0_readCondition a0 a1 a2 h Q → Mt G (2 + d) 0 0 mX0_readCondition [.ref a0, .ref a1, .int a2] h (qqb Q)) (rc_X0_readOne : Nat → Nat → Int32 → PH → (Int32 → PH → Prop) → Prop) (hrc_X0_readOne : ∀ (a0 : Nat) (a1 : Nat) (a2 : Int32) (h : PH) (Q : Int32 → PH → Prop), qOK h 0 a0 → qOK h 7 a1 → rc_X0_readOne a0 a1 a2 h Q → Mt G (2 + d) 0 0 mX0_readOne [.ref a0, .ref a1, .int a2] h (qqb Q)) (l0 : Nat) (l1 : Nat) (l2 : Int32) (Q : Int32 → PH → Prop)  (hex : qEx h0 hb) (hnn : qn hb = qn h0 + 0) (hzz : qz hb = qz h0 + 0) (okl0 : qOK hb 0 l0) (okl1 : qOK hb 7 l1) {s : Int32 × PH} (hwp : qLoop (wp_X0_readCondition_13 rc_X0_readAll rc_X0_readCondition rc_X0_readOne l0 l1 l2 Q) s) : E_X0_readCondition_13 G d h0 hb l0 l1 l2 Q s :=
  qLoop.use (E := E_X0_readCondition_13 G d h0 hb l0 l1 l2 Q) (fun back s hbk hw hx => bd_X0_readCondition_13 G d h0 hb rc_X0_readAll hrc_X0_readAll rc_X0_readCondition hrc_X0_readCondition rc_X0_readOne hrc_X0_readOne l0 l1 l2 Q hex hnn hzz okl0 okl1 back hbk s.1 s.2 hw hx.1 hx.2.1 hx.2.2) hwp
def wp_X0_readCondition (rc_X0_readAll : Nat → Nat → Int32 → PH → (Int32 → PH → Prop) → Prop) (rc_X0_readCondition : Nat → Nat → Int32 → PH → (Int32 → PH → Prop) → Prop) (rc_X0_readOne : Nat → Nat → Int32 → PH → (Int32 → PH → Prop) → Prop) (l0 : Nat) (l1 : Nat) (l2 : Int32) (h : PH) (Q : Int32 → PH → Prop) : Prop := (rc_X0_readAll l0 l1 l2 h (fun r2 h1 => ((¬ r2 = 0 → (qLoop (wp_X0_readCondition_13 rc_X0_readAll rc_X0_readCondition rc_X0_readOne l0 l1 l2 Q) (0, h1))) ∧ (r2 = 0 → Q 0 h1))))
set_option maxHeartbeats 4000000 in
set_option maxRecDepth 100000 in
theorem sn_X0_readCondition (G : GT) (d : Nat) (rc_X0_readAll : Nat → Nat → Int32 → PH → (Int32 → PH → Prop) → Prop) (hrc_X0_readAll : ∀ (a0 : Nat) (a1 : Nat) (a2 : Int32) (h : PH) (Q : Int32 → PH → Prop), qOK h 0 a0 → qOK h 7 a1 → rc_X0_readAll a0 a1 a2 h Q → Mt G (2 + d) 0 0 mX0_readAll [.ref a0, .ref a1, .int a2] h (qqb Q)) (rc_X0_readCondition : Nat → Nat → Int32 → PH → (Int32 → PH → Prop) → Prop) (hrc_X0_readCondition : ∀ (a0 : Nat) (a1 : Nat) (a2 : Int32) (h : PH) (Q : Int32 → PH → Prop), qOK h 0 a0 → qOK h 7 a1 → rc_X0_readCondition a0 a1 a2 h Q → Mt G (2 + d) 0 0 mX0_readCondition [.ref a0, .ref a1, .int a2] h (qqb Q)) (rc_X0_readOne : Nat → Nat → Int32 → PH → (Int32 → PH → Prop) → Prop) (hrc_X0_readOne : ∀ (a0 : Nat) (a1 : Nat) (a2 : Int32) (h : PH) (Q : Int32 → PH → Prop), qOK h 0 a0 → qOK h 7 a1 → rc_X0_readOne a0 a1 a2 h Q → Mt G (2 + d) 0 0 mX0_readOne [.ref a0, .ref a1, .int a2] h (qqb Q)) (l0 : Nat) (l1 : Nat) (l2 : Int32) (h : PH) (Q : Int32 → PH → Prop) (okl0 : qOK h 0 l0) (okl1 : qOK h 7 l1) (hwp : wp_X0_readCondition rc_X0_readAll rc_X0_readCondition rc_X0_readOne l0 l1 l2 h Q) : Mt G (3 + d) 0 0 mX0_readCondition [.ref l0, .ref l1, .int l2] h (qqb Q) := by
  unfold wp_X0_readCondition at hwp
  refine Mt.of (by decide) rfl (Nat.le_of_ble_eq_true rfl) ?_
  have hex := qEx.rf h
  have hnn : qn h = qn h + 0 := rfl
  have hzz : qz h = qz h + 0 := rfl
  refine x_lvE (lv2 := [(0, .ref l0), (1, .ref l1), (2, .int l2)]) rfl ?_
  refine x_aload_n (pc := 0) dX0_readCondition_0 rfl ?_
  refine x_aload_n (pc := 1) dX0_readCondition_1 rfl ?_
  refine x_iload_n (pc := 2) dX0_readCondition_2 rfl ?_
  refine x_invV (As := [.ref l1, .int l2]) (st := []) (pc := 3) dX0_readCondition_3 lRX0_72 fX0_readAll vX0_readAll okl0 rfl (Nat.le_of_ble_eq_true rfl) (q_R (by omega) (by decide)) (q_C hnn hzz (by decide) (by decide)) (hrc_X0_readAll l0 l1 l2 h _ okl0 okl1 hwp) (k_b (fun r2 h1 hwp zbr2 cxh1 => ?_))
  have hex := hex.tr cxh1.1
  have hnn : qn h1 = qn h + 0 := by have := cxh1.2.1; omega
  have hzz : qz h1 = qz h + 0 := by have := cxh1.2.2; omega
  have okl0 := okl0.ex cxh1.1
  have okl1 := okl1.ex cxh1.1
  refine x_if_ne (tgt := 11) (pc := 6) dX0_readCondition_6 (by decide) (fun c3 => ?_) (fun c3 => ?_)
  · have hwp := hwp.1 c3
    refine x_iconst (v := 0) (pc := 11) dX0_readCondition_11 (by decide) ?_
    refine x_istore_n (lv2 := [(3, .int 0), (0, .ref l0), (1, .ref l1), (2, .int l2)]) (pc := 12) dX0_readCondition_12 (by decide) rfl ?_
    refine x_sub [1, 2, 3, 0] rfl ?_
    exact lp_X0_readCondition_13 G d h h1 rc_X0_readAll hrc_X0_readAll rc_X0_readCondition hrc_X0_readCondition rc_X0_readOne hrc_X0_readOne l0 l1 l2 Q hex hnn hzz okl0 okl1 hwp ⟨qEx.rf _, rfl, rfl⟩
  · have hwp := hwp.2 c3
    refine x_iconst (v := 0) (pc := 9) dX0_readCondition_9 (by decide) ?_
    exact x_zret (pc := 10) dX0_readCondition_10 rfl hex hnn hzz (by decide) ⟨_, rfl, by decide, hwp⟩

theorem dX0_readOne_0 : decode cX0_readOne 0 = .ok (.aload_n 1, 1) := by decide +kernel
theorem dX0_readOne_1 : decode cX0_readOne 1 = .ok (.getstatic 92, 3) := by decide +kernel
theorem dX0_readOne_4 : decode cX0_readOne 4 = .ok (.invokevirtual 78, 3) := by decide +kernel
theorem dX0_readOne_7 : decode cX0_readOne 7 = .ok (.istore_n 3, 1) := by decide +kernel
theorem dX0_readOne_8 : decode cX0_readOne 8 = .ok (.aload_n 1, 1) := by decide +kernel
theorem dX0_readOne_9 : decode cX0_readOne 9 = .ok (.bipush 40, 2) := by decide +kernel
theorem dX0_readOne_11 : decode cX0_readOne 11 = .ok (.invokevirtual 95, 3) := by decide +kernel
theorem dX0_readOne_14 : decode cX0_readOne 14 = .ok (.istore 4, 2) := by decide +kernel
theorem dX0_readOne_16 : decode cX0_readOne 16 = .ok (.iload_n 3, 1) := by decide +kernel
theorem dX0_readOne_17 : decode cX0_readOne 17 = .ok (.ifCond .ne 21, 3) := by decide +kernel
theorem dX0_readOne_20 : decode cX0_readOne 20 = .ok (.iload 4, 2) := by decide +kernel
theorem dX0_readOne_22 : decode cX0_readOne 22 = .ok (.ifCond .ne 16, 3) := by decide +kernel
theorem dX0_readOne_25 : decode cX0_readOne 25 = .ok (.aload_n 1, 1) := by decide +kernel
theorem dX0_readOne_26 : decode cX0_readOne 26 = .ok (.invokestatic 98, 3) := by decide +kernel
theorem dX0_readOne_29 : decode cX0_readOne 29 = .ok (.ifCond .ne 9, 3) := by decide +kernel
theorem dX0_readOne_32 : decode cX0_readOne 32 = .ok (.aload_n 1, 1) := by decide +kernel
theorem dX0_readOne_33 : decode cX0_readOne 33 = .ok (.iconst 1, 1) := by decide +kernel
theorem dX0_readOne_34 : decode cX0_readOne 34 = .ok (.invokevirtual 45, 3) := by decide +kernel
theorem dX0_readOne_37 : decode cX0_readOne 37 = .ok (.ireturn, 1) := by decide +kernel
theorem dX0_readOne_38 : decode cX0_readOne 38 = .ok (.aload_n 0, 1) := by decide +kernel
theorem dX0_readOne_39 : decode cX0_readOne 39 = .ok (.getfield 32, 3) := by decide +kernel
theorem dX0_readOne_42 : decode cX0_readOne 42 = .ok (.bipush 20, 2) := by decide +kernel
theorem dX0_readOne_44 : decode cX0_readOne 44 = .ok (.if_icmp .ge 9, 3) := by decide +kernel
theorem dX0_readOne_47 : decode cX0_readOne 47 = .ok (.iload_n 2, 1) := by decide +kernel
theorem dX0_readOne_48 : decode cX0_readOne 48 = .ok (.bipush 8, 2) := by decide +kernel
theorem dX0_readOne_50 : decode cX0_readOne 50 = .ok (.if_icmp .le 9, 3) := by decide +kernel
theorem dX0_readOne_53 : decode cX0_readOne 53 = .ok (.aload_n 1, 1) := by decide +kernel
theorem dX0_readOne_54 : decode cX0_readOne 54 = .ok (.iconst 4, 1) := by decide +kernel
theorem dX0_readOne_55 : decode cX0_readOne 55 = .ok (.invokevirtual 45, 3) := by decide +kernel
theorem dX0_readOne_58 : decode cX0_readOne 58 = .ok (.ireturn, 1) := by decide +kernel
theorem dX0_readOne_59 : decode cX0_readOne 59 = .ok (.aload_n 0, 1) := by decide +kernel
theorem dX0_readOne_60 : decode cX0_readOne 60 = .ok (.dup, 1) := by decide +kernel
theorem dX0_readOne_61 : decode cX0_readOne 61 = .ok (.getfield 32, 3) := by decide +kernel
theorem dX0_readOne_64 : decode cX0_readOne 64 = .ok (.iconst 1, 1) := by decide +kernel
theorem dX0_readOne_65 : decode cX0_readOne 65 = .ok (.iadd, 1) := by decide +kernel
theorem dX0_readOne_66 : decode cX0_readOne 66 = .ok (.putfield 32, 3) := by decide +kernel
theorem dX0_readOne_69 : decode cX0_readOne 69 = .ok (.iload 4, 2) := by decide +kernel
theorem dX0_readOne_71 : decode cX0_readOne 71 = .ok (.ifCond .eq 33, 3) := by decide +kernel
theorem dX0_readOne_74 : decode cX0_readOne 74 = .ok (.aload_n 1, 1) := by decide +kernel
theorem dX0_readOne_75 : decode cX0_readOne 75 = .ok (.invokevirtual 49, 3) := by decide +kernel
theorem dX0_readOne_78 : decode cX0_readOne 78 = .ok (.aload_n 0, 1) := by decide +kernel
theorem dX0_readOne_79 : decode cX0_readOne 79 = .ok (.aload_n 1, 1) := by decide +kernel
theorem dX0_readOne_80 : decode cX0_readOne 80 = .ok (.iload_n 2, 1) := by decide +kernel
theorem dX0_readOne_81 : decode cX0_readOne 81 = .ok (.iconst 1, 1) := by decide +kernel
theorem dX0_readOne_82 : decode cX0_readOne 82 = .ok (.iadd, 1) := by decide +kernel
theorem dX0_readOne_83 : decode cX0_readOne 83 = .ok (.invokevirtual 52, 3) := by decide +kernel
theorem dX0_readOne_86 : decode cX0_readOne 86 = .ok (.ifCond .eq 16, 3) := by decide +kernel
theorem dX0_readOne_89 : decode cX0_readOne 89 = .ok (.aload_n 1, 1) := by decide +kernel
theorem dX0_readOne_90 : decode cX0_readOne 90 = .ok (.bipush 41, 2) := by decide +kernel
theorem dX0_readOne_92 : decode cX0_readOne 92 = .ok (.invokevirtual 102, 3) := by decide +kernel
theorem dX0_readOne_95 : decode cX0_readOne 95 = .ok (.ifCond .eq 7, 3) := by decide +kernel
theorem dX0_readOne_98 : decode cX0_readOne 98 = .ok (.iconst 1, 1) := by decide +kernel
theorem dX0_readOne_99 : decode cX0_readOne 99 = .ok (.goto 4, 3) := by decide +kernel
theorem dX0_readOne_102 : decode cX0_readOne 102 = .ok (.iconst 0, 1) := by decide +kernel
theorem dX0_readOne_103 : decode cX0_readOne 103 = .ok (.ireturn, 1) := by decide +kernel
theorem dX0_readOne_104 : decode cX0_readOne 104 = .ok (.iload_n 3, 1) := by decide +kernel
theorem dX0_readOne_105 : decode cX0_readOne 105 = .ok (.ifCond .eq 27, 3) := by decide +kernel
theorem dX0_readOne_108 : decode cX0_readOne 108 = .ok (.aload_n 1, 1) := by decide +kernel
theorem dX0_readOne_109 : decode cX0_readOne 109 = .ok (.invokevirtual 49, 3) := by decide +kernel
theorem dX0_readOne_112 : decode cX0_readOne 112 = .ok (.aload_n 0, 1) := by decide +kernel
theorem dX0_readOne_113 : decode cX0_readOne 113 = .ok (.aload_n 1, 1) := by decide +kernel
theorem dX0_readOne_114 : decode cX0_readOne 114 = .ok (.iload_n 2, 1) := by decide +kernel
theorem dX0_readOne_115 : decode cX0_readOne 115 = .ok (.iconst 1, 1) := by decide +kernel
theorem dX0_readOne_116 : decode cX0_readOne 116 = .ok (.iadd, 1) := by decide +kernel
theorem dX0_readOne_117 : decode cX0_readOne 117 = .ok (.invokevirtual 86, 3) := by decide +kernel
theorem dX0_readOne_120 : decode cX0_readOne 120 = .ok (.istore 5, 2) := by decide +kernel
theorem dX0_readOne_122 : decode cX0_readOne 122 = .ok (.aload_n 0, 1) := by decide +kernel
theorem dX0_readOne_123 : decode cX0_readOne 123 = .ok (.iconst 0, 1) := by decide +kernel
theorem dX0_readOne_124 : decode cX0_readOne 124 = .ok (.iconst 0, 1) := by decide +kernel
theorem dX0_readOne_125 : decode cX0_readOne 125 = .ok (.iconst 0, 1) := by decide +kernel
theorem dX0_readOne_126 : decode cX0_readOne 126 = .ok (.invokevirtual 82, 3) := by decide +kernel
theorem dX0_readOne_129 : decode cX0_readOne 129 = .ok (.iload 5, 2) := by decide +kernel
theorem dX0_readOne_131 : decode cX0_readOne 131 = .ok (.ireturn, 1) := by decide +kernel
theorem dX0_readOne_132 : decode cX0_readOne 132 = .ok (.aload_n 0, 1) := by decide +kernel
theorem dX0_readOne_133 : decode cX0_readOne 133 = .ok (.aload_n 1, 1) := by decide +kernel
theorem dX0_readOne_134 : decode cX0_readOne 134 = .ok (.invokevirtual 105, 3) := by decide +kernel
theorem dX0_readOne_137 : decode cX0_readOne 137 = .ok (.ireturn, 1) := by decide +kernel
def wp_X0_readOne_38 (rc_X0_readAll : Nat → Nat → Int32 → PH → (Int32 → PH → Prop) → Prop) (rc_X0_readCondition : Nat → Nat → Int32 → PH → (Int32 → PH → Prop) → Prop) (rc_X0_readOne : Nat → Nat → Int32 → PH → (Int32 → PH → Prop) → Prop) (l0 : Nat) (l1 : Nat) (l2 : Int32) (l3 : Int32) (l4 : Int32)  (h : PH) (Q : Int32 → PH → Prop) : Prop := ((20 ≤ (qI h l0 6) → (wp_X7_fail l1 4 h (fun r15 h14 => ((r15 = 0 ∨ r15 = 1) ∧ Q r15 h14)))) ∧ (¬ (20 ≤ (qI h l0 6)) → ((l2 ≤ 8 → (∀ h18, h18 = qsI h l0 6 ((qI h l0 6) + 1) → ((l4 = 0 → ((l3 = 0 → (wp_X0_readComparison l0 l1 h18 (fun r22 h21 => ((r22 = 0 ∨ r22 = 1) ∧ Q r22 h21)))) ∧ (¬ (l3 = 0) → (wp_X7_pass l1 h18 (fun h24 => (rc_X0_readOne l0 l1 (l2 + 1) h24 (fun r27 h26 => (wp_X0_add l0 0 0 0 h26 (fun h28 => ((r27 = 0 ∨ r27 = 1) ∧ Q r27 h28)))))))))) ∧ (¬ (l4 = 0) → (wp_X7_pass l1 h18 (fun h31 => (rc_X0_readCondition l0 l1 (l2 + 1) h31 (fun r34 h33 => ((r34 = 0 → Q 0 h33) ∧ (¬ (r34 = 0) → (wp_X7_takeSign l1 41 h33 (fun r37 h36 => ((r37 = 0 → Q 0 h36) ∧ (¬ (r37 = 0) → Q 1 h36)))))))))))))) ∧ (¬ (l2 ≤ 8) → (wp_X7_fail l1 4 h (fun r40 h39 => ((r40 = 0 ∨ r40 = 1) ∧ Q r40 h39)))))))
set_option maxHeartbeats 4000000 in
set_option maxRecDepth 100000 in
theorem sg_X0_readOne_38 (G : GT) (d : Nat) (h0 : PH) (rc_X0_readAll : Nat → Nat → Int32 → PH → (Int32 → PH → Prop) → Prop) (hrc_X0_readAll : ∀ (a0 : Nat) (a1 : Nat) (a2 : Int32) (h : PH) (Q : Int32 → PH → Prop), qOK h 0 a0 → qOK h 7 a1 → rc_X0_readAll a0 a1 a2 h Q → Mt G (2 + d) 0 0 mX0_readAll [.ref a0, .ref a1, .int a2] h (qqb Q)) (rc_X0_readCondition : Nat → Nat → Int32 → PH → (Int32 → PH → Prop) → Prop) (hrc_X0_readCondition : ∀ (a0 : Nat) (a1 : Nat) (a2 : Int32) (h : PH) (Q : Int32 → PH → Prop), qOK h 0 a0 → qOK h 7 a1 → rc_X0_readCondition a0 a1 a2 h Q → Mt G (2 + d) 0 0 mX0_readCondition [.ref a0, .ref a1, .int a2] h (qqb Q)) (rc_X0_readOne : Nat → Nat → Int32 → PH → (Int32 → PH → Prop) → Prop) (hrc_X0_readOne : ∀ (a0 : Nat) (a1 : Nat) (a2 : Int32) (h : PH) (Q : Int32 → PH → Prop), qOK h 0 a0 → qOK h 7 a1 → rc_X0_readOne a0 a1 a2 h Q → Mt G (2 + d) 0 0 mX0_readOne [.ref a0, .ref a1, .int a2] h (qqb Q)) (l0 : Nat) (l1 : Nat) (l2 : Int32) (l3 : Int32) (l4 : Int32) (h : PH) (Q : Int32 → PH → Prop) (hex : qEx h0 h) (hnn : qn h = qn h0 + 0) (hzz : qz h = qz h0 + 0) (okl0 : qOK h 0 l0) (okl1 : qOK h 7 l1) (hwp : wp_X0_readOne_38 rc_X0_readAll rc_X0_readCondition rc_X0_readOne l0 l1 l2 l3 l4 h Q) : Ex G (qrm (3 + d) 0 0) mX0_readOne (qn h0) (qz h0) (ZN G h0 0 0 (qqb Q)) 38 [(0, .ref l0), (1, .ref l1), (2, .int l2), (3, .int l3), (4, .int l4)] [] h := by
  unfold wp_X0_readOne_38 at hwp
  refine x_aload_n (pc := 38) dX0_readOne_38 rfl ?_
  refine x_getI (pc := 39) dX0_readOne_39 qRX0_32 okl0 (by decide) ?_
  refine x_bipush (v := 20) (pc := 42) dX0_readOne_42 (by decide) ?_
  refine x_icmp_ge (tgt := 53) (pc := 44) dX0_readOne_44 (by decide) (fun c13 => ?_) (fun c13 => ?_)
  · have hwp := hwp.1 c13
    refine x_aload_n (pc := 53) dX0_readOne_53 rfl ?_
    refine x_iconst (v := 4) (pc := 54) dX0_readOne_54 (by decide) ?_
    refine x_invV (As := [.int 4]) (st := []) (pc := 55) dX0_readOne_55 lRX0_45 fX7_fail vX7_fail okl1 rfl (Nat.le_of_ble_eq_true rfl) (q_R (by omega) (by decide)) (q_C hnn hzz (by decide) (by decide)) (sn_X7_fail G (d + 2) l1 4 h _ okl1 hwp) (k_b (fun r15 h14 hwp zbr15 cxh14 => ?_))
    have hex := hex.tr cxh14.1
    have hnn : qn h14 = qn h0 + 0 := by have := cxh14.2.1; omega
    have hzz : qz h14 = qz h0 + 0 := by have := cxh14.2.2; omega
    have okl0 := okl0.ex cxh14.1
    have okl1 := okl1.ex cxh14.1
    exact x_zret (pc := 58) dX0_readOne_58 rfl hex hnn hzz hwp.1 ⟨_, rfl, hwp.1, hwp.2⟩
  · have hwp := hwp.2 c13
    refine x_iload_n (pc := 47) dX0_readOne_47 rfl ?_
    refine x_bipush (v := 8) (pc := 48) dX0_readOne_48 (by decide) ?_
    refine x_icmp_le (tgt := 59) (pc := 50) dX0_readOne_50 (by decide) (fun c17 => ?_) (fun c17 => ?_)
    · have hwp := hwp.1 c17
      refine x_aload_n (pc := 59) dX0_readOne_59 rfl ?_
      refine x_dup (pc := 60) dX0_readOne_60 rfl ?_
      refine x_getI (pc := 61) dX0_readOne_61 qRX0_32 okl0 (by decide) ?_
      refine x_iconst (v := 1) (pc := 64) dX0_readOne_64 (by decide) ?_
      refine x_iadd (pc := 65) dX0_readOne_65 ?_
      refine y_putI (pc := 66) dX0_readOne_66 qRX0_32 okl0 (fun h18 eh18 nxh18 => ?_)
      have hwp := hwp h18 eh18
      have hex := hex.tr nxh18.1
      have hnn := nxh18.2.1.trans hnn
      have hzz := nxh18.2.2.trans hzz
      have okl0 := okl0.ex nxh18.1
      have okl1 := okl1.ex nxh18.1
      refine x_iload (pc := 69) dX0_readOne_69 rfl ?_
      refine x_if_eq (tgt := 104) (pc := 71) dX0_readOne_71 (by decide) (fun c19 => ?_) (fun c19 => ?_)
      · have hwp := hwp.1 c19
        refine x_iload_n (pc := 104) dX0_readOne_104 rfl ?_
        refine x_if_eq (tgt := 132) (pc := 105) dX0_readOne_105 (by decide) (fun c20 => ?_) (fun c20 => ?_)
        · have hwp := hwp.1 c20
          refine x_aload_n (pc := 132) dX0_readOne_132 rfl ?_
          refine x_aload_n (pc := 133) dX0_readOne_133 rfl ?_
          refine x_invV (As := [.ref l1]) (st := []) (pc := 134) dX0_readOne_134 lRX0_105 fX0_readComparison vX0_readComparison okl0 rfl (Nat.le_of_ble_eq_true rfl) (q_R (by omega) (by decide)) (q_C hnn hzz (by decide) (by decide)) (sn_X0_readComparison G (d + 0) l0 l1 h18 _ okl0 okl1 hwp) (k_b (fun r22 h21 hwp zbr22 cxh21 => ?_))
          have hex := hex.tr cxh21.1
          have hnn : qn h21 = qn h0 + 0 := by have := cxh21.2.1; omega
          have hzz : qz h21 = qz h0 + 0 := by have := cxh21.2.2; omega
          have okl0 := okl0.ex cxh21.1
          have okl1 := okl1.ex cxh21.1
          exact x_zret (pc := 137) dX0_readOne_137 rfl hex hnn hzz hwp.1 ⟨_, rfl, hwp.1, hwp.2⟩
        · have hwp := hwp.2 c20
          refine x_aload_n (pc := 108) dX0_readOne_108 rfl ?_
          refine x_invV (As := []) (st := []) (pc := 109) dX0_readOne_109 lRX0_49 fX7_pass vX7_pass okl1 rfl (Nat.le_of_ble_eq_true rfl) (q_R (by omega) (by decide)) (q_C hnn hzz (by decide) (by decide)) (sn_X7_pass G (d + 2) l1 h18 _ okl1 hwp) (k_v (fun h24 hwp cxh24 => ?_))
          have hex := hex.tr cxh24.1
          have hnn : qn h24 = qn h0 + 0 := by have := cxh24.2.1; omega
          have hzz : qz h24 = qz h0 + 0 := by have := cxh24.2.2; omega
          have okl0 := okl0.ex cxh24.1
          have okl1 := okl1.ex cxh24.1
          refine x_aload_n (pc := 112) dX0_readOne_112 rfl ?_
          refine x_aload_n (pc := 113) dX0_readOne_113 rfl ?_
          refine x_iload_n (pc := 114) dX0_readOne_114 rfl ?_
          refine x_iconst (v := 1) (pc := 115) dX0_readOne_115 (by decide) ?_
          refine x_iadd (pc := 116) dX0_readOne_116 ?_
          refine x_invV (As := [.ref l1, .int (l2 + 1)]) (st := []) (pc := 117) dX0_readOne_117 lRX0_86 fX0_readOne vX0_readOne okl0 rfl (Nat.le_of_ble_eq_true rfl) (q_R (by omega) (by decide)) (q_C hnn hzz (by decide) (by decide)) (hrc_X0_readOne l0 l1 (l2 + 1) h24 _ okl0 okl1 hwp) (k_b (fun r27 h26 hwp zbr27 cxh26 => ?_))
          have hex := hex.tr cxh26.1
          have hnn : qn h26 = qn h0 + 0 := by have := cxh26.2.1; omega
          have hzz : qz h26 = qz h0 + 0 := by have := cxh26.2.2; omega
          have okl0 := okl0.ex cxh26.1
          have okl1 := okl1.ex cxh26.1
          refine x_istore (lv2 := [(5, .int r27), (0, .ref l0), (1, .ref l1), (2, .int l2), (3, .int l3), (4, .int l4)]) (pc := 120) dX0_readOne_120 (by decide) rfl ?_
          refine x_aload_n (pc := 122) dX0_readOne_122 rfl ?_
          refine x_iconst (v := 0) (pc := 123) dX0_readOne_123 (by decide) ?_
          refine x_iconst (v := 0) (pc := 124) dX0_readOne_124 (by decide) ?_
          refine x_iconst (v := 0) (pc := 125) dX0_readOne_125 (by decide) ?_
          refine x_invV (As := [.int 0, .int 0, .int 0]) (st := []) (pc := 126) dX0_readOne_126 lRX0_82 fX0_add vX0_add okl0 rfl (Nat.le_of_ble_eq_true rfl) (q_R (by omega) (by decide)) (q_C hnn hzz (by decide) (by decide)) (sn_X0_add G (d + 2) l0 0 0 0 h26 _ okl0 hwp) (k_v (fun h28 hwp cxh28 => ?_))
          have hex := hex.tr cxh28.1
          have hnn : qn h28 = qn h0 + 0 := by have := cxh28.2.1; omega
          have hzz : qz h28 = qz h0 + 0 := by have := cxh28.2.2; omega
          have okl0 := okl0.ex cxh28.1
          have okl1 := okl1.ex cxh28.1
          refine x_iload (pc := 129) dX0_readOne_129 rfl ?_
          exact x_zret (pc := 131) dX0_readOne_131 rfl hex hnn hzz hwp.1 ⟨_, rfl, hwp.1, hwp.2⟩
      · have hwp := hwp.2 c19
        refine x_aload_n (pc := 74) dX0_readOne_74 rfl ?_
        refine x_invV (As := []) (st := []) (pc := 75) dX0_readOne_75 lRX0_49 fX7_pass vX7_pass okl1 rfl (Nat.le_of_ble_eq_true rfl) (q_R (by omega) (by decide)) (q_C hnn hzz (by decide) (by decide)) (sn_X7_pass G (d + 2) l1 h18 _ okl1 hwp) (k_v (fun h31 hwp cxh31 => ?_))
        have hex := hex.tr cxh31.1
        have hnn : qn h31 = qn h0 + 0 := by have := cxh31.2.1; omega
        have hzz : qz h31 = qz h0 + 0 := by have := cxh31.2.2; omega
        have okl0 := okl0.ex cxh31.1
        have okl1 := okl1.ex cxh31.1
        refine x_aload_n (pc := 78) dX0_readOne_78 rfl ?_
        refine x_aload_n (pc := 79) dX0_readOne_79 rfl ?_
        refine x_iload_n (pc := 80) dX0_readOne_80 rfl ?_
        refine x_iconst (v := 1) (pc := 81) dX0_readOne_81 (by decide) ?_
        refine x_iadd (pc := 82) dX0_readOne_82 ?_
        refine x_invV (As := [.ref l1, .int (l2 + 1)]) (st := []) (pc := 83) dX0_readOne_83 lRX0_52 fX0_readCondition vX0_readCondition okl0 rfl (Nat.le_of_ble_eq_true rfl) (q_R (by omega) (by decide)) (q_C hnn hzz (by decide) (by decide)) (hrc_X0_readCondition l0 l1 (l2 + 1) h31 _ okl0 okl1 hwp) (k_b (fun r34 h33 hwp zbr34 cxh33 => ?_))
        have hex := hex.tr cxh33.1
        have hnn : qn h33 = qn h0 + 0 := by have := cxh33.2.1; omega
        have hzz : qz h33 = qz h0 + 0 := by have := cxh33.2.2; omega
        have okl0 := okl0.ex cxh33.1
        have okl1 := okl1.ex cxh33.1
        refine x_if_eq (tgt := 102) (pc := 86) dX0_readOne_86 (by decide) (fun c35 => ?_) (fun c35 => ?_)
        · have hwp := hwp.1 c35
          refine x_iconst (v := 0) (pc := 102) dX0_readOne_102 (by decide) ?_
          exact x_zret (pc := 103) dX0_readOne_103 rfl hex hnn hzz (by decide) ⟨_, rfl, by decide, hwp⟩
        · have hwp := hwp.2 c35
          refine x_aload_n (pc := 89) dX0_readOne_89 rfl ?_
          refine x_bipush (v := 41) (pc := 90) dX0_readOne_90 (by decide) ?_
          refine x_invV (As := [.int 41]) (st := []) (pc := 92) dX0_readOne_92 lRX0_102 fX7_takeSign vX7_takeSign okl1 rfl (Nat.le_of_ble_eq_true rfl) (q_R (by omega) (by decide)) (q_C hnn hzz (by decide) (by decide)) (sn_X7_takeSign G (d + 1) l1 41 h33 _ okl1 hwp) (k_b (fun r37 h36 hwp zbr37 cxh36 => ?_))
          have hex := hex.tr cxh36.1
          have hnn : qn h36 = qn h0 + 0 := by have := cxh36.2.1; omega
          have hzz : qz h36 = qz h0 + 0 := by have := cxh36.2.2; omega
          have okl0 := okl0.ex cxh36.1
          have okl1 := okl1.ex cxh36.1
          refine x_if_eq (tgt := 102) (pc := 95) dX0_readOne_95 (by decide) (fun c38 => ?_) (fun c38 => ?_)
          · have hwp := hwp.1 c38
            refine x_iconst (v := 0) (pc := 102) dX0_readOne_102 (by decide) ?_
            exact x_zret (pc := 103) dX0_readOne_103 rfl hex hnn hzz (by decide) ⟨_, rfl, by decide, hwp⟩
          · have hwp := hwp.2 c38
            refine x_iconst (v := 1) (pc := 98) dX0_readOne_98 (by decide) ?_
            refine x_goto (tgt := 103) (pc := 99) dX0_readOne_99 (by decide) ?_
            exact x_zret (pc := 103) dX0_readOne_103 rfl hex hnn hzz (by decide) ⟨_, rfl, by decide, hwp⟩
    · have hwp := hwp.2 c17
      refine x_aload_n (pc := 53) dX0_readOne_53 rfl ?_
      refine x_iconst (v := 4) (pc := 54) dX0_readOne_54 (by decide) ?_
      refine x_invV (As := [.int 4]) (st := []) (pc := 55) dX0_readOne_55 lRX0_45 fX7_fail vX7_fail okl1 rfl (Nat.le_of_ble_eq_true rfl) (q_R (by omega) (by decide)) (q_C hnn hzz (by decide) (by decide)) (sn_X7_fail G (d + 2) l1 4 h _ okl1 hwp) (k_b (fun r40 h39 hwp zbr40 cxh39 => ?_))
      have hex := hex.tr cxh39.1
      have hnn : qn h39 = qn h0 + 0 := by have := cxh39.2.1; omega
      have hzz : qz h39 = qz h0 + 0 := by have := cxh39.2.2; omega
      have okl0 := okl0.ex cxh39.1
      have okl1 := okl1.ex cxh39.1
      exact x_zret (pc := 58) dX0_readOne_58 rfl hex hnn hzz hwp.1 ⟨_, rfl, hwp.1, hwp.2⟩
def wp_X0_readOne (rc_X0_readAll : Nat → Nat → Int32 → PH → (Int32 → PH → Prop) → Prop) (rc_X0_readCondition : Nat → Nat → Int32 → PH → (Int32 → PH → Prop) → Prop) (rc_X0_readOne : Nat → Nat → Int32 → PH → (Int32 → PH → Prop) → Prop) (l0 : Nat) (l1 : Nat) (l2 : Int32) (h : PH) (Q : Int32 → PH → Prop) : Prop := (wp_X7_isWord l1 (wd 18) h (fun r2 h1 => (wp_X7_isSign l1 40 h1 (fun r4 h3 => ((¬ r2 = 0 → (wp_X0_readOne_38 rc_X0_readAll rc_X0_readCondition rc_X0_readOne l0 l1 l2 r2 r4 h3 Q)) ∧ (r2 = 0 → ((¬ r4 = 0 → (wp_X0_readOne_38 rc_X0_readAll rc_X0_readCondition rc_X0_readOne l0 l1 l2 r2 r4 h3 Q)) ∧ (r4 = 0 → (wp_X0_isValue l1 h3 (fun r8 h7 => ((¬ r8 = 0 → (wp_X0_readOne_38 rc_X0_readAll rc_X0_readCondition rc_X0_readOne l0 l1 l2 r2 r4 h7 Q)) ∧ (r8 = 0 → (wp_X7_fail l1 1 h7 (fun r11 h10 => ((r11 = 0 ∨ r11 = 1) ∧ Q r11 h10)))))))))))))))
set_option maxHeartbeats 4000000 in
set_option maxRecDepth 100000 in
theorem sn_X0_readOne (G : GT) (d : Nat) (rc_X0_readAll : Nat → Nat → Int32 → PH → (Int32 → PH → Prop) → Prop) (hrc_X0_readAll : ∀ (a0 : Nat) (a1 : Nat) (a2 : Int32) (h : PH) (Q : Int32 → PH → Prop), qOK h 0 a0 → qOK h 7 a1 → rc_X0_readAll a0 a1 a2 h Q → Mt G (2 + d) 0 0 mX0_readAll [.ref a0, .ref a1, .int a2] h (qqb Q)) (rc_X0_readCondition : Nat → Nat → Int32 → PH → (Int32 → PH → Prop) → Prop) (hrc_X0_readCondition : ∀ (a0 : Nat) (a1 : Nat) (a2 : Int32) (h : PH) (Q : Int32 → PH → Prop), qOK h 0 a0 → qOK h 7 a1 → rc_X0_readCondition a0 a1 a2 h Q → Mt G (2 + d) 0 0 mX0_readCondition [.ref a0, .ref a1, .int a2] h (qqb Q)) (rc_X0_readOne : Nat → Nat → Int32 → PH → (Int32 → PH → Prop) → Prop) (hrc_X0_readOne : ∀ (a0 : Nat) (a1 : Nat) (a2 : Int32) (h : PH) (Q : Int32 → PH → Prop), qOK h 0 a0 → qOK h 7 a1 → rc_X0_readOne a0 a1 a2 h Q → Mt G (2 + d) 0 0 mX0_readOne [.ref a0, .ref a1, .int a2] h (qqb Q)) (l0 : Nat) (l1 : Nat) (l2 : Int32) (h : PH) (Q : Int32 → PH → Prop) (okl0 : qOK h 0 l0) (okl1 : qOK h 7 l1) (hwp : wp_X0_readOne rc_X0_readAll rc_X0_readCondition rc_X0_readOne l0 l1 l2 h Q) : Mt G (3 + d) 0 0 mX0_readOne [.ref l0, .ref l1, .int l2] h (qqb Q) := by
  unfold wp_X0_readOne at hwp
  refine Mt.of (by decide) rfl (Nat.le_of_ble_eq_true rfl) ?_
  have hex := qEx.rf h
  have hnn : qn h = qn h + 0 := rfl
  have hzz : qz h = qz h + 0 := rfl
  refine x_lvE (lv2 := [(0, .ref l0), (1, .ref l1), (2, .int l2)]) rfl ?_
  refine x_aload_n (pc := 0) dX0_readOne_0 rfl ?_
  refine x_gets (pc := 1) dX0_readOne_1 (by decide) gRX0_92 ?_
  refine x_invV (As := [.ref (wd 18)]) (st := []) (pc := 4) dX0_readOne_4 lRX0_78 fX7_isWord vX7_isWord okl1 rfl (Nat.le_of_ble_eq_true rfl) (q_R (by omega) (by decide)) (q_C hnn hzz (by decide) (by decide)) (sn_X7_isWord G (d + 2) l1 (wd 18) h _ okl1 hwp) (k_b (fun r2 h1 hwp zbr2 cxh1 => ?_))
  have hex := hex.tr cxh1.1
  have hnn : qn h1 = qn h + 0 := by have := cxh1.2.1; omega
  have hzz : qz h1 = qz h + 0 := by have := cxh1.2.2; omega
  have okl0 := okl0.ex cxh1.1
  have okl1 := okl1.ex cxh1.1
  refine x_istore_n (lv2 := [(3, .int r2), (0, .ref l0), (1, .ref l1), (2, .int l2)]) (pc := 7) dX0_readOne_7 (by decide) rfl ?_
  refine x_aload_n (pc := 8) dX0_readOne_8 rfl ?_
  refine x_bipush (v := 40) (pc := 9) dX0_readOne_9 (by decide) ?_
  refine x_invV (As := [.int 40]) (st := []) (pc := 11) dX0_readOne_11 lRX0_95 fX7_isSign vX7_isSign okl1 rfl (Nat.le_of_ble_eq_true rfl) (q_R (by omega) (by decide)) (q_C hnn hzz (by decide) (by decide)) (sn_X7_isSign G (d + 2) l1 40 h1 _ okl1 hwp) (k_b (fun r4 h3 hwp zbr4 cxh3 => ?_))
  have hex := hex.tr cxh3.1
  have hnn : qn h3 = qn h + 0 := by have := cxh3.2.1; omega
  have hzz : qz h3 = qz h + 0 := by have := cxh3.2.2; omega
  have okl0 := okl0.ex cxh3.1
  have okl1 := okl1.ex cxh3.1
  refine x_istore (lv2 := [(4, .int r4), (3, .int r2), (0, .ref l0), (1, .ref l1), (2, .int l2)]) (pc := 14) dX0_readOne_14 (by decide) rfl ?_
  refine x_iload_n (pc := 16) dX0_readOne_16 rfl ?_
  refine x_if_ne (tgt := 38) (pc := 17) dX0_readOne_17 (by decide) (fun c5 => ?_) (fun c5 => ?_)
  · have hwp := hwp.1 c5
    refine x_sub [2, 3, 4, 1, 0] rfl ?_
    exact sg_X0_readOne_38 G d h rc_X0_readAll hrc_X0_readAll rc_X0_readCondition hrc_X0_readCondition rc_X0_readOne hrc_X0_readOne l0 l1 l2 r2 r4 h3 Q hex hnn hzz okl0 okl1 hwp
  · have hwp := hwp.2 c5
    refine x_iload (pc := 20) dX0_readOne_20 rfl ?_
    refine x_if_ne (tgt := 38) (pc := 22) dX0_readOne_22 (by decide) (fun c6 => ?_) (fun c6 => ?_)
    · have hwp := hwp.1 c6
      refine x_sub [2, 3, 4, 1, 0] rfl ?_
      exact sg_X0_readOne_38 G d h rc_X0_readAll hrc_X0_readAll rc_X0_readCondition hrc_X0_readCondition rc_X0_readOne hrc_X0_readOne l0 l1 l2 r2 r4 h3 Q hex hnn hzz okl0 okl1 hwp
    · have hwp := hwp.2 c6
      refine x_aload_n (pc := 25) dX0_readOne_25 rfl ?_
      refine x_invS (As := [.ref l1]) (st := []) (pc := 26) dX0_readOne_26 lRX0_98 fX0_isValue sX0_isValue rfl (Nat.le_of_ble_eq_true rfl) (q_R (by omega) (by decide)) (q_C hnn hzz (by decide) (by decide)) (sn_X0_isValue G (d + 1) l1 h3 _ okl1 hwp) (k_b (fun r8 h7 hwp zbr8 cxh7 => ?_))
      have hex := hex.tr cxh7.1
      have hnn : qn h7 = qn h + 0 := by have := cxh7.2.1; omega
      have hzz : qz h7 = qz h + 0 := by have := cxh7.2.2; omega
      have okl0 := okl0.ex cxh7.1
      have okl1 := okl1.ex cxh7.1
      refine x_if_ne (tgt := 38) (pc := 29) dX0_readOne_29 (by decide) (fun c9 => ?_) (fun c9 => ?_)
      · have hwp := hwp.1 c9
        refine x_sub [2, 3, 4, 1, 0] rfl ?_
        exact sg_X0_readOne_38 G d h rc_X0_readAll hrc_X0_readAll rc_X0_readCondition hrc_X0_readCondition rc_X0_readOne hrc_X0_readOne l0 l1 l2 r2 r4 h7 Q hex hnn hzz okl0 okl1 hwp
      · have hwp := hwp.2 c9
        refine x_aload_n (pc := 32) dX0_readOne_32 rfl ?_
        refine x_iconst (v := 1) (pc := 33) dX0_readOne_33 (by decide) ?_
        refine x_invV (As := [.int 1]) (st := []) (pc := 34) dX0_readOne_34 lRX0_45 fX7_fail vX7_fail okl1 rfl (Nat.le_of_ble_eq_true rfl) (q_R (by omega) (by decide)) (q_C hnn hzz (by decide) (by decide)) (sn_X7_fail G (d + 2) l1 1 h7 _ okl1 hwp) (k_b (fun r11 h10 hwp zbr11 cxh10 => ?_))
        have hex := hex.tr cxh10.1
        have hnn : qn h10 = qn h + 0 := by have := cxh10.2.1; omega
        have hzz : qz h10 = qz h + 0 := by have := cxh10.2.2; omega
        have okl0 := okl0.ex cxh10.1
        have okl1 := okl1.ex cxh10.1
        exact x_zret (pc := 37) dX0_readOne_37 rfl hex hnn hzz hwp.1 ⟨_, rfl, hwp.1, hwp.2⟩

def rg_X0 : Nat → (Nat → Nat → Int32 → PH → (Int32 → PH → Prop) → Prop) × (Nat → Nat → Int32 → PH → (Int32 → PH → Prop) → Prop) × (Nat → Nat → Int32 → PH → (Int32 → PH → Prop) → Prop)
  | 0 => ((fun _ _ _ _ _ => False), (fun _ _ _ _ _ => False), (fun _ _ _ _ _ => False))
  | n + 1 => (wp_X0_readAll ((rg_X0 n).1) ((rg_X0 n).2.1) ((rg_X0 n).2.2), wp_X0_readCondition ((rg_X0 n).1) ((rg_X0 n).2.1) ((rg_X0 n).2.2), wp_X0_readOne ((rg_X0 n).1) ((rg_X0 n).2.1) ((rg_X0 n).2.2))
theorem rs_X0 (G : GT) : ∀ (n d : Nat), (∀ (a0 : Nat) (a1 : Nat) (a2 : Int32) (h : PH) (Q : Int32 → PH → Prop), qOK h 0 a0 → qOK h 7 a1 → (rg_X0 n).1 a0 a1 a2 h Q → Mt G (3 + n + d) 0 0 mX0_readAll [.ref a0, .ref a1, .int a2] h (qqb Q)) ∧ (∀ (a0 : Nat) (a1 : Nat) (a2 : Int32) (h : PH) (Q : Int32 → PH → Prop), qOK h 0 a0 → qOK h 7 a1 → (rg_X0 n).2.1 a0 a1 a2 h Q → Mt G (3 + n + d) 0 0 mX0_readCondition [.ref a0, .ref a1, .int a2] h (qqb Q)) ∧ (∀ (a0 : Nat) (a1 : Nat) (a2 : Int32) (h : PH) (Q : Int32 → PH → Prop), qOK h 0 a0 → qOK h 7 a1 → (rg_X0 n).2.2 a0 a1 a2 h Q → Mt G (3 + n + d) 0 0 mX0_readOne [.ref a0, .ref a1, .int a2] h (qqb Q))
  | 0, d => ⟨fun _ _ _ _ _ _ _ hwp => absurd hwp (fun w => w), fun _ _ _ _ _ _ _ hwp => absurd hwp (fun w => w), fun _ _ _ _ _ _ _ hwp => absurd hwp (fun w => w)⟩
  | n + 1, d => by
    have ih := rs_X0 G n d
    rw [show 3 + n + d = 2 + (n + 1 + d) by omega] at ih
    rw [show 3 + (n + 1) + d = 3 + (n + 1 + d) by omega]
    exact ⟨fun a0 a1 a2 h Q ok0 ok1 hwp => sn_X0_readAll G (n + 1 + d) ((rg_X0 n).1) (ih.1) ((rg_X0 n).2.1) (ih.2.1) ((rg_X0 n).2.2) (ih.2.2) a0 a1 a2 h Q ok0 ok1 hwp, fun a0 a1 a2 h Q ok0 ok1 hwp => sn_X0_readCondition G (n + 1 + d) ((rg_X0 n).1) (ih.1) ((rg_X0 n).2.1) (ih.2.1) ((rg_X0 n).2.2) (ih.2.2) a0 a1 a2 h Q ok0 ok1 hwp, fun a0 a1 a2 h Q ok0 ok1 hwp => sn_X0_readOne G (n + 1 + d) ((rg_X0 n).1) (ih.1) ((rg_X0 n).2.1) (ih.2.1) ((rg_X0 n).2.2) (ih.2.2) a0 a1 a2 h Q ok0 ok1 hwp⟩
def wp_X0_readAllR (a0 : Nat) (a1 : Nat) (a2 : Int32) (h : PH) (Q : Int32 → PH → Prop) : Prop := (rg_X0 40).1 a0 a1 a2 h Q
theorem sn_X0_readAllR (G : GT) (d : Nat) (a0 : Nat) (a1 : Nat) (a2 : Int32) (h : PH) (Q : Int32 → PH → Prop) (ok0 : qOK h 0 a0) (ok1 : qOK h 7 a1) (hwp : wp_X0_readAllR a0 a1 a2 h Q) : Mt G (43 + d) 0 0 mX0_readAll [.ref a0, .ref a1, .int a2] h (qqb Q) := by
  have k := (rs_X0 G 40 d).1 a0 a1 a2 h Q ok0 ok1 hwp
  rw [show 3 + 40 + d = 43 + d by omega] at k
  exact k
def wp_X0_readConditionR (a0 : Nat) (a1 : Nat) (a2 : Int32) (h : PH) (Q : Int32 → PH → Prop) : Prop := (rg_X0 40).2.1 a0 a1 a2 h Q
theorem sn_X0_readConditionR (G : GT) (d : Nat) (a0 : Nat) (a1 : Nat) (a2 : Int32) (h : PH) (Q : Int32 → PH → Prop) (ok0 : qOK h 0 a0) (ok1 : qOK h 7 a1) (hwp : wp_X0_readConditionR a0 a1 a2 h Q) : Mt G (43 + d) 0 0 mX0_readCondition [.ref a0, .ref a1, .int a2] h (qqb Q) := by
  have k := (rs_X0 G 40 d).2.1 a0 a1 a2 h Q ok0 ok1 hwp
  rw [show 3 + 40 + d = 43 + d by omega] at k
  exact k
def wp_X0_readOneR (a0 : Nat) (a1 : Nat) (a2 : Int32) (h : PH) (Q : Int32 → PH → Prop) : Prop := (rg_X0 40).2.2 a0 a1 a2 h Q
theorem sn_X0_readOneR (G : GT) (d : Nat) (a0 : Nat) (a1 : Nat) (a2 : Int32) (h : PH) (Q : Int32 → PH → Prop) (ok0 : qOK h 0 a0) (ok1 : qOK h 7 a1) (hwp : wp_X0_readOneR a0 a1 a2 h Q) : Mt G (43 + d) 0 0 mX0_readOne [.ref a0, .ref a1, .int a2] h (qqb Q) := by
  have k := (rs_X0 G 40 d).2.2 a0 a1 a2 h Q ok0 ok1 hwp
  rw [show 3 + 40 + d = 43 + d by omega] at k
  exact k

theorem dX0_readFrom_0 : decode cX0_readFrom 0 = .ok (.aload_n 0, 1) := by decide +kernel
theorem dX0_readFrom_1 : decode cX0_readFrom 1 = .ok (.iconst 0, 1) := by decide +kernel
theorem dX0_readFrom_2 : decode cX0_readFrom 2 = .ok (.putfield 29, 3) := by decide +kernel
theorem dX0_readFrom_5 : decode cX0_readFrom 5 = .ok (.aload_n 0, 1) := by decide +kernel
theorem dX0_readFrom_6 : decode cX0_readFrom 6 = .ok (.iconst 0, 1) := by decide +kernel
theorem dX0_readFrom_7 : decode cX0_readFrom 7 = .ok (.putfield 32, 3) := by decide +kernel
theorem dX0_readFrom_10 : decode cX0_readFrom 10 = .ok (.aload_n 0, 1) := by decide +kernel
theorem dX0_readFrom_11 : decode cX0_readFrom 11 = .ok (.aload_n 1, 1) := by decide +kernel
theorem dX0_readFrom_12 : decode cX0_readFrom 12 = .ok (.invokevirtual 35, 3) := by decide +kernel
theorem dX0_readFrom_15 : decode cX0_readFrom 15 = .ok (.invokestatic 41, 3) := by decide +kernel
theorem dX0_readFrom_18 : decode cX0_readFrom 18 = .ok (.putfield 25, 3) := by decide +kernel
theorem dX0_readFrom_21 : decode cX0_readFrom 21 = .ok (.aload_n 0, 1) := by decide +kernel
theorem dX0_readFrom_22 : decode cX0_readFrom 22 = .ok (.getfield 25, 3) := by decide +kernel
theorem dX0_readFrom_25 : decode cX0_readFrom 25 = .ok (.ifCond .ne 9, 3) := by decide +kernel
theorem dX0_readFrom_28 : decode cX0_readFrom 28 = .ok (.aload_n 1, 1) := by decide +kernel
theorem dX0_readFrom_29 : decode cX0_readFrom 29 = .ok (.iconst 1, 1) := by decide +kernel
theorem dX0_readFrom_30 : decode cX0_readFrom 30 = .ok (.invokevirtual 45, 3) := by decide +kernel
theorem dX0_readFrom_33 : decode cX0_readFrom 33 = .ok (.ireturn, 1) := by decide +kernel
theorem dX0_readFrom_34 : decode cX0_readFrom 34 = .ok (.aload_n 1, 1) := by decide +kernel
theorem dX0_readFrom_35 : decode cX0_readFrom 35 = .ok (.invokevirtual 49, 3) := by decide +kernel
theorem dX0_readFrom_38 : decode cX0_readFrom 38 = .ok (.aload_n 0, 1) := by decide +kernel
theorem dX0_readFrom_39 : decode cX0_readFrom 39 = .ok (.aload_n 1, 1) := by decide +kernel
theorem dX0_readFrom_40 : decode cX0_readFrom 40 = .ok (.iconst 1, 1) := by decide +kernel
theorem dX0_readFrom_41 : decode cX0_readFrom 41 = .ok (.invokevirtual 52, 3) := by decide +kernel
theorem dX0_readFrom_44 : decode cX0_readFrom 44 = .ok (.ifCond .eq 14, 3) := by decide +kernel
theorem dX0_readFrom_47 : decode cX0_readFrom 47 = .ok (.aload_n 1, 1) := by decide +kernel
theorem dX0_readFrom_48 : decode cX0_readFrom 48 = .ok (.invokevirtual 56, 3) := by decide +kernel
theorem dX0_readFrom_51 : decode cX0_readFrom 51 = .ok (.ifCond .eq 7, 3) := by decide +kernel
theorem dX0_readFrom_54 : decode cX0_readFrom 54 = .ok (.iconst 1, 1) := by decide +kernel
theorem dX0_readFrom_55 : decode cX0_readFrom 55 = .ok (.goto 4, 3) := by decide +kernel
theorem dX0_readFrom_58 : decode cX0_readFrom 58 = .ok (.iconst 0, 1) := by decide +kernel
theorem dX0_readFrom_59 : decode cX0_readFrom 59 = .ok (.ireturn, 1) := by decide +kernel
def wp_X0_readFrom (l0 : Nat) (l1 : Nat) (h : PH) (Q : Int32 → PH → Prop) : Prop := (∀ h1, h1 = qsI h l0 5 0 → (∀ h2, h2 = qsI h1 l0 6 0 → (wp_X7_knownWord l1 h2 (fun r4 h3 => (wp_X0_kindOf r4 h3 (fun r6 h5 => (∀ h7, h7 = qsI h5 l0 4 r6 → ((¬ (qI h7 l0 4) = 0 → (wp_X7_pass l1 h7 (fun h9 => (wp_X0_readConditionR l0 l1 1 h9 (fun r12 h11 => ((r12 = 0 → Q 0 h11) ∧ (¬ (r12 = 0) → (wp_X7_takeEnd l1 h11 (fun r15 h14 => ((r15 = 0 → Q 0 h14) ∧ (¬ (r15 = 0) → Q 1 h14))))))))))) ∧ ((qI h7 l0 4) = 0 → (wp_X7_fail l1 1 h7 (fun r18 h17 => ((r18 = 0 ∨ r18 = 1) ∧ Q r18 h17))))))))))))
set_option maxHeartbeats 4000000 in
set_option maxRecDepth 100000 in
theorem sn_X0_readFrom (G : GT) (d : Nat) (l0 : Nat) (l1 : Nat) (h : PH) (Q : Int32 → PH → Prop) (okl0 : qOK h 0 l0) (okl1 : qOK h 7 l1) (hwp : wp_X0_readFrom l0 l1 h Q) : Mt G (44 + d) 0 0 mX0_readFrom [.ref l0, .ref l1] h (qqb Q) := by
  unfold wp_X0_readFrom at hwp
  refine Mt.of (by decide) rfl (Nat.le_of_ble_eq_true rfl) ?_
  have hex := qEx.rf h
  have hnn : qn h = qn h + 0 := rfl
  have hzz : qz h = qz h + 0 := rfl
  refine x_lvE (lv2 := [(0, .ref l0), (1, .ref l1)]) rfl ?_
  refine x_aload_n (pc := 0) dX0_readFrom_0 rfl ?_
  refine x_iconst (v := 0) (pc := 1) dX0_readFrom_1 (by decide) ?_
  refine y_putI (pc := 2) dX0_readFrom_2 qRX0_29 okl0 (fun h1 eh1 nxh1 => ?_)
  have hwp := hwp h1 eh1
  have hex := hex.tr nxh1.1
  have hnn := nxh1.2.1.trans hnn
  have hzz := nxh1.2.2.trans hzz
  have okl0 := okl0.ex nxh1.1
  have okl1 := okl1.ex nxh1.1
  refine x_aload_n (pc := 5) dX0_readFrom_5 rfl ?_
  refine x_iconst (v := 0) (pc := 6) dX0_readFrom_6 (by decide) ?_
  refine y_putI (pc := 7) dX0_readFrom_7 qRX0_32 okl0 (fun h2 eh2 nxh2 => ?_)
  have hwp := hwp h2 eh2
  have hex := hex.tr nxh2.1
  have hnn := nxh2.2.1.trans hnn
  have hzz := nxh2.2.2.trans hzz
  have okl0 := okl0.ex nxh2.1
  have okl1 := okl1.ex nxh2.1
  refine x_aload_n (pc := 10) dX0_readFrom_10 rfl ?_
  refine x_aload_n (pc := 11) dX0_readFrom_11 rfl ?_
  refine x_invV (As := []) (st := [.ref l0]) (pc := 12) dX0_readFrom_12 lRX0_35 fX7_knownWord vX7_knownWord okl1 rfl (Nat.le_of_ble_eq_true rfl) (q_R (by omega) (by decide)) (q_C hnn hzz (by decide) (by decide)) (sn_X7_knownWord G (d + 43) l1 h2 _ okl1 hwp) (k_r (fun r4 h3 hwp cxh3 => ?_))
  have hex := hex.tr cxh3.1
  have hnn : qn h3 = qn h + 0 := by have := cxh3.2.1; omega
  have hzz : qz h3 = qz h + 0 := by have := cxh3.2.2; omega
  have okl0 := okl0.ex cxh3.1
  have okl1 := okl1.ex cxh3.1
  refine x_invS (As := [va_rf r4]) (st := [.ref l0]) (pc := 15) dX0_readFrom_15 lRX0_41 fX0_kindOf sX0_kindOf rfl (Nat.le_of_ble_eq_true rfl) (q_R (by omega) (by decide)) (q_C hnn hzz (by decide) (by decide)) (sn_X0_kindOf G (d + 43) r4 h3 _  hwp) (k_i (fun r6 h5 hwp cxh5 => ?_))
  have hex := hex.tr cxh5.1
  have hnn : qn h5 = qn h + 0 := by have := cxh5.2.1; omega
  have hzz : qz h5 = qz h + 0 := by have := cxh5.2.2; omega
  have okl0 := okl0.ex cxh5.1
  have okl1 := okl1.ex cxh5.1
  refine y_putI (pc := 18) dX0_readFrom_18 qRX0_25 okl0 (fun h7 eh7 nxh7 => ?_)
  have hwp := hwp h7 eh7
  have hex := hex.tr nxh7.1
  have hnn := nxh7.2.1.trans hnn
  have hzz := nxh7.2.2.trans hzz
  have okl0 := okl0.ex nxh7.1
  have okl1 := okl1.ex nxh7.1
  refine x_aload_n (pc := 21) dX0_readFrom_21 rfl ?_
  refine x_getI (pc := 22) dX0_readFrom_22 qRX0_25 okl0 (by decide) ?_
  refine x_if_ne (tgt := 34) (pc := 25) dX0_readFrom_25 (by decide) (fun c8 => ?_) (fun c8 => ?_)
  · have hwp := hwp.1 c8
    refine x_aload_n (pc := 34) dX0_readFrom_34 rfl ?_
    refine x_invV (As := []) (st := []) (pc := 35) dX0_readFrom_35 lRX0_49 fX7_pass vX7_pass okl1 rfl (Nat.le_of_ble_eq_true rfl) (q_R (by omega) (by decide)) (q_C hnn hzz (by decide) (by decide)) (sn_X7_pass G (d + 43) l1 h7 _ okl1 hwp) (k_v (fun h9 hwp cxh9 => ?_))
    have hex := hex.tr cxh9.1
    have hnn : qn h9 = qn h + 0 := by have := cxh9.2.1; omega
    have hzz : qz h9 = qz h + 0 := by have := cxh9.2.2; omega
    have okl0 := okl0.ex cxh9.1
    have okl1 := okl1.ex cxh9.1
    refine x_aload_n (pc := 38) dX0_readFrom_38 rfl ?_
    refine x_aload_n (pc := 39) dX0_readFrom_39 rfl ?_
    refine x_iconst (v := 1) (pc := 40) dX0_readFrom_40 (by decide) ?_
    refine x_invV (As := [.ref l1, .int 1]) (st := []) (pc := 41) dX0_readFrom_41 lRX0_52 fX0_readCondition vX0_readCondition okl0 rfl (Nat.le_of_ble_eq_true rfl) (q_R (by omega) (by decide)) (q_C hnn hzz (by decide) (by decide)) (sn_X0_readConditionR G (d + 0) l0 l1 1 h9 _ okl0 okl1 hwp) (k_b (fun r12 h11 hwp zbr12 cxh11 => ?_))
    have hex := hex.tr cxh11.1
    have hnn : qn h11 = qn h + 0 := by have := cxh11.2.1; omega
    have hzz : qz h11 = qz h + 0 := by have := cxh11.2.2; omega
    have okl0 := okl0.ex cxh11.1
    have okl1 := okl1.ex cxh11.1
    refine x_if_eq (tgt := 58) (pc := 44) dX0_readFrom_44 (by decide) (fun c13 => ?_) (fun c13 => ?_)
    · have hwp := hwp.1 c13
      refine x_iconst (v := 0) (pc := 58) dX0_readFrom_58 (by decide) ?_
      exact x_zret (pc := 59) dX0_readFrom_59 rfl hex hnn hzz (by decide) ⟨_, rfl, by decide, hwp⟩
    · have hwp := hwp.2 c13
      refine x_aload_n (pc := 47) dX0_readFrom_47 rfl ?_
      refine x_invV (As := []) (st := []) (pc := 48) dX0_readFrom_48 lRX0_56 fX7_takeEnd vX7_takeEnd okl1 rfl (Nat.le_of_ble_eq_true rfl) (q_R (by omega) (by decide)) (q_C hnn hzz (by decide) (by decide)) (sn_X7_takeEnd G (d + 42) l1 h11 _ okl1 hwp) (k_b (fun r15 h14 hwp zbr15 cxh14 => ?_))
      have hex := hex.tr cxh14.1
      have hnn : qn h14 = qn h + 0 := by have := cxh14.2.1; omega
      have hzz : qz h14 = qz h + 0 := by have := cxh14.2.2; omega
      have okl0 := okl0.ex cxh14.1
      have okl1 := okl1.ex cxh14.1
      refine x_if_eq (tgt := 58) (pc := 51) dX0_readFrom_51 (by decide) (fun c16 => ?_) (fun c16 => ?_)
      · have hwp := hwp.1 c16
        refine x_iconst (v := 0) (pc := 58) dX0_readFrom_58 (by decide) ?_
        exact x_zret (pc := 59) dX0_readFrom_59 rfl hex hnn hzz (by decide) ⟨_, rfl, by decide, hwp⟩
      · have hwp := hwp.2 c16
        refine x_iconst (v := 1) (pc := 54) dX0_readFrom_54 (by decide) ?_
        refine x_goto (tgt := 59) (pc := 55) dX0_readFrom_55 (by decide) ?_
        exact x_zret (pc := 59) dX0_readFrom_59 rfl hex hnn hzz (by decide) ⟨_, rfl, by decide, hwp⟩
  · have hwp := hwp.2 c8
    refine x_aload_n (pc := 28) dX0_readFrom_28 rfl ?_
    refine x_iconst (v := 1) (pc := 29) dX0_readFrom_29 (by decide) ?_
    refine x_invV (As := [.int 1]) (st := []) (pc := 30) dX0_readFrom_30 lRX0_45 fX7_fail vX7_fail okl1 rfl (Nat.le_of_ble_eq_true rfl) (q_R (by omega) (by decide)) (q_C hnn hzz (by decide) (by decide)) (sn_X7_fail G (d + 43) l1 1 h7 _ okl1 hwp) (k_b (fun r18 h17 hwp zbr18 cxh17 => ?_))
    have hex := hex.tr cxh17.1
    have hnn : qn h17 = qn h + 0 := by have := cxh17.2.1; omega
    have hzz : qz h17 = qz h + 0 := by have := cxh17.2.2; omega
    have okl0 := okl0.ex cxh17.1
    have okl1 := okl1.ex cxh17.1
    exact x_zret (pc := 33) dX0_readFrom_33 rfl hex hnn hzz hwp.1 ⟨_, rfl, hwp.1, hwp.2⟩

theorem dX0_operandAt_0 : decode cX0_operandAt 0 = .ok (.iload_n 0, 1) := by decide +kernel
theorem dX0_operandAt_1 : decode cX0_operandAt 1 = .ok (.ifCond .lt 7, 3) := by decide +kernel
theorem dX0_operandAt_4 : decode cX0_operandAt 4 = .ok (.iload_n 0, 1) := by decide +kernel
theorem dX0_operandAt_5 : decode cX0_operandAt 5 = .ok (.goto 11, 3) := by decide +kernel
theorem dX0_operandAt_8 : decode cX0_operandAt 8 = .ok (.aload_n 2, 1) := by decide +kernel
theorem dX0_operandAt_9 : decode cX0_operandAt 9 = .ok (.iconst (-1), 1) := by decide +kernel
theorem dX0_operandAt_10 : decode cX0_operandAt 10 = .ok (.iload_n 0, 1) := by decide +kernel
theorem dX0_operandAt_11 : decode cX0_operandAt 11 = .ok (.isub, 1) := by decide +kernel
theorem dX0_operandAt_12 : decode cX0_operandAt 12 = .ok (.iload_n 1, 1) := by decide +kernel
theorem dX0_operandAt_13 : decode cX0_operandAt 13 = .ok (.invokevirtual 130, 3) := by decide +kernel
theorem dX0_operandAt_16 : decode cX0_operandAt 16 = .ok (.ireturn, 1) := by decide +kernel
def wp_X0_operandAt (l0 : Int32) (l1 : Int32) (l2 : Nat) (h : PH) (Q : Int32 → PH → Prop) : Prop := ((l0 < 0 → (wp_X8_valueAt l2 ((-1) - l0) l1 h (fun r3 h2 => Q r3 h2))) ∧ (¬ (l0 < 0) → Q l0 h))
set_option maxHeartbeats 4000000 in
set_option maxRecDepth 100000 in
theorem sn_X0_operandAt (G : GT) (d : Nat) (l0 : Int32) (l1 : Int32) (l2 : Nat) (h : PH) (Q : Int32 → PH → Prop) (okl2 : qOK h 8 l2) (hwp : wp_X0_operandAt l0 l1 l2 h Q) : Mt G (1 + d) 0 0 mX0_operandAt [.int l0, .int l1, .ref l2] h (qqi Q) := by
  unfold wp_X0_operandAt at hwp
  refine Mt.of (by decide) rfl (Nat.le_of_ble_eq_true rfl) ?_
  have hex := qEx.rf h
  have hnn : qn h = qn h + 0 := rfl
  have hzz : qz h = qz h + 0 := rfl
  refine x_lvE (lv2 := [(0, .int l0), (1, .int l1), (2, .ref l2)]) rfl ?_
  refine x_iload_n (pc := 0) dX0_operandAt_0 rfl ?_
  refine x_if_lt (tgt := 8) (pc := 1) dX0_operandAt_1 (by decide) (fun c1 => ?_) (fun c1 => ?_)
  · have hwp := hwp.1 c1
    refine x_aload_n (pc := 8) dX0_operandAt_8 rfl ?_
    refine x_iconst (v := (-1)) (pc := 9) dX0_operandAt_9 (by decide) ?_
    refine x_iload_n (pc := 10) dX0_operandAt_10 rfl ?_
    refine x_isub (pc := 11) dX0_operandAt_11 ?_
    refine x_iload_n (pc := 12) dX0_operandAt_12 rfl ?_
    refine x_invV (As := [.int ((-1) - l0), .int l1]) (st := []) (pc := 13) dX0_operandAt_13 lRX0_130 fX8_valueAt vX8_valueAt okl2 rfl (Nat.le_of_ble_eq_true rfl) (q_R (by omega) (by decide)) (q_C hnn hzz (by decide) (by decide)) (sn_X8_valueAt G (d + 0) l2 ((-1) - l0) l1 h _ okl2 hwp) (k_i (fun r3 h2 hwp cxh2 => ?_))
    have hex := hex.tr cxh2.1
    have hnn : qn h2 = qn h + 0 := by have := cxh2.2.1; omega
    have hzz : qz h2 = qz h + 0 := by have := cxh2.2.2; omega
    have okl2 := okl2.ex cxh2.1
    exact x_iret (pc := 16) dX0_operandAt_16 rfl hex hnn hzz ⟨_, rfl, hwp⟩
  · have hwp := hwp.2 c1
    refine x_iload_n (pc := 4) dX0_operandAt_4 rfl ?_
    refine x_goto (tgt := 16) (pc := 5) dX0_operandAt_5 (by decide) ?_
    exact x_iret (pc := 16) dX0_operandAt_16 rfl hex hnn hzz ⟨_, rfl, hwp⟩

theorem dX0_compare_0 : decode cX0_compare 0 = .ok (.iload_n 0, 1) := by decide +kernel
theorem dX0_compare_1 : decode cX0_compare 1 = .ok (.bipush 60, 2) := by decide +kernel
theorem dX0_compare_3 : decode cX0_compare 3 = .ok (.if_icmp .ne 14, 3) := by decide +kernel
theorem dX0_compare_6 : decode cX0_compare 6 = .ok (.iload_n 1, 1) := by decide +kernel
theorem dX0_compare_7 : decode cX0_compare 7 = .ok (.iload_n 2, 1) := by decide +kernel
theorem dX0_compare_8 : decode cX0_compare 8 = .ok (.if_icmp .ge 7, 3) := by decide +kernel
theorem dX0_compare_11 : decode cX0_compare 11 = .ok (.iconst 1, 1) := by decide +kernel
theorem dX0_compare_12 : decode cX0_compare 12 = .ok (.goto 4, 3) := by decide +kernel
theorem dX0_compare_15 : decode cX0_compare 15 = .ok (.iconst 0, 1) := by decide +kernel
theorem dX0_compare_16 : decode cX0_compare 16 = .ok (.ireturn, 1) := by decide +kernel
theorem dX0_compare_17 : decode cX0_compare 17 = .ok (.iload_n 0, 1) := by decide +kernel
theorem dX0_compare_18 : decode cX0_compare 18 = .ok (.bipush 62, 2) := by decide +kernel
theorem dX0_compare_20 : decode cX0_compare 20 = .ok (.if_icmp .ne 16, 3) := by decide +kernel
theorem dX0_compare_23 : decode cX0_compare 23 = .ok (.iload_n 1, 1) := by decide +kernel
theorem dX0_compare_24 : decode cX0_compare 24 = .ok (.iload_n 2, 1) := by decide +kernel
theorem dX0_compare_25 : decode cX0_compare 25 = .ok (.if_icmp .le 7, 3) := by decide +kernel
theorem dX0_compare_28 : decode cX0_compare 28 = .ok (.iconst 1, 1) := by decide +kernel
theorem dX0_compare_29 : decode cX0_compare 29 = .ok (.goto 17, 3) := by decide +kernel
theorem dX0_compare_32 : decode cX0_compare 32 = .ok (.iconst 0, 1) := by decide +kernel
theorem dX0_compare_33 : decode cX0_compare 33 = .ok (.goto 13, 3) := by decide +kernel
theorem dX0_compare_36 : decode cX0_compare 36 = .ok (.iload_n 1, 1) := by decide +kernel
theorem dX0_compare_37 : decode cX0_compare 37 = .ok (.iload_n 2, 1) := by decide +kernel
theorem dX0_compare_38 : decode cX0_compare 38 = .ok (.if_icmp .ne 7, 3) := by decide +kernel
theorem dX0_compare_41 : decode cX0_compare 41 = .ok (.iconst 1, 1) := by decide +kernel
theorem dX0_compare_42 : decode cX0_compare 42 = .ok (.goto 4, 3) := by decide +kernel
theorem dX0_compare_45 : decode cX0_compare 45 = .ok (.iconst 0, 1) := by decide +kernel
theorem dX0_compare_46 : decode cX0_compare 46 = .ok (.ireturn, 1) := by decide +kernel
def wp_X0_compare (l0 : Int32) (l1 : Int32) (l2 : Int32) (h : PH) (Q : Int32 → PH → Prop) : Prop := ((¬ l0 = 60 → ((¬ l0 = 62 → ((¬ l1 = l2 → Q 0 h) ∧ (l1 = l2 → Q 1 h))) ∧ (l0 = 62 → ((l1 ≤ l2 → Q 0 h) ∧ (¬ (l1 ≤ l2) → Q 1 h))))) ∧ (l0 = 60 → ((l2 ≤ l1 → Q 0 h) ∧ (¬ (l2 ≤ l1) → Q 1 h))))
set_option maxHeartbeats 4000000 in
set_option maxRecDepth 100000 in
theorem sn_X0_compare (G : GT) (d : Nat) (l0 : Int32) (l1 : Int32) (l2 : Int32) (h : PH) (Q : Int32 → PH → Prop)  (hwp : wp_X0_compare l0 l1 l2 h Q) : Mt G (0 + d) 0 0 mX0_compare [.int l0, .int l1, .int l2] h (qqb Q) := by
  unfold wp_X0_compare at hwp
  refine Mt.of (by decide) rfl (Nat.le_of_ble_eq_true rfl) ?_
  have hex := qEx.rf h
  have hnn : qn h = qn h + 0 := rfl
  have hzz : qz h = qz h + 0 := rfl
  refine x_lvE (lv2 := [(0, .int l0), (1, .int l1), (2, .int l2)]) rfl ?_
  refine x_iload_n (pc := 0) dX0_compare_0 rfl ?_
  refine x_bipush (v := 60) (pc := 1) dX0_compare_1 (by decide) ?_
  refine x_icmp_ne (tgt := 17) (pc := 3) dX0_compare_3 (by decide) (fun c1 => ?_) (fun c1 => ?_)
  · have hwp := hwp.1 c1
    refine x_iload_n (pc := 17) dX0_compare_17 rfl ?_
    refine x_bipush (v := 62) (pc := 18) dX0_compare_18 (by decide) ?_
    refine x_icmp_ne (tgt := 36) (pc := 20) dX0_compare_20 (by decide) (fun c2 => ?_) (fun c2 => ?_)
    · have hwp := hwp.1 c2
      refine x_iload_n (pc := 36) dX0_compare_36 rfl ?_
      refine x_iload_n (pc := 37) dX0_compare_37 rfl ?_
      refine x_icmp_ne (tgt := 45) (pc := 38) dX0_compare_38 (by decide) (fun c3 => ?_) (fun c3 => ?_)
      · have hwp := hwp.1 c3
        refine x_iconst (v := 0) (pc := 45) dX0_compare_45 (by decide) ?_
        exact x_zret (pc := 46) dX0_compare_46 rfl hex hnn hzz (by decide) ⟨_, rfl, by decide, hwp⟩
      · have hwp := hwp.2 c3
        refine x_iconst (v := 1) (pc := 41) dX0_compare_41 (by decide) ?_
        refine x_goto (tgt := 46) (pc := 42) dX0_compare_42 (by decide) ?_
        exact x_zret (pc := 46) dX0_compare_46 rfl hex hnn hzz (by decide) ⟨_, rfl, by decide, hwp⟩
    · have hwp := hwp.2 c2
      refine x_iload_n (pc := 23) dX0_compare_23 rfl ?_
      refine x_iload_n (pc := 24) dX0_compare_24 rfl ?_
      refine x_icmp_le (tgt := 32) (pc := 25) dX0_compare_25 (by decide) (fun c4 => ?_) (fun c4 => ?_)
      · have hwp := hwp.1 c4
        refine x_iconst (v := 0) (pc := 32) dX0_compare_32 (by decide) ?_
        refine x_goto (tgt := 46) (pc := 33) dX0_compare_33 (by decide) ?_
        exact x_zret (pc := 46) dX0_compare_46 rfl hex hnn hzz (by decide) ⟨_, rfl, by decide, hwp⟩
      · have hwp := hwp.2 c4
        refine x_iconst (v := 1) (pc := 28) dX0_compare_28 (by decide) ?_
        refine x_goto (tgt := 46) (pc := 29) dX0_compare_29 (by decide) ?_
        exact x_zret (pc := 46) dX0_compare_46 rfl hex hnn hzz (by decide) ⟨_, rfl, by decide, hwp⟩
  · have hwp := hwp.2 c1
    refine x_iload_n (pc := 6) dX0_compare_6 rfl ?_
    refine x_iload_n (pc := 7) dX0_compare_7 rfl ?_
    refine x_icmp_ge (tgt := 15) (pc := 8) dX0_compare_8 (by decide) (fun c5 => ?_) (fun c5 => ?_)
    · have hwp := hwp.1 c5
      refine x_iconst (v := 0) (pc := 15) dX0_compare_15 (by decide) ?_
      exact x_zret (pc := 16) dX0_compare_16 rfl hex hnn hzz (by decide) ⟨_, rfl, by decide, hwp⟩
    · have hwp := hwp.2 c5
      refine x_iconst (v := 1) (pc := 11) dX0_compare_11 (by decide) ?_
      refine x_goto (tgt := 16) (pc := 12) dX0_compare_12 (by decide) ?_
      exact x_zret (pc := 16) dX0_compare_16 rfl hex hnn hzz (by decide) ⟨_, rfl, by decide, hwp⟩

theorem dX0_isSoAt_0 : decode cX0_isSoAt 0 = .ok (.iconst 0, 1) := by decide +kernel
theorem dX0_isSoAt_1 : decode cX0_isSoAt 1 = .ok (.istore_n 3, 1) := by decide +kernel
theorem dX0_isSoAt_2 : decode cX0_isSoAt 2 = .ok (.iconst 0, 1) := by decide +kernel
theorem dX0_isSoAt_3 : decode cX0_isSoAt 3 = .ok (.istore 4, 2) := by decide +kernel
theorem dX0_isSoAt_5 : decode cX0_isSoAt 5 = .ok (.iload 4, 2) := by decide +kernel
theorem dX0_isSoAt_7 : decode cX0_isSoAt 7 = .ok (.aload_n 0, 1) := by decide +kernel
theorem dX0_isSoAt_8 : decode cX0_isSoAt 8 = .ok (.getfield 29, 3) := by decide +kernel
theorem dX0_isSoAt_11 : decode cX0_isSoAt 11 = .ok (.if_icmp .ge 170, 3) := by decide +kernel
theorem dX0_isSoAt_14 : decode cX0_isSoAt 14 = .ok (.aload_n 0, 1) := by decide +kernel
theorem dX0_isSoAt_15 : decode cX0_isSoAt 15 = .ok (.getfield 11, 3) := by decide +kernel
theorem dX0_isSoAt_18 : decode cX0_isSoAt 18 = .ok (.iload 4, 2) := by decide +kernel
theorem dX0_isSoAt_20 : decode cX0_isSoAt 20 = .ok (.iaload, 1) := by decide +kernel
theorem dX0_isSoAt_21 : decode cX0_isSoAt 21 = .ok (.istore 5, 2) := by decide +kernel
theorem dX0_isSoAt_23 : decode cX0_isSoAt 23 = .ok (.iload 5, 2) := by decide +kernel
theorem dX0_isSoAt_25 : decode cX0_isSoAt 25 = .ok (.ifCond .ne 35, 3) := by decide +kernel
theorem dX0_isSoAt_28 : decode cX0_isSoAt 28 = .ok (.iload_n 3, 1) := by decide +kernel
theorem dX0_isSoAt_29 : decode cX0_isSoAt 29 = .ok (.iconst 1, 1) := by decide +kernel
theorem dX0_isSoAt_30 : decode cX0_isSoAt 30 = .ok (.if_icmp .lt 30, 3) := by decide +kernel
theorem dX0_isSoAt_33 : decode cX0_isSoAt 33 = .ok (.aload_n 0, 1) := by decide +kernel
theorem dX0_isSoAt_34 : decode cX0_isSoAt 34 = .ok (.getfield 21, 3) := by decide +kernel
theorem dX0_isSoAt_37 : decode cX0_isSoAt 37 = .ok (.iload_n 3, 1) := by decide +kernel
theorem dX0_isSoAt_38 : decode cX0_isSoAt 38 = .ok (.iconst 1, 1) := by decide +kernel
theorem dX0_isSoAt_39 : decode cX0_isSoAt 39 = .ok (.isub, 1) := by decide +kernel
theorem dX0_isSoAt_40 : decode cX0_isSoAt 40 = .ok (.aload_n 0, 1) := by decide +kernel
theorem dX0_isSoAt_41 : decode cX0_isSoAt 41 = .ok (.getfield 21, 3) := by decide +kernel
theorem dX0_isSoAt_44 : decode cX0_isSoAt 44 = .ok (.iload_n 3, 1) := by decide +kernel
theorem dX0_isSoAt_45 : decode cX0_isSoAt 45 = .ok (.iconst 1, 1) := by decide +kernel
theorem dX0_isSoAt_46 : decode cX0_isSoAt 46 = .ok (.isub, 1) := by decide +kernel
theorem dX0_isSoAt_47 : decode cX0_isSoAt 47 = .ok (.baload, 1) := by decide +kernel
theorem dX0_isSoAt_48 : decode cX0_isSoAt 48 = .ok (.ifCond .ne 7, 3) := by decide +kernel
theorem dX0_isSoAt_51 : decode cX0_isSoAt 51 = .ok (.iconst 1, 1) := by decide +kernel
theorem dX0_isSoAt_52 : decode cX0_isSoAt 52 = .ok (.goto 4, 3) := by decide +kernel
theorem dX0_isSoAt_55 : decode cX0_isSoAt 55 = .ok (.iconst 0, 1) := by decide +kernel
theorem dX0_isSoAt_56 : decode cX0_isSoAt 56 = .ok (.bastore, 1) := by decide +kernel
theorem dX0_isSoAt_57 : decode cX0_isSoAt 57 = .ok (.goto 118, 3) := by decide +kernel
theorem dX0_isSoAt_60 : decode cX0_isSoAt 60 = .ok (.iload 5, 2) := by decide +kernel
theorem dX0_isSoAt_62 : decode cX0_isSoAt 62 = .ok (.iconst 1, 1) := by decide +kernel
theorem dX0_isSoAt_63 : decode cX0_isSoAt 63 = .ok (.if_icmp .ne 31, 3) := by decide +kernel
theorem dX0_isSoAt_66 : decode cX0_isSoAt 66 = .ok (.iload_n 3, 1) := by decide +kernel
theorem dX0_isSoAt_67 : decode cX0_isSoAt 67 = .ok (.iconst 2, 1) := by decide +kernel
theorem dX0_isSoAt_68 : decode cX0_isSoAt 68 = .ok (.if_icmp .lt 26, 3) := by decide +kernel
theorem dX0_isSoAt_71 : decode cX0_isSoAt 71 = .ok (.iinc 3 (-1), 3) := by decide +kernel
theorem dX0_isSoAt_74 : decode cX0_isSoAt 74 = .ok (.aload_n 0, 1) := by decide +kernel
theorem dX0_isSoAt_75 : decode cX0_isSoAt 75 = .ok (.getfield 21, 3) := by decide +kernel
theorem dX0_isSoAt_78 : decode cX0_isSoAt 78 = .ok (.iload_n 3, 1) := by decide +kernel
theorem dX0_isSoAt_79 : decode cX0_isSoAt 79 = .ok (.iconst 1, 1) := by decide +kernel
theorem dX0_isSoAt_80 : decode cX0_isSoAt 80 = .ok (.isub, 1) := by decide +kernel
theorem dX0_isSoAt_81 : decode cX0_isSoAt 81 = .ok (.dup2, 1) := by decide +kernel
theorem dX0_isSoAt_82 : decode cX0_isSoAt 82 = .ok (.baload, 1) := by decide +kernel
theorem dX0_isSoAt_83 : decode cX0_isSoAt 83 = .ok (.aload_n 0, 1) := by decide +kernel
theorem dX0_isSoAt_84 : decode cX0_isSoAt 84 = .ok (.getfield 21, 3) := by decide +kernel
theorem dX0_isSoAt_87 : decode cX0_isSoAt 87 = .ok (.iload_n 3, 1) := by decide +kernel
theorem dX0_isSoAt_88 : decode cX0_isSoAt 88 = .ok (.baload, 1) := by decide +kernel
theorem dX0_isSoAt_89 : decode cX0_isSoAt 89 = .ok (.iand, 1) := by decide +kernel
theorem dX0_isSoAt_90 : decode cX0_isSoAt 90 = .ok (.bastore, 1) := by decide +kernel
theorem dX0_isSoAt_91 : decode cX0_isSoAt 91 = .ok (.goto 84, 3) := by decide +kernel
theorem dX0_isSoAt_94 : decode cX0_isSoAt 94 = .ok (.iload 5, 2) := by decide +kernel
theorem dX0_isSoAt_96 : decode cX0_isSoAt 96 = .ok (.iconst 2, 1) := by decide +kernel
theorem dX0_isSoAt_97 : decode cX0_isSoAt 97 = .ok (.if_icmp .ne 31, 3) := by decide +kernel
theorem dX0_isSoAt_100 : decode cX0_isSoAt 100 = .ok (.iload_n 3, 1) := by decide +kernel
theorem dX0_isSoAt_101 : decode cX0_isSoAt 101 = .ok (.iconst 2, 1) := by decide +kernel
theorem dX0_isSoAt_102 : decode cX0_isSoAt 102 = .ok (.if_icmp .lt 26, 3) := by decide +kernel
theorem dX0_isSoAt_105 : decode cX0_isSoAt 105 = .ok (.iinc 3 (-1), 3) := by decide +kernel
theorem dX0_isSoAt_108 : decode cX0_isSoAt 108 = .ok (.aload_n 0, 1) := by decide +kernel
theorem dX0_isSoAt_109 : decode cX0_isSoAt 109 = .ok (.getfield 21, 3) := by decide +kernel
theorem dX0_isSoAt_112 : decode cX0_isSoAt 112 = .ok (.iload_n 3, 1) := by decide +kernel
theorem dX0_isSoAt_113 : decode cX0_isSoAt 113 = .ok (.iconst 1, 1) := by decide +kernel
theorem dX0_isSoAt_114 : decode cX0_isSoAt 114 = .ok (.isub, 1) := by decide +kernel
theorem dX0_isSoAt_115 : decode cX0_isSoAt 115 = .ok (.dup2, 1) := by decide +kernel
theorem dX0_isSoAt_116 : decode cX0_isSoAt 116 = .ok (.baload, 1) := by decide +kernel
theorem dX0_isSoAt_117 : decode cX0_isSoAt 117 = .ok (.aload_n 0, 1) := by decide +kernel
theorem dX0_isSoAt_118 : decode cX0_isSoAt 118 = .ok (.getfield 21, 3) := by decide +kernel
theorem dX0_isSoAt_121 : decode cX0_isSoAt 121 = .ok (.iload_n 3, 1) := by decide +kernel
theorem dX0_isSoAt_122 : decode cX0_isSoAt 122 = .ok (.baload, 1) := by decide +kernel
theorem dX0_isSoAt_123 : decode cX0_isSoAt 123 = .ok (.ior, 1) := by decide +kernel
theorem dX0_isSoAt_124 : decode cX0_isSoAt 124 = .ok (.bastore, 1) := by decide +kernel
theorem dX0_isSoAt_125 : decode cX0_isSoAt 125 = .ok (.goto 50, 3) := by decide +kernel
theorem dX0_isSoAt_128 : decode cX0_isSoAt 128 = .ok (.iload_n 3, 1) := by decide +kernel
theorem dX0_isSoAt_129 : decode cX0_isSoAt 129 = .ok (.aload_n 0, 1) := by decide +kernel
theorem dX0_isSoAt_130 : decode cX0_isSoAt 130 = .ok (.getfield 21, 3) := by decide +kernel
theorem dX0_isSoAt_133 : decode cX0_isSoAt 133 = .ok (.arraylength, 1) := by decide +kernel
theorem dX0_isSoAt_134 : decode cX0_isSoAt 134 = .ok (.if_icmp .ge 41, 3) := by decide +kernel
theorem dX0_isSoAt_137 : decode cX0_isSoAt 137 = .ok (.aload_n 0, 1) := by decide +kernel
theorem dX0_isSoAt_138 : decode cX0_isSoAt 138 = .ok (.getfield 21, 3) := by decide +kernel
theorem dX0_isSoAt_141 : decode cX0_isSoAt 141 = .ok (.iload_n 3, 1) := by decide +kernel
theorem dX0_isSoAt_142 : decode cX0_isSoAt 142 = .ok (.iload 5, 2) := by decide +kernel
theorem dX0_isSoAt_144 : decode cX0_isSoAt 144 = .ok (.aload_n 0, 1) := by decide +kernel
theorem dX0_isSoAt_145 : decode cX0_isSoAt 145 = .ok (.getfield 15, 3) := by decide +kernel
theorem dX0_isSoAt_148 : decode cX0_isSoAt 148 = .ok (.iload 4, 2) := by decide +kernel
theorem dX0_isSoAt_150 : decode cX0_isSoAt 150 = .ok (.iaload, 1) := by decide +kernel
theorem dX0_isSoAt_151 : decode cX0_isSoAt 151 = .ok (.iload_n 1, 1) := by decide +kernel
theorem dX0_isSoAt_152 : decode cX0_isSoAt 152 = .ok (.aload_n 2, 1) := by decide +kernel
theorem dX0_isSoAt_153 : decode cX0_isSoAt 153 = .ok (.invokestatic 122, 3) := by decide +kernel
theorem dX0_isSoAt_156 : decode cX0_isSoAt 156 = .ok (.aload_n 0, 1) := by decide +kernel
theorem dX0_isSoAt_157 : decode cX0_isSoAt 157 = .ok (.getfield 18, 3) := by decide +kernel
theorem dX0_isSoAt_160 : decode cX0_isSoAt 160 = .ok (.iload 4, 2) := by decide +kernel
theorem dX0_isSoAt_162 : decode cX0_isSoAt 162 = .ok (.iaload, 1) := by decide +kernel
theorem dX0_isSoAt_163 : decode cX0_isSoAt 163 = .ok (.iload_n 1, 1) := by decide +kernel
theorem dX0_isSoAt_164 : decode cX0_isSoAt 164 = .ok (.aload_n 2, 1) := by decide +kernel
theorem dX0_isSoAt_165 : decode cX0_isSoAt 165 = .ok (.invokestatic 122, 3) := by decide +kernel
theorem dX0_isSoAt_168 : decode cX0_isSoAt 168 = .ok (.invokestatic 126, 3) := by decide +kernel
theorem dX0_isSoAt_171 : decode cX0_isSoAt 171 = .ok (.bastore, 1) := by decide +kernel
theorem dX0_isSoAt_172 : decode cX0_isSoAt 172 = .ok (.iinc 3 1, 3) := by decide +kernel
theorem dX0_isSoAt_175 : decode cX0_isSoAt 175 = .ok (.iinc 4 1, 3) := by decide +kernel
theorem dX0_isSoAt_178 : decode cX0_isSoAt 178 = .ok (.goto (-173), 3) := by decide +kernel
theorem dX0_isSoAt_181 : decode cX0_isSoAt 181 = .ok (.iload_n 3, 1) := by decide +kernel
theorem dX0_isSoAt_182 : decode cX0_isSoAt 182 = .ok (.ifCond .le 16, 3) := by decide +kernel
theorem dX0_isSoAt_185 : decode cX0_isSoAt 185 = .ok (.aload_n 0, 1) := by decide +kernel
theorem dX0_isSoAt_186 : decode cX0_isSoAt 186 = .ok (.getfield 21, 3) := by decide +kernel
theorem dX0_isSoAt_189 : decode cX0_isSoAt 189 = .ok (.iconst 0, 1) := by decide +kernel
theorem dX0_isSoAt_190 : decode cX0_isSoAt 190 = .ok (.baload, 1) := by decide +kernel
theorem dX0_isSoAt_191 : decode cX0_isSoAt 191 = .ok (.ifCond .eq 7, 3) := by decide +kernel
theorem dX0_isSoAt_194 : decode cX0_isSoAt 194 = .ok (.iconst 1, 1) := by decide +kernel
theorem dX0_isSoAt_195 : decode cX0_isSoAt 195 = .ok (.goto 4, 3) := by decide +kernel
theorem dX0_isSoAt_198 : decode cX0_isSoAt 198 = .ok (.iconst 0, 1) := by decide +kernel
theorem dX0_isSoAt_199 : decode cX0_isSoAt 199 = .ok (.ireturn, 1) := by decide +kernel
def E_X0_isSoAt_5 (G : GT) (d : Nat) (h0 hb : PH) (l0 : Nat) (l1 : Int32) (l2 : Nat) (Q : Int32 → PH → Prop) (s : Int32 × Int32 × PH) : Prop := qEx hb s.2.2 ∧ qn s.2.2 = qn hb ∧ qz s.2.2 = qz hb → Ex G (qrm (2 + d) 0 0) mX0_isSoAt (qn h0) (qz h0) (ZN G h0 0 0 (qqb Q)) 5 [(0, .ref l0), (1, .int l1), (2, .ref l2), (3, .int s.1), (4, .int s.2.1)] [] s.2.2
def wp_X0_isSoAt_128 (l0 : Nat) (l1 : Int32) (l2 : Nat) (l3 : Int32) (l4 : Int32) (l5 : Int32) (bk5 : Int32 × Int32 × PH → Prop) (h : PH) (Q : Int32 → PH → Prop) : Prop := (∃ b49, qR h l0 3 = some b49 ∧ (((nI (qL h b49)) ≤ l3 → ∀ v52 : Int32, v52 = l4 + 1 → bk5 (l3, v52, h)) ∧ (¬ ((nI (qL h b49)) ≤ l3) → (∃ b53, qR h l0 3 = some b53 ∧ (∃ b55, qR h l0 1 = some b55 ∧ (vp_in l4 (qL h b55) ∧ (wp_X0_operandAt (qI h b55 l4.toNatClampNeg) l1 l2 h (fun r59 h58 => (∃ b60, qR h58 l0 2 = some b60 ∧ (vp_in l4 (qL h58 b60) ∧ (wp_X0_operandAt (qI h58 b60 l4.toNatClampNeg) l1 l2 h58 (fun r64 h63 => (wp_X0_compare l5 r59 r64 h63 (fun r66 h65 => (vp_in l3 (qL h65 b53) ∧ ∀ h67, h67 = qsI h65 b53 l3.toNatClampNeg (vp_nar .boolean r66) → ∀ v69 : Int32, v69 = l3 + 1 → ∀ v70 : Int32, v70 = l4 + 1 → bk5 (v69, v70, h67))))))))))))))))
set_option maxHeartbeats 4000000 in
set_option maxRecDepth 100000 in
theorem sg_X0_isSoAt_128 (G : GT) (d : Nat) (h0 : PH) (l0 : Nat) (l1 : Int32) (l2 : Nat) (l3 : Int32) (l4 : Int32) (l5 : Int32) (h : PH) (Q : Int32 → PH → Prop) (hb5 : PH) (bk5 : Int32 × Int32 × PH → Prop) (hbk5 : ∀ s2, bk5 s2 → E_X0_isSoAt_5 G d h0 hb5 l0 l1 l2 Q s2) (hx5 : qEx hb5 h) (hn5 : qn h = qn hb5) (hz5 : qz h = qz hb5) (hex : qEx h0 h) (hnn : qn h = qn h0 + 0) (hzz : qz h = qz h0 + 0) (okl0 : qOK h 0 l0) (okl2 : qOK h 8 l2) (hwp : wp_X0_isSoAt_128 l0 l1 l2 l3 l4 l5 bk5 h Q) : Ex G (qrm (2 + d) 0 0) mX0_isSoAt (qn h0) (qz h0) (ZN G h0 0 0 (qqb Q)) 128 [(0, .ref l0), (1, .int l1), (2, .ref l2), (3, .int l3), (4, .int l4), (5, .int l5)] [] h := by
  unfold wp_X0_isSoAt_128 at hwp
  refine x_iload_n (pc := 128) dX0_isSoAt_128 rfl ?_
  refine x_aload_n (pc := 129) dX0_isSoAt_129 rfl ?_
  obtain ⟨b49, e50, hwp⟩ := hwp
  refine x_getR (pc := 130) dX0_isSoAt_130 qRX0_21 okl0 e50 (fun okb49 => ?_)
  refine x_alen (pc := 133) dX0_isSoAt_133 okb49 (by decide) ?_
  refine x_icmp_ge (tgt := 175) (pc := 134) dX0_isSoAt_134 (by decide) (fun c51 => ?_) (fun c51 => ?_)
  · have hwp := hwp.1 c51
    refine y_iinc (c := 1) (pc := 175) dX0_isSoAt_175 rfl (by decide) (by decide) (fun v52 ev52 => ?_)
    have hwp := hwp v52 ev52
    refine x_lvE (lv2 := [(4, .int v52), (0, .ref l0), (1, .int l1), (2, .ref l2), (3, .int l3), (5, .int l5)]) rfl ?_
    refine x_goto (tgt := 5) (pc := 178) dX0_isSoAt_178 (by decide) ?_
    refine x_sub [1, 2, 3, 4, 0] rfl ?_
    exact hbk5 _ hwp ⟨hx5, hn5, hz5⟩
  · have hwp := hwp.2 c51
    refine x_aload_n (pc := 137) dX0_isSoAt_137 rfl ?_
    obtain ⟨b53, e54, hwp⟩ := hwp
    refine x_getR (pc := 138) dX0_isSoAt_138 qRX0_21 okl0 e54 (fun okb53 => ?_)
    refine x_iload_n (pc := 141) dX0_isSoAt_141 rfl ?_
    refine x_iload (pc := 142) dX0_isSoAt_142 rfl ?_
    refine x_aload_n (pc := 144) dX0_isSoAt_144 rfl ?_
    obtain ⟨b55, e56, hwp⟩ := hwp
    refine x_getR (pc := 145) dX0_isSoAt_145 qRX0_15 okl0 e56 (fun okb55 => ?_)
    refine x_iload (pc := 148) dX0_isSoAt_148 rfl ?_
    obtain ⟨i57, hwp⟩ := hwp
    refine x_iaload (pc := 150) dX0_isSoAt_150 okb55 i57 ?_
    refine x_iload_n (pc := 151) dX0_isSoAt_151 rfl ?_
    refine x_aload_n (pc := 152) dX0_isSoAt_152 rfl ?_
    refine x_invS (As := [.int (qI h b55 l4.toNatClampNeg), .int l1, .ref l2]) (st := [.int l5, .int l3, .ref b53]) (pc := 153) dX0_isSoAt_153 lRX0_122 fX0_operandAt sX0_operandAt rfl (Nat.le_of_ble_eq_true rfl) (q_R (by omega) (by decide)) (q_C hnn hzz (by decide) (by decide)) (sn_X0_operandAt G (d + 0) (qI h b55 l4.toNatClampNeg) l1 l2 h _ okl2 hwp) (k_i (fun r59 h58 hwp cxh58 => ?_))
    have hex := hex.tr cxh58.1
    have hnn : qn h58 = qn h0 + 0 := by have := cxh58.2.1; omega
    have hzz : qz h58 = qz h0 + 0 := by have := cxh58.2.2; omega
    have hx5 := hx5.tr cxh58.1
    have hn5 : qn h58 = qn hb5 := by have := cxh58.2.1; omega
    have hz5 : qz h58 = qz hb5 := by have := cxh58.2.2; omega
    have okl0 := okl0.ex cxh58.1
    have okl2 := okl2.ex cxh58.1
    have okb49 := okb49.ex cxh58.1
    have okb53 := okb53.ex cxh58.1
    have okb55 := okb55.ex cxh58.1
    refine x_aload_n (pc := 156) dX0_isSoAt_156 rfl ?_
    obtain ⟨b60, e61, hwp⟩ := hwp
    refine x_getR (pc := 157) dX0_isSoAt_157 qRX0_18 okl0 e61 (fun okb60 => ?_)
    refine x_iload (pc := 160) dX0_isSoAt_160 rfl ?_
    obtain ⟨i62, hwp⟩ := hwp
    refine x_iaload (pc := 162) dX0_isSoAt_162 okb60 i62 ?_
    refine x_iload_n (pc := 163) dX0_isSoAt_163 rfl ?_
    refine x_aload_n (pc := 164) dX0_isSoAt_164 rfl ?_
    refine x_invS (As := [.int (qI h58 b60 l4.toNatClampNeg), .int l1, .ref l2]) (st := [.int r59, .int l5, .int l3, .ref b53]) (pc := 165) dX0_isSoAt_165 lRX0_122 fX0_operandAt sX0_operandAt rfl (Nat.le_of_ble_eq_true rfl) (q_R (by omega) (by decide)) (q_C hnn hzz (by decide) (by decide)) (sn_X0_operandAt G (d + 0) (qI h58 b60 l4.toNatClampNeg) l1 l2 h58 _ okl2 hwp) (k_i (fun r64 h63 hwp cxh63 => ?_))
    have hex := hex.tr cxh63.1
    have hnn : qn h63 = qn h0 + 0 := by have := cxh63.2.1; omega
    have hzz : qz h63 = qz h0 + 0 := by have := cxh63.2.2; omega
    have hx5 := hx5.tr cxh63.1
    have hn5 : qn h63 = qn hb5 := by have := cxh63.2.1; omega
    have hz5 : qz h63 = qz hb5 := by have := cxh63.2.2; omega
    have okl0 := okl0.ex cxh63.1
    have okl2 := okl2.ex cxh63.1
    have okb49 := okb49.ex cxh63.1
    have okb53 := okb53.ex cxh63.1
    have okb55 := okb55.ex cxh63.1
    have okb60 := okb60.ex cxh63.1
    refine x_invS (As := [.int l5, .int r59, .int r64]) (st := [.int l3, .ref b53]) (pc := 168) dX0_isSoAt_168 lRX0_126 fX0_compare sX0_compare rfl (Nat.le_of_ble_eq_true rfl) (q_R (by omega) (by decide)) (q_C hnn hzz (by decide) (by decide)) (sn_X0_compare G (d + 1) l5 r59 r64 h63 _  hwp) (k_b (fun r66 h65 hwp zbr66 cxh65 => ?_))
    have hex := hex.tr cxh65.1
    have hnn : qn h65 = qn h0 + 0 := by have := cxh65.2.1; omega
    have hzz : qz h65 = qz h0 + 0 := by have := cxh65.2.2; omega
    have hx5 := hx5.tr cxh65.1
    have hn5 : qn h65 = qn hb5 := by have := cxh65.2.1; omega
    have hz5 : qz h65 = qz hb5 := by have := cxh65.2.2; omega
    have okl0 := okl0.ex cxh65.1
    have okl2 := okl2.ex cxh65.1
    have okb49 := okb49.ex cxh65.1
    have okb53 := okb53.ex cxh65.1
    have okb55 := okb55.ex cxh65.1
    have okb60 := okb60.ex cxh65.1
    obtain ⟨i68, hwp⟩ := hwp
    refine y_zastore (pc := 171) dX0_isSoAt_171 okb53 i68 (fun h67 eh67 nxh67 => ?_)
    have hwp := hwp h67 eh67
    have hex := hex.tr nxh67.1
    have hnn := nxh67.2.1.trans hnn
    have hzz := nxh67.2.2.trans hzz
    have hx5 := hx5.tr nxh67.1
    have hn5 := nxh67.2.1.trans hn5
    have hz5 := nxh67.2.2.trans hz5
    have okl0 := okl0.ex nxh67.1
    have okl2 := okl2.ex nxh67.1
    have okb49 := okb49.ex nxh67.1
    have okb53 := okb53.ex nxh67.1
    have okb55 := okb55.ex nxh67.1
    have okb60 := okb60.ex nxh67.1
    refine y_iinc (c := 1) (pc := 172) dX0_isSoAt_172 rfl (by decide) (by decide) (fun v69 ev69 => ?_)
    have hwp := hwp v69 ev69
    refine x_lvE (lv2 := [(3, .int v69), (0, .ref l0), (1, .int l1), (2, .ref l2), (4, .int l4), (5, .int l5)]) rfl ?_
    refine y_iinc (c := 1) (pc := 175) dX0_isSoAt_175 rfl (by decide) (by decide) (fun v70 ev70 => ?_)
    have hwp := hwp v70 ev70
    refine x_lvE (lv2 := [(4, .int v70), (3, .int v69), (0, .ref l0), (1, .int l1), (2, .ref l2), (5, .int l5)]) rfl ?_
    refine x_goto (tgt := 5) (pc := 178) dX0_isSoAt_178 (by decide) ?_
    refine x_sub [2, 3, 4, 1, 0] rfl ?_
    exact hbk5 _ hwp ⟨hx5, hn5, hz5⟩
def wp_X0_isSoAt_94 (l0 : Nat) (l1 : Int32) (l2 : Nat) (l3 : Int32) (l4 : Int32) (l5 : Int32) (bk5 : Int32 × Int32 × PH → Prop) (h : PH) (Q : Int32 → PH → Prop) : Prop := ((¬ l5 = 2 → (wp_X0_isSoAt_128 l0 l1 l2 l3 l4 l5 bk5 h Q)) ∧ (l5 = 2 → ((l3 < 2 → (wp_X0_isSoAt_128 l0 l1 l2 l3 l4 l5 bk5 h Q)) ∧ (¬ (l3 < 2) → ∀ v39 : Int32, v39 = l3 + (-1) → (∃ b40, qR h l0 3 = some b40 ∧ (vp_in (v39 - 1) (qL h b40) ∧ (∃ b43, qR h l0 3 = some b43 ∧ (vp_in v39 (qL h b43) ∧ (vp_in (v39 - 1) (qL h b40) ∧ ∀ h46, h46 = qsI h b40 (v39 - 1).toNatClampNeg (vp_nar .boolean ((qI h b40 (v39 - 1).toNatClampNeg) ||| (qI h b43 v39.toNatClampNeg))) → ∀ v48 : Int32, v48 = l4 + 1 → bk5 (v39, v48, h46))))))))))
set_option maxHeartbeats 4000000 in
set_option maxRecDepth 100000 in
theorem sg_X0_isSoAt_94 (G : GT) (d : Nat) (h0 : PH) (l0 : Nat) (l1 : Int32) (l2 : Nat) (l3 : Int32) (l4 : Int32) (l5 : Int32) (h : PH) (Q : Int32 → PH → Prop) (hb5 : PH) (bk5 : Int32 × Int32 × PH → Prop) (hbk5 : ∀ s2, bk5 s2 → E_X0_isSoAt_5 G d h0 hb5 l0 l1 l2 Q s2) (hx5 : qEx hb5 h) (hn5 : qn h = qn hb5) (hz5 : qz h = qz hb5) (hex : qEx h0 h) (hnn : qn h = qn h0 + 0) (hzz : qz h = qz h0 + 0) (okl0 : qOK h 0 l0) (okl2 : qOK h 8 l2) (hwp : wp_X0_isSoAt_94 l0 l1 l2 l3 l4 l5 bk5 h Q) : Ex G (qrm (2 + d) 0 0) mX0_isSoAt (qn h0) (qz h0) (ZN G h0 0 0 (qqb Q)) 94 [(0, .ref l0), (1, .int l1), (2, .ref l2), (3, .int l3), (4, .int l4), (5, .int l5)] [] h := by
  unfold wp_X0_isSoAt_94 at hwp
  refine x_iload (pc := 94) dX0_isSoAt_94 rfl ?_
  refine x_iconst (v := 2) (pc := 96) dX0_isSoAt_96 (by decide) ?_
  refine x_icmp_ne (tgt := 128) (pc := 97) dX0_isSoAt_97 (by decide) (fun c37 => ?_) (fun c37 => ?_)
  · have hwp := hwp.1 c37
    refine x_sub [0, 1, 2, 3, 4, 5] rfl ?_
    exact sg_X0_isSoAt_128 G d h0 l0 l1 l2 l3 l4 l5 h Q hb5 bk5 hbk5 hx5 hn5 hz5 hex hnn hzz okl0 okl2 hwp
  · have hwp := hwp.2 c37
    refine x_iload_n (pc := 100) dX0_isSoAt_100 rfl ?_
    refine x_iconst (v := 2) (pc := 101) dX0_isSoAt_101 (by decide) ?_
    refine x_icmp_lt (tgt := 128) (pc := 102) dX0_isSoAt_102 (by decide) (fun c38 => ?_) (fun c38 => ?_)
    · have hwp := hwp.1 c38
      refine x_sub [0, 1, 2, 3, 4, 5] rfl ?_
      exact sg_X0_isSoAt_128 G d h0 l0 l1 l2 l3 l4 l5 h Q hb5 bk5 hbk5 hx5 hn5 hz5 hex hnn hzz okl0 okl2 hwp
    · have hwp := hwp.2 c38
      refine y_iinc (c := (-1)) (pc := 105) dX0_isSoAt_105 rfl (by decide) (by decide) (fun v39 ev39 => ?_)
      have hwp := hwp v39 ev39
      refine x_lvE (lv2 := [(3, .int v39), (0, .ref l0), (1, .int l1), (2, .ref l2), (4, .int l4), (5, .int l5)]) rfl ?_
      refine x_aload_n (pc := 108) dX0_isSoAt_108 rfl ?_
      obtain ⟨b40, e41, hwp⟩ := hwp
      refine x_getR (pc := 109) dX0_isSoAt_109 qRX0_21 okl0 e41 (fun okb40 => ?_)
      refine x_iload_n (pc := 112) dX0_isSoAt_112 rfl ?_
      refine x_iconst (v := 1) (pc := 113) dX0_isSoAt_113 (by decide) ?_
      refine x_isub (pc := 114) dX0_isSoAt_114 ?_
      refine x_dup2 (pc := 115) dX0_isSoAt_115 rfl rfl ?_
      obtain ⟨i42, hwp⟩ := hwp
      refine x_zaload (pc := 116) dX0_isSoAt_116 okb40 i42 ?_
      refine x_aload_n (pc := 117) dX0_isSoAt_117 rfl ?_
      obtain ⟨b43, e44, hwp⟩ := hwp
      refine x_getR (pc := 118) dX0_isSoAt_118 qRX0_21 okl0 e44 (fun okb43 => ?_)
      refine x_iload_n (pc := 121) dX0_isSoAt_121 rfl ?_
      obtain ⟨i45, hwp⟩ := hwp
      refine x_zaload (pc := 122) dX0_isSoAt_122 okb43 i45 ?_
      refine x_ior (pc := 123) dX0_isSoAt_123 ?_
      obtain ⟨i47, hwp⟩ := hwp
      refine y_zastore (pc := 124) dX0_isSoAt_124 okb40 i47 (fun h46 eh46 nxh46 => ?_)
      have hwp := hwp h46 eh46
      have hex := hex.tr nxh46.1
      have hnn := nxh46.2.1.trans hnn
      have hzz := nxh46.2.2.trans hzz
      have hx5 := hx5.tr nxh46.1
      have hn5 := nxh46.2.1.trans hn5
      have hz5 := nxh46.2.2.trans hz5
      have okl0 := okl0.ex nxh46.1
      have okl2 := okl2.ex nxh46.1
      have okb40 := okb40.ex nxh46.1
      have okb43 := okb43.ex nxh46.1
      refine x_goto (tgt := 175) (pc := 125) dX0_isSoAt_125 (by decide) ?_
      refine y_iinc (c := 1) (pc := 175) dX0_isSoAt_175 rfl (by decide) (by decide) (fun v48 ev48 => ?_)
      have hwp := hwp v48 ev48
      refine x_lvE (lv2 := [(4, .int v48), (3, .int v39), (0, .ref l0), (1, .int l1), (2, .ref l2), (5, .int l5)]) rfl ?_
      refine x_goto (tgt := 5) (pc := 178) dX0_isSoAt_178 (by decide) ?_
      refine x_sub [2, 3, 4, 1, 0] rfl ?_
      exact hbk5 _ hwp ⟨hx5, hn5, hz5⟩
def wp_X0_isSoAt_60 (l0 : Nat) (l1 : Int32) (l2 : Nat) (l3 : Int32) (l4 : Int32) (l5 : Int32) (bk5 : Int32 × Int32 × PH → Prop) (h : PH) (Q : Int32 → PH → Prop) : Prop := ((¬ l5 = 1 → (wp_X0_isSoAt_94 l0 l1 l2 l3 l4 l5 bk5 h Q)) ∧ (l5 = 1 → ((l3 < 2 → (wp_X0_isSoAt_94 l0 l1 l2 l3 l4 l5 bk5 h Q)) ∧ (¬ (l3 < 2) → ∀ v27 : Int32, v27 = l3 + (-1) → (∃ b28, qR h l0 3 = some b28 ∧ (vp_in (v27 - 1) (qL h b28) ∧ (∃ b31, qR h l0 3 = some b31 ∧ (vp_in v27 (qL h b31) ∧ (vp_in (v27 - 1) (qL h b28) ∧ ∀ h34, h34 = qsI h b28 (v27 - 1).toNatClampNeg (vp_nar .boolean ((qI h b28 (v27 - 1).toNatClampNeg) &&& (qI h b31 v27.toNatClampNeg))) → ∀ v36 : Int32, v36 = l4 + 1 → bk5 (v27, v36, h34))))))))))
set_option maxHeartbeats 4000000 in
set_option maxRecDepth 100000 in
theorem sg_X0_isSoAt_60 (G : GT) (d : Nat) (h0 : PH) (l0 : Nat) (l1 : Int32) (l2 : Nat) (l3 : Int32) (l4 : Int32) (l5 : Int32) (h : PH) (Q : Int32 → PH → Prop) (hb5 : PH) (bk5 : Int32 × Int32 × PH → Prop) (hbk5 : ∀ s2, bk5 s2 → E_X0_isSoAt_5 G d h0 hb5 l0 l1 l2 Q s2) (hx5 : qEx hb5 h) (hn5 : qn h = qn hb5) (hz5 : qz h = qz hb5) (hex : qEx h0 h) (hnn : qn h = qn h0 + 0) (hzz : qz h = qz h0 + 0) (okl0 : qOK h 0 l0) (okl2 : qOK h 8 l2) (hwp : wp_X0_isSoAt_60 l0 l1 l2 l3 l4 l5 bk5 h Q) : Ex G (qrm (2 + d) 0 0) mX0_isSoAt (qn h0) (qz h0) (ZN G h0 0 0 (qqb Q)) 60 [(0, .ref l0), (1, .int l1), (2, .ref l2), (3, .int l3), (4, .int l4), (5, .int l5)] [] h := by
  unfold wp_X0_isSoAt_60 at hwp
  refine x_iload (pc := 60) dX0_isSoAt_60 rfl ?_
  refine x_iconst (v := 1) (pc := 62) dX0_isSoAt_62 (by decide) ?_
  refine x_icmp_ne (tgt := 94) (pc := 63) dX0_isSoAt_63 (by decide) (fun c25 => ?_) (fun c25 => ?_)
  · have hwp := hwp.1 c25
    refine x_sub [0, 1, 2, 3, 4, 5] rfl ?_
    exact sg_X0_isSoAt_94 G d h0 l0 l1 l2 l3 l4 l5 h Q hb5 bk5 hbk5 hx5 hn5 hz5 hex hnn hzz okl0 okl2 hwp
  · have hwp := hwp.2 c25
    refine x_iload_n (pc := 66) dX0_isSoAt_66 rfl ?_
    refine x_iconst (v := 2) (pc := 67) dX0_isSoAt_67 (by decide) ?_
    refine x_icmp_lt (tgt := 94) (pc := 68) dX0_isSoAt_68 (by decide) (fun c26 => ?_) (fun c26 => ?_)
    · have hwp := hwp.1 c26
      refine x_sub [0, 1, 2, 3, 4, 5] rfl ?_
      exact sg_X0_isSoAt_94 G d h0 l0 l1 l2 l3 l4 l5 h Q hb5 bk5 hbk5 hx5 hn5 hz5 hex hnn hzz okl0 okl2 hwp
    · have hwp := hwp.2 c26
      refine y_iinc (c := (-1)) (pc := 71) dX0_isSoAt_71 rfl (by decide) (by decide) (fun v27 ev27 => ?_)
      have hwp := hwp v27 ev27
      refine x_lvE (lv2 := [(3, .int v27), (0, .ref l0), (1, .int l1), (2, .ref l2), (4, .int l4), (5, .int l5)]) rfl ?_
      refine x_aload_n (pc := 74) dX0_isSoAt_74 rfl ?_
      obtain ⟨b28, e29, hwp⟩ := hwp
      refine x_getR (pc := 75) dX0_isSoAt_75 qRX0_21 okl0 e29 (fun okb28 => ?_)
      refine x_iload_n (pc := 78) dX0_isSoAt_78 rfl ?_
      refine x_iconst (v := 1) (pc := 79) dX0_isSoAt_79 (by decide) ?_
      refine x_isub (pc := 80) dX0_isSoAt_80 ?_
      refine x_dup2 (pc := 81) dX0_isSoAt_81 rfl rfl ?_
      obtain ⟨i30, hwp⟩ := hwp
      refine x_zaload (pc := 82) dX0_isSoAt_82 okb28 i30 ?_
      refine x_aload_n (pc := 83) dX0_isSoAt_83 rfl ?_
      obtain ⟨b31, e32, hwp⟩ := hwp
      refine x_getR (pc := 84) dX0_isSoAt_84 qRX0_21 okl0 e32 (fun okb31 => ?_)
      refine x_iload_n (pc := 87) dX0_isSoAt_87 rfl ?_
      obtain ⟨i33, hwp⟩ := hwp
      refine x_zaload (pc := 88) dX0_isSoAt_88 okb31 i33 ?_
      refine x_iand (pc := 89) dX0_isSoAt_89 ?_
      obtain ⟨i35, hwp⟩ := hwp
      refine y_zastore (pc := 90) dX0_isSoAt_90 okb28 i35 (fun h34 eh34 nxh34 => ?_)
      have hwp := hwp h34 eh34
      have hex := hex.tr nxh34.1
      have hnn := nxh34.2.1.trans hnn
      have hzz := nxh34.2.2.trans hzz
      have hx5 := hx5.tr nxh34.1
      have hn5 := nxh34.2.1.trans hn5
      have hz5 := nxh34.2.2.trans hz5
      have okl0 := okl0.ex nxh34.1
      have okl2 := okl2.ex nxh34.1
      have okb28 := okb28.ex nxh34.1
      have okb31 := okb31.ex nxh34.1
      refine x_goto (tgt := 175) (pc := 91) dX0_isSoAt_91 (by decide) ?_
      refine y_iinc (c := 1) (pc := 175) dX0_isSoAt_175 rfl (by decide) (by decide) (fun v36 ev36 => ?_)
      have hwp := hwp v36 ev36
      refine x_lvE (lv2 := [(4, .int v36), (3, .int v27), (0, .ref l0), (1, .int l1), (2, .ref l2), (5, .int l5)]) rfl ?_
      refine x_goto (tgt := 5) (pc := 178) dX0_isSoAt_178 (by decide) ?_
      refine x_sub [2, 3, 4, 1, 0] rfl ?_
      exact hbk5 _ hwp ⟨hx5, hn5, hz5⟩
def wb_X0_isSoAt_5 (l0 : Nat) (l1 : Int32) (l2 : Nat)  (Q : Int32 → PH → Prop) (bk5 : Int32 × Int32 × PH → Prop) (l3 : Int32) (l4 : Int32) (h : PH) : Prop := (((qI h l0 5) ≤ l4 → ((l3 ≤ 0 → Q 0 h) ∧ (¬ (l3 ≤ 0) → (∃ b3, qR h l0 3 = some b3 ∧ (vp_in 0 (qL h b3) ∧ (((qI h b3 (0 : Int32).toNatClampNeg) = 0 → Q 0 h) ∧ (¬ ((qI h b3 (0 : Int32).toNatClampNeg) = 0) → Q 1 h))))))) ∧ (¬ ((qI h l0 5) ≤ l4) → (∃ b7, qR h l0 0 = some b7 ∧ (vp_in l4 (qL h b7) ∧ ∀ v10 : Int32, v10 = qI h b7 l4.toNatClampNeg → ((¬ v10 = 0 → (wp_X0_isSoAt_60 l0 l1 l2 l3 l4 v10 bk5 h Q)) ∧ (v10 = 0 → ((l3 < 1 → (wp_X0_isSoAt_60 l0 l1 l2 l3 l4 v10 bk5 h Q)) ∧ (¬ (l3 < 1) → (∃ b13, qR h l0 3 = some b13 ∧ (∃ b15, qR h l0 3 = some b15 ∧ (vp_in (l3 - 1) (qL h b15) ∧ ((¬ (qI h b15 (l3 - 1).toNatClampNeg) = 0 → (vp_in (l3 - 1) (qL h b13) ∧ ∀ h19, h19 = qsI h b13 (l3 - 1).toNatClampNeg (vp_nar .boolean 0) → ∀ v21 : Int32, v21 = l4 + 1 → bk5 (l3, v21, h19))) ∧ ((qI h b15 (l3 - 1).toNatClampNeg) = 0 → (vp_in (l3 - 1) (qL h b13) ∧ ∀ h22, h22 = qsI h b13 (l3 - 1).toNatClampNeg (vp_nar .boolean 1) → ∀ v24 : Int32, v24 = l4 + 1 → bk5 (l3, v24, h22)))))))))))))))
def wp_X0_isSoAt_5 (l0 : Nat) (l1 : Int32) (l2 : Nat)  (Q : Int32 → PH → Prop) (bk5 : Int32 × Int32 × PH → Prop) (s : Int32 × Int32 × PH) : Prop := wb_X0_isSoAt_5 l0 l1 l2 Q bk5 s.1 s.2.1 s.2.2
set_option maxHeartbeats 4000000 in
set_option maxRecDepth 100000 in
theorem bd_X0_isSoAt_5 (G : GT) (d : Nat) (h0 hb : PH) (l0 : Nat) (l1 : Int32) (l2 : Nat) (Q : Int32 → PH → Prop)  (hex : qEx h0 hb) (hnn : qn hb = qn h0 + 0) (hzz : qz hb = qz h0 + 0) (okl0 : qOK hb 0 l0) (okl2 : qOK hb 8 l2) (bk5 : Int32 × Int32 × PH → Prop) (hbk5 : ∀ s2, bk5 s2 → E_X0_isSoAt_5 G d h0 hb l0 l1 l2 Q s2) (l3 : Int32) (l4 : Int32) (h : PH) (hwp : wb_X0_isSoAt_5 l0 l1 l2 Q bk5 l3 l4 h) (hx5 : qEx hb h) (hn5 : qn h = qn hb) (hz5 : qz h = qz hb) : Ex G (qrm (2 + d) 0 0) mX0_isSoAt (qn h0) (qz h0) (ZN G h0 0 0 (qqb Q)) 5 [(0, .ref l0), (1, .int l1), (2, .ref l2), (3, .int l3), (4, .int l4)] [] h := by
  unfold wb_X0_isSoAt_5 at hwp
  have hex := hex.tr hx5
  have hnn := hn5.trans hnn
  have hzz := hz5.trans hzz
  have okl0 := okl0.ex hx5
  have okl2 := okl2.ex hx5
  refine x_iload (pc := 5) dX0_isSoAt_5 rfl ?_
  refine x_aload_n (pc := 7) dX0_isSoAt_7 rfl ?_
  refine x_getI (pc := 8) dX0_isSoAt_8 qRX0_29 okl0 (by decide) ?_
  refine x_icmp_ge (tgt := 181) (pc := 11) dX0_isSoAt_11 (by decide) (fun c1 => ?_) (fun c1 => ?_)
  · have hwp := hwp.1 c1
    refine x_iload_n (pc := 181) dX0_isSoAt_181 rfl ?_
    refine x_if_le (tgt := 198) (pc := 182) dX0_isSoAt_182 (by decide) (fun c2 => ?_) (fun c2 => ?_)
    · have hwp := hwp.1 c2
      refine x_iconst (v := 0) (pc := 198) dX0_isSoAt_198 (by decide) ?_
      exact x_zret (pc := 199) dX0_isSoAt_199 rfl hex hnn hzz (by decide) ⟨_, rfl, by decide, hwp⟩
    · have hwp := hwp.2 c2
      refine x_aload_n (pc := 185) dX0_isSoAt_185 rfl ?_
      obtain ⟨b3, e4, hwp⟩ := hwp
      refine x_getR (pc := 186) dX0_isSoAt_186 qRX0_21 okl0 e4 (fun okb3 => ?_)
      refine x_iconst (v := 0) (pc := 189) dX0_isSoAt_189 (by decide) ?_
      obtain ⟨i5, hwp⟩ := hwp
      refine x_zaload (pc := 190) dX0_isSoAt_190 okb3 i5 ?_
      refine x_if_eq (tgt := 198) (pc := 191) dX0_isSoAt_191 (by decide) (fun c6 => ?_) (fun c6 => ?_)
      · have hwp := hwp.1 c6
        refine x_iconst (v := 0) (pc := 198) dX0_isSoAt_198 (by decide) ?_
        exact x_zret (pc := 199) dX0_isSoAt_199 rfl hex hnn hzz (by decide) ⟨_, rfl, by decide, hwp⟩
      · have hwp := hwp.2 c6
        refine x_iconst (v := 1) (pc := 194) dX0_isSoAt_194 (by decide) ?_
        refine x_goto (tgt := 199) (pc := 195) dX0_isSoAt_195 (by decide) ?_
        exact x_zret (pc := 199) dX0_isSoAt_199 rfl hex hnn hzz (by decide) ⟨_, rfl, by decide, hwp⟩
  · have hwp := hwp.2 c1
    refine x_aload_n (pc := 14) dX0_isSoAt_14 rfl ?_
    obtain ⟨b7, e8, hwp⟩ := hwp
    refine x_getR (pc := 15) dX0_isSoAt_15 qRX0_11 okl0 e8 (fun okb7 => ?_)
    refine x_iload (pc := 18) dX0_isSoAt_18 rfl ?_
    obtain ⟨i9, hwp⟩ := hwp
    refine x_iaload (pc := 20) dX0_isSoAt_20 okb7 i9 ?_
    refine x_nmI (fun v10 ev10 => ?_)
    have hwp := hwp v10 ev10
    refine x_istore (lv2 := [(5, .int v10), (0, .ref l0), (1, .int l1), (2, .ref l2), (3, .int l3), (4, .int l4)]) (pc := 21) dX0_isSoAt_21 (by decide) rfl ?_
    refine x_iload (pc := 23) dX0_isSoAt_23 rfl ?_
    refine x_if_ne (tgt := 60) (pc := 25) dX0_isSoAt_25 (by decide) (fun c11 => ?_) (fun c11 => ?_)
    · have hwp := hwp.1 c11
      refine x_sub [1, 2, 3, 4, 5, 0] rfl ?_
      exact sg_X0_isSoAt_60 G d h0 l0 l1 l2 l3 l4 v10 h Q hb bk5 hbk5 hx5 hn5 hz5 hex hnn hzz okl0 okl2 hwp
    · have hwp := hwp.2 c11
      refine x_iload_n (pc := 28) dX0_isSoAt_28 rfl ?_
      refine x_iconst (v := 1) (pc := 29) dX0_isSoAt_29 (by decide) ?_
      refine x_icmp_lt (tgt := 60) (pc := 30) dX0_isSoAt_30 (by decide) (fun c12 => ?_) (fun c12 => ?_)
      · have hwp := hwp.1 c12
        refine x_sub [1, 2, 3, 4, 5, 0] rfl ?_
        exact sg_X0_isSoAt_60 G d h0 l0 l1 l2 l3 l4 v10 h Q hb bk5 hbk5 hx5 hn5 hz5 hex hnn hzz okl0 okl2 hwp
      · have hwp := hwp.2 c12
        refine x_aload_n (pc := 33) dX0_isSoAt_33 rfl ?_
        obtain ⟨b13, e14, hwp⟩ := hwp
        refine x_getR (pc := 34) dX0_isSoAt_34 qRX0_21 okl0 e14 (fun okb13 => ?_)
        refine x_iload_n (pc := 37) dX0_isSoAt_37 rfl ?_
        refine x_iconst (v := 1) (pc := 38) dX0_isSoAt_38 (by decide) ?_
        refine x_isub (pc := 39) dX0_isSoAt_39 ?_
        refine x_aload_n (pc := 40) dX0_isSoAt_40 rfl ?_
        obtain ⟨b15, e16, hwp⟩ := hwp
        refine x_getR (pc := 41) dX0_isSoAt_41 qRX0_21 okl0 e16 (fun okb15 => ?_)
        refine x_iload_n (pc := 44) dX0_isSoAt_44 rfl ?_
        refine x_iconst (v := 1) (pc := 45) dX0_isSoAt_45 (by decide) ?_
        refine x_isub (pc := 46) dX0_isSoAt_46 ?_
        obtain ⟨i17, hwp⟩ := hwp
        refine x_zaload (pc := 47) dX0_isSoAt_47 okb15 i17 ?_
        refine x_if_ne (tgt := 55) (pc := 48) dX0_isSoAt_48 (by decide) (fun c18 => ?_) (fun c18 => ?_)
        · have hwp := hwp.1 c18
          refine x_iconst (v := 0) (pc := 55) dX0_isSoAt_55 (by decide) ?_
          obtain ⟨i20, hwp⟩ := hwp
          refine y_zastore (pc := 56) dX0_isSoAt_56 okb13 i20 (fun h19 eh19 nxh19 => ?_)
          have hwp := hwp h19 eh19
          have hex := hex.tr nxh19.1
          have hnn := nxh19.2.1.trans hnn
          have hzz := nxh19.2.2.trans hzz
          have hx5 := hx5.tr nxh19.1
          have hn5 := nxh19.2.1.trans hn5
          have hz5 := nxh19.2.2.trans hz5
          have okl0 := okl0.ex nxh19.1
          have okl2 := okl2.ex nxh19.1
          have okb7 := okb7.ex nxh19.1
          have okb13 := okb13.ex nxh19.1
          have okb15 := okb15.ex nxh19.1
          refine x_goto (tgt := 175) (pc := 57) dX0_isSoAt_57 (by decide) ?_
          refine y_iinc (c := 1) (pc := 175) dX0_isSoAt_175 rfl (by decide) (by decide) (fun v21 ev21 => ?_)
          have hwp := hwp v21 ev21
          refine x_lvE (lv2 := [(4, .int v21), (5, .int v10), (0, .ref l0), (1, .int l1), (2, .ref l2), (3, .int l3)]) rfl ?_
          refine x_goto (tgt := 5) (pc := 178) dX0_isSoAt_178 (by decide) ?_
          refine x_sub [2, 3, 4, 5, 0] rfl ?_
          exact hbk5 _ hwp ⟨hx5, hn5, hz5⟩
        · have hwp := hwp.2 c18
          refine x_iconst (v := 1) (pc := 51) dX0_isSoAt_51 (by decide) ?_
          refine x_goto (tgt := 56) (pc := 52) dX0_isSoAt_52 (by decide) ?_
          obtain ⟨i23, hwp⟩ := hwp
          refine y_zastore (pc := 56) dX0_isSoAt_56 okb13 i23 (fun h22 eh22 nxh22 => ?_)
          have hwp := hwp h22 eh22
          have hex := hex.tr nxh22.1
          have hnn := nxh22.2.1.trans hnn
          have hzz := nxh22.2.2.trans hzz
          have hx5 := hx5.tr nxh22.1
          have hn5 := nxh22.2.1.trans hn5
          have hz5 := nxh22.2.2.trans hz5
          have okl0 := okl0.ex nxh22.1
          have okl2 := okl2.ex nxh22.1
          have okb7 := okb7.ex nxh22.1
          have okb13 := okb13.ex nxh22.1
          have okb15 := okb15.ex nxh22.1
          refine x_goto (tgt := 175) (pc := 57) dX0_isSoAt_57 (by decide) ?_
          refine y_iinc (c := 1) (pc := 175) dX0_isSoAt_175 rfl (by decide) (by decide) (fun v24 ev24 => ?_)
          have hwp := hwp v24 ev24
          refine x_lvE (lv2 := [(4, .int v24), (5, .int v10), (0, .ref l0), (1, .int l1), (2, .ref l2), (3, .int l3)]) rfl ?_
          refine x_goto (tgt := 5) (pc := 178) dX0_isSoAt_178 (by decide) ?_
          refine x_sub [2, 3, 4, 5, 0] rfl ?_
          exact hbk5 _ hwp ⟨hx5, hn5, hz5⟩
theorem lp_X0_isSoAt_5 (G : GT) (d : Nat) (h0 hb : PH) (l0 : Nat) (l1 : Int32) (l2 : Nat) (Q : Int32 → PH → Prop)  (hex : qEx h0 hb) (hnn : qn hb = qn h0 + 0) (hzz : qz hb = qz h0 + 0) (okl0 : qOK hb 0 l0) (okl2 : qOK hb 8 l2) {s : Int32 × Int32 × PH} (hwp : qLoop (wp_X0_isSoAt_5 l0 l1 l2 Q) s) : E_X0_isSoAt_5 G d h0 hb l0 l1 l2 Q s :=
  qLoop.use (E := E_X0_isSoAt_5 G d h0 hb l0 l1 l2 Q) (fun back s hbk hw hx => bd_X0_isSoAt_5 G d h0 hb l0 l1 l2 Q hex hnn hzz okl0 okl2 back hbk s.1 s.2.1 s.2.2 hw hx.1 hx.2.1 hx.2.2) hwp
def wp_X0_isSoAt (l0 : Nat) (l1 : Int32) (l2 : Nat) (h : PH) (Q : Int32 → PH → Prop) : Prop := (qLoop (wp_X0_isSoAt_5 l0 l1 l2 Q) (0, 0, h))
set_option maxHeartbeats 4000000 in
set_option maxRecDepth 100000 in
theorem sn_X0_isSoAt (G : GT) (d : Nat) (l0 : Nat) (l1 : Int32) (l2 : Nat) (h : PH) (Q : Int32 → PH → Prop) (okl0 : qOK h 0 l0) (okl2 : qOK h 8 l2) (hwp : wp_X0_isSoAt l0 l1 l2 h Q) : Mt G (2 + d) 0 0 mX0_isSoAt [.ref l0, .int l1, .ref l2] h (qqb Q) := by
  unfold wp_X0_isSoAt at hwp
  refine Mt.of (by decide) rfl (Nat.le_of_ble_eq_true rfl) ?_
  have hex := qEx.rf h
  have hnn : qn h = qn h + 0 := rfl
  have hzz : qz h = qz h + 0 := rfl
  refine x_lvE (lv2 := [(0, .ref l0), (1, .int l1), (2, .ref l2)]) rfl ?_
  refine x_iconst (v := 0) (pc := 0) dX0_isSoAt_0 (by decide) ?_
  refine x_istore_n (lv2 := [(3, .int 0), (0, .ref l0), (1, .int l1), (2, .ref l2)]) (pc := 1) dX0_isSoAt_1 (by decide) rfl ?_
  refine x_iconst (v := 0) (pc := 2) dX0_isSoAt_2 (by decide) ?_
  refine x_istore (lv2 := [(4, .int 0), (3, .int 0), (0, .ref l0), (1, .int l1), (2, .ref l2)]) (pc := 3) dX0_isSoAt_3 (by decide) rfl ?_
  refine x_sub [2, 3, 4, 1, 0] rfl ?_
  exact lp_X0_isSoAt_5 G d h h l0 l1 l2 Q hex hnn hzz okl0 okl2 hwp ⟨qEx.rf _, rfl, rfl⟩

theorem dX1_readTurn_0 : decode cX1_readTurn 0 = .ok (.aload_n 1, 1) := by decide +kernel
theorem dX1_readTurn_1 : decode cX1_readTurn 1 = .ok (.invokevirtual 67, 3) := by decide +kernel
theorem dX1_readTurn_4 : decode cX1_readTurn 4 = .ok (.aload_n 1, 1) := by decide +kernel
theorem dX1_readTurn_5 : decode cX1_readTurn 5 = .ok (.invokevirtual 70, 3) := by decide +kernel
theorem dX1_readTurn_8 : decode cX1_readTurn 8 = .ok (.ifCond .eq 18, 3) := by decide +kernel
theorem dX1_readTurn_11 : decode cX1_readTurn 11 = .ok (.aload_n 1, 1) := by decide +kernel
theorem dX1_readTurn_12 : decode cX1_readTurn 12 = .ok (.invokevirtual 73, 3) := by decide +kernel
theorem dX1_readTurn_15 : decode cX1_readTurn 15 = .ok (.iconst 2, 1) := by decide +kernel
theorem dX1_readTurn_16 : decode cX1_readTurn 16 = .ok (.irem, 1) := by decide +kernel
theorem dX1_readTurn_17 : decode cX1_readTurn 17 = .ok (.ifCond .eq 9, 3) := by decide +kernel
theorem dX1_readTurn_20 : decode cX1_readTurn 20 = .ok (.aload_n 1, 1) := by decide +kernel
theorem dX1_readTurn_21 : decode cX1_readTurn 21 = .ok (.iconst 2, 1) := by decide +kernel
theorem dX1_readTurn_22 : decode cX1_readTurn 22 = .ok (.invokevirtual 51, 3) := by decide +kernel
theorem dX1_readTurn_25 : decode cX1_readTurn 25 = .ok (.ireturn, 1) := by decide +kernel
theorem dX1_readTurn_26 : decode cX1_readTurn 26 = .ok (.aload_n 1, 1) := by decide +kernel
theorem dX1_readTurn_27 : decode cX1_readTurn 27 = .ok (.bipush 8, 2) := by decide +kernel
theorem dX1_readTurn_29 : decode cX1_readTurn 29 = .ok (.bipush 48, 2) := by decide +kernel
theorem dX1_readTurn_31 : decode cX1_readTurn 31 = .ok (.invokevirtual 77, 3) := by decide +kernel
theorem dX1_readTurn_34 : decode cX1_readTurn 34 = .ok (.istore_n 2, 1) := by decide +kernel
theorem dX1_readTurn_35 : decode cX1_readTurn 35 = .ok (.iload_n 2, 1) := by decide +kernel
theorem dX1_readTurn_36 : decode cX1_readTurn 36 = .ok (.iconst (-1), 1) := by decide +kernel
theorem dX1_readTurn_37 : decode cX1_readTurn 37 = .ok (.if_icmp .ne 5, 3) := by decide +kernel
theorem dX1_readTurn_40 : decode cX1_readTurn 40 = .ok (.iconst 0, 1) := by decide +kernel
theorem dX1_readTurn_41 : decode cX1_readTurn 41 = .ok (.ireturn, 1) := by decide +kernel
theorem dX1_readTurn_42 : decode cX1_readTurn 42 = .ok (.aload_n 0, 1) := by decide +kernel
theorem dX1_readTurn_43 : decode cX1_readTurn 43 = .ok (.iload_n 2, 1) := by decide +kernel
theorem dX1_readTurn_44 : decode cX1_readTurn 44 = .ok (.putfield 21, 3) := by decide +kernel
theorem dX1_readTurn_47 : decode cX1_readTurn 47 = .ok (.aload_n 1, 1) := by decide +kernel
theorem dX1_readTurn_48 : decode cX1_readTurn 48 = .ok (.bipush 59, 2) := by decide +kernel
theorem dX1_readTurn_50 : decode cX1_readTurn 50 = .ok (.invokevirtual 61, 3) := by decide +kernel
theorem dX1_readTurn_53 : decode cX1_readTurn 53 = .ok (.ireturn, 1) := by decide +kernel
def wp_X1_readTurn_26 (l0 : Nat) (l1 : Nat)  (h : PH) (Q : Int32 → PH → Prop) : Prop := (wp_X7_takeNumber l1 8 48 h (fun r13 h12 => ((¬ r13 = (-1) → (∀ h15, h15 = qsI h12 l0 2 r13 → (wp_X7_takeSign l1 59 h15 (fun r17 h16 => ((r17 = 0 ∨ r17 = 1) ∧ Q r17 h16))))) ∧ (r13 = (-1) → Q 0 h12))))
set_option maxHeartbeats 4000000 in
set_option maxRecDepth 100000 in
theorem sg_X1_readTurn_26 (G : GT) (d : Nat) (h0 : PH) (l0 : Nat) (l1 : Nat) (h : PH) (Q : Int32 → PH → Prop) (hex : qEx h0 h) (hnn : qn h = qn h0 + 0) (hzz : qz h = qz h0 + 0) (okl0 : qOK h 1 l0) (okl1 : qOK h 7 l1) (hwp : wp_X1_readTurn_26 l0 l1 h Q) : Ex G (qrm (2 + d) 0 0) mX1_readTurn (qn h0) (qz h0) (ZN G h0 0 0 (qqb Q)) 26 [(0, .ref l0), (1, .ref l1)] [] h := by
  unfold wp_X1_readTurn_26 at hwp
  refine x_aload_n (pc := 26) dX1_readTurn_26 rfl ?_
  refine x_bipush (v := 8) (pc := 27) dX1_readTurn_27 (by decide) ?_
  refine x_bipush (v := 48) (pc := 29) dX1_readTurn_29 (by decide) ?_
  refine x_invV (As := [.int 8, .int 48]) (st := []) (pc := 31) dX1_readTurn_31 lRX1_77 fX7_takeNumber vX7_takeNumber okl1 rfl (Nat.le_of_ble_eq_true rfl) (q_R (by omega) (by decide)) (q_C hnn hzz (by decide) (by decide)) (sn_X7_takeNumber G (d + 0) l1 8 48 h _ okl1 hwp) (k_i (fun r13 h12 hwp cxh12 => ?_))
  have hex := hex.tr cxh12.1
  have hnn : qn h12 = qn h0 + 0 := by have := cxh12.2.1; omega
  have hzz : qz h12 = qz h0 + 0 := by have := cxh12.2.2; omega
  have okl0 := okl0.ex cxh12.1
  have okl1 := okl1.ex cxh12.1
  refine x_istore_n (lv2 := [(2, .int r13), (0, .ref l0), (1, .ref l1)]) (pc := 34) dX1_readTurn_34 (by decide) rfl ?_
  refine x_iload_n (pc := 35) dX1_readTurn_35 rfl ?_
  refine x_iconst (v := (-1)) (pc := 36) dX1_readTurn_36 (by decide) ?_
  refine x_icmp_ne (tgt := 42) (pc := 37) dX1_readTurn_37 (by decide) (fun c14 => ?_) (fun c14 => ?_)
  · have hwp := hwp.1 c14
    refine x_aload_n (pc := 42) dX1_readTurn_42 rfl ?_
    refine x_iload_n (pc := 43) dX1_readTurn_43 rfl ?_
    refine y_putI (pc := 44) dX1_readTurn_44 qRX1_21 okl0 (fun h15 eh15 nxh15 => ?_)
    have hwp := hwp h15 eh15
    have hex := hex.tr nxh15.1
    have hnn := nxh15.2.1.trans hnn
    have hzz := nxh15.2.2.trans hzz
    have okl0 := okl0.ex nxh15.1
    have okl1 := okl1.ex nxh15.1
    refine x_aload_n (pc := 47) dX1_readTurn_47 rfl ?_
    refine x_bipush (v := 59) (pc := 48) dX1_readTurn_48 (by decide) ?_
    refine x_invV (As := [.int 59]) (st := []) (pc := 50) dX1_readTurn_50 lRX1_61 fX7_takeSign vX7_takeSign okl1 rfl (Nat.le_of_ble_eq_true rfl) (q_R (by omega) (by decide)) (q_C hnn hzz (by decide) (by decide)) (sn_X7_takeSign G (d + 0) l1 59 h15 _ okl1 hwp) (k_b (fun r17 h16 hwp zbr17 cxh16 => ?_))
    have hex := hex.tr cxh16.1
    have hnn : qn h16 = qn h0 + 0 := by have := cxh16.2.1; omega
    have hzz : qz h16 = qz h0 + 0 := by have := cxh16.2.2; omega
    have okl0 := okl0.ex cxh16.1
    have okl1 := okl1.ex cxh16.1
    exact x_zret (pc := 53) dX1_readTurn_53 rfl hex hnn hzz hwp.1 ⟨_, rfl, hwp.1, hwp.2⟩
  · have hwp := hwp.2 c14
    refine x_iconst (v := 0) (pc := 40) dX1_readTurn_40 (by decide) ?_
    exact x_zret (pc := 41) dX1_readTurn_41 rfl hex hnn hzz (by decide) ⟨_, rfl, by decide, hwp⟩
def wp_X1_readTurn (l0 : Nat) (l1 : Nat) (h : PH) (Q : Int32 → PH → Prop) : Prop := (wp_X7_pass l1 h (fun h1 => (wp_X7_isNumber l1 h1 (fun r4 h3 => ((r4 = 0 → (wp_X1_readTurn_26 l0 l1 h3 Q)) ∧ (¬ (r4 = 0) → (wp_X7_content l1 h3 (fun r7 h6 => (((r7 - r7 / 2 * 2) = 0 → (wp_X1_readTurn_26 l0 l1 h6 Q)) ∧ (¬ ((r7 - r7 / 2 * 2) = 0) → (wp_X7_fail l1 2 h6 (fun r10 h9 => ((r10 = 0 ∨ r10 = 1) ∧ Q r10 h9)))))))))))))
set_option maxHeartbeats 4000000 in
set_option maxRecDepth 100000 in
theorem sn_X1_readTurn (G : GT) (d : Nat) (l0 : Nat) (l1 : Nat) (h : PH) (Q : Int32 → PH → Prop) (okl0 : qOK h 1 l0) (okl1 : qOK h 7 l1) (hwp : wp_X1_readTurn l0 l1 h Q) : Mt G (2 + d) 0 0 mX1_readTurn [.ref l0, .ref l1] h (qqb Q) := by
  unfold wp_X1_readTurn at hwp
  refine Mt.of (by decide) rfl (Nat.le_of_ble_eq_true rfl) ?_
  have hex := qEx.rf h
  have hnn : qn h = qn h + 0 := rfl
  have hzz : qz h = qz h + 0 := rfl
  refine x_lvE (lv2 := [(0, .ref l0), (1, .ref l1)]) rfl ?_
  refine x_aload_n (pc := 0) dX1_readTurn_0 rfl ?_
  refine x_invV (As := []) (st := []) (pc := 1) dX1_readTurn_1 lRX1_67 fX7_pass vX7_pass okl1 rfl (Nat.le_of_ble_eq_true rfl) (q_R (by omega) (by decide)) (q_C hnn hzz (by decide) (by decide)) (sn_X7_pass G (d + 1) l1 h _ okl1 hwp) (k_v (fun h1 hwp cxh1 => ?_))
  have hex := hex.tr cxh1.1
  have hnn : qn h1 = qn h + 0 := by have := cxh1.2.1; omega
  have hzz : qz h1 = qz h + 0 := by have := cxh1.2.2; omega
  have okl0 := okl0.ex cxh1.1
  have okl1 := okl1.ex cxh1.1
  refine x_aload_n (pc := 4) dX1_readTurn_4 rfl ?_
  refine x_invV (As := []) (st := []) (pc := 5) dX1_readTurn_5 lRX1_70 fX7_isNumber vX7_isNumber okl1 rfl (Nat.le_of_ble_eq_true rfl) (q_R (by omega) (by decide)) (q_C hnn hzz (by decide) (by decide)) (sn_X7_isNumber G (d + 1) l1 h1 _ okl1 hwp) (k_b (fun r4 h3 hwp zbr4 cxh3 => ?_))
  have hex := hex.tr cxh3.1
  have hnn : qn h3 = qn h + 0 := by have := cxh3.2.1; omega
  have hzz : qz h3 = qz h + 0 := by have := cxh3.2.2; omega
  have okl0 := okl0.ex cxh3.1
  have okl1 := okl1.ex cxh3.1
  refine x_if_eq (tgt := 26) (pc := 8) dX1_readTurn_8 (by decide) (fun c5 => ?_) (fun c5 => ?_)
  · have hwp := hwp.1 c5
    refine x_sub [0, 1] rfl ?_
    exact sg_X1_readTurn_26 G d h l0 l1 h3 Q hex hnn hzz okl0 okl1 hwp
  · have hwp := hwp.2 c5
    refine x_aload_n (pc := 11) dX1_readTurn_11 rfl ?_
    refine x_invV (As := []) (st := []) (pc := 12) dX1_readTurn_12 lRX1_73 fX7_content vX7_content okl1 rfl (Nat.le_of_ble_eq_true rfl) (q_R (by omega) (by decide)) (q_C hnn hzz (by decide) (by decide)) (sn_X7_content G (d + 1) l1 h3 _ okl1 hwp) (k_i (fun r7 h6 hwp cxh6 => ?_))
    have hex := hex.tr cxh6.1
    have hnn : qn h6 = qn h + 0 := by have := cxh6.2.1; omega
    have hzz : qz h6 = qz h + 0 := by have := cxh6.2.2; omega
    have okl0 := okl0.ex cxh6.1
    have okl1 := okl1.ex cxh6.1
    refine x_iconst (v := 2) (pc := 15) dX1_readTurn_15 (by decide) ?_
    refine x_irem (pc := 16) dX1_readTurn_16 (by decide) ?_
    refine x_if_eq (tgt := 26) (pc := 17) dX1_readTurn_17 (by decide) (fun c8 => ?_) (fun c8 => ?_)
    · have hwp := hwp.1 c8
      refine x_sub [0, 1] rfl ?_
      exact sg_X1_readTurn_26 G d h l0 l1 h6 Q hex hnn hzz okl0 okl1 hwp
    · have hwp := hwp.2 c8
      refine x_aload_n (pc := 20) dX1_readTurn_20 rfl ?_
      refine x_iconst (v := 2) (pc := 21) dX1_readTurn_21 (by decide) ?_
      refine x_invV (As := [.int 2]) (st := []) (pc := 22) dX1_readTurn_22 lRX1_51 fX7_fail vX7_fail okl1 rfl (Nat.le_of_ble_eq_true rfl) (q_R (by omega) (by decide)) (q_C hnn hzz (by decide) (by decide)) (sn_X7_fail G (d + 1) l1 2 h6 _ okl1 hwp) (k_b (fun r10 h9 hwp zbr10 cxh9 => ?_))
      have hex := hex.tr cxh9.1
      have hnn : qn h9 = qn h + 0 := by have := cxh9.2.1; omega
      have hzz : qz h9 = qz h + 0 := by have := cxh9.2.2; omega
      have okl0 := okl0.ex cxh9.1
      have okl1 := okl1.ex cxh9.1
      exact x_zret (pc := 25) dX1_readTurn_25 rfl hex hnn hzz hwp.1 ⟨_, rfl, hwp.1, hwp.2⟩

theorem dX1_readRub_0 : decode cX1_readRub 0 = .ok (.aload_n 1, 1) := by decide +kernel
theorem dX1_readRub_1 : decode cX1_readRub 1 = .ok (.invokevirtual 67, 3) := by decide +kernel
theorem dX1_readRub_4 : decode cX1_readRub 4 = .ok (.aload_n 1, 1) := by decide +kernel
theorem dX1_readRub_5 : decode cX1_readRub 5 = .ok (.iconst 0, 1) := by decide +kernel
theorem dX1_readRub_6 : decode cX1_readRub 6 = .ok (.sipush 999, 3) := by decide +kernel
theorem dX1_readRub_9 : decode cX1_readRub 9 = .ok (.invokevirtual 77, 3) := by decide +kernel
theorem dX1_readRub_12 : decode cX1_readRub 12 = .ok (.istore_n 2, 1) := by decide +kernel
theorem dX1_readRub_13 : decode cX1_readRub 13 = .ok (.iload_n 2, 1) := by decide +kernel
theorem dX1_readRub_14 : decode cX1_readRub 14 = .ok (.iconst (-1), 1) := by decide +kernel
theorem dX1_readRub_15 : decode cX1_readRub 15 = .ok (.if_icmp .ne 5, 3) := by decide +kernel
theorem dX1_readRub_18 : decode cX1_readRub 18 = .ok (.iconst 0, 1) := by decide +kernel
theorem dX1_readRub_19 : decode cX1_readRub 19 = .ok (.ireturn, 1) := by decide +kernel
theorem dX1_readRub_20 : decode cX1_readRub 20 = .ok (.aload_n 0, 1) := by decide +kernel
theorem dX1_readRub_21 : decode cX1_readRub 21 = .ok (.iload_n 2, 1) := by decide +kernel
theorem dX1_readRub_22 : decode cX1_readRub 22 = .ok (.putfield 24, 3) := by decide +kernel
theorem dX1_readRub_25 : decode cX1_readRub 25 = .ok (.iconst 1, 1) := by decide +kernel
theorem dX1_readRub_26 : decode cX1_readRub 26 = .ok (.ireturn, 1) := by decide +kernel
def wp_X1_readRub (l0 : Nat) (l1 : Nat) (h : PH) (Q : Int32 → PH → Prop) : Prop := (wp_X7_pass l1 h (fun h1 => (wp_X7_takeNumber l1 0 999 h1 (fun r4 h3 => ((¬ r4 = (-1) → (∀ h6, h6 = qsI h3 l0 3 r4 → Q 1 h6)) ∧ (r4 = (-1) → Q 0 h3))))))
set_option maxHeartbeats 4000000 in
set_option maxRecDepth 100000 in
theorem sn_X1_readRub (G : GT) (d : Nat) (l0 : Nat) (l1 : Nat) (h : PH) (Q : Int32 → PH → Prop) (okl0 : qOK h 1 l0) (okl1 : qOK h 7 l1) (hwp : wp_X1_readRub l0 l1 h Q) : Mt G (2 + d) 0 0 mX1_readRub [.ref l0, .ref l1] h (qqb Q) := by
  unfold wp_X1_readRub at hwp
  refine Mt.of (by decide) rfl (Nat.le_of_ble_eq_true rfl) ?_
  have hex := qEx.rf h
  have hnn : qn h = qn h + 0 := rfl
  have hzz : qz h = qz h + 0 := rfl
  refine x_lvE (lv2 := [(0, .ref l0), (1, .ref l1)]) rfl ?_
  refine x_aload_n (pc := 0) dX1_readRub_0 rfl ?_
  refine x_invV (As := []) (st := []) (pc := 1) dX1_readRub_1 lRX1_67 fX7_pass vX7_pass okl1 rfl (Nat.le_of_ble_eq_true rfl) (q_R (by omega) (by decide)) (q_C hnn hzz (by decide) (by decide)) (sn_X7_pass G (d + 1) l1 h _ okl1 hwp) (k_v (fun h1 hwp cxh1 => ?_))
  have hex := hex.tr cxh1.1
  have hnn : qn h1 = qn h + 0 := by have := cxh1.2.1; omega
  have hzz : qz h1 = qz h + 0 := by have := cxh1.2.2; omega
  have okl0 := okl0.ex cxh1.1
  have okl1 := okl1.ex cxh1.1
  refine x_aload_n (pc := 4) dX1_readRub_4 rfl ?_
  refine x_iconst (v := 0) (pc := 5) dX1_readRub_5 (by decide) ?_
  refine x_sipush (v := 999) (pc := 6) dX1_readRub_6 (by decide) ?_
  refine x_invV (As := [.int 0, .int 999]) (st := []) (pc := 9) dX1_readRub_9 lRX1_77 fX7_takeNumber vX7_takeNumber okl1 rfl (Nat.le_of_ble_eq_true rfl) (q_R (by omega) (by decide)) (q_C hnn hzz (by decide) (by decide)) (sn_X7_takeNumber G (d + 0) l1 0 999 h1 _ okl1 hwp) (k_i (fun r4 h3 hwp cxh3 => ?_))
  have hex := hex.tr cxh3.1
  have hnn : qn h3 = qn h + 0 := by have := cxh3.2.1; omega
  have hzz : qz h3 = qz h + 0 := by have := cxh3.2.2; omega
  have okl0 := okl0.ex cxh3.1
  have okl1 := okl1.ex cxh3.1
  refine x_istore_n (lv2 := [(2, .int r4), (0, .ref l0), (1, .ref l1)]) (pc := 12) dX1_readRub_12 (by decide) rfl ?_
  refine x_iload_n (pc := 13) dX1_readRub_13 rfl ?_
  refine x_iconst (v := (-1)) (pc := 14) dX1_readRub_14 (by decide) ?_
  refine x_icmp_ne (tgt := 20) (pc := 15) dX1_readRub_15 (by decide) (fun c5 => ?_) (fun c5 => ?_)
  · have hwp := hwp.1 c5
    refine x_aload_n (pc := 20) dX1_readRub_20 rfl ?_
    refine x_iload_n (pc := 21) dX1_readRub_21 rfl ?_
    refine y_putI (pc := 22) dX1_readRub_22 qRX1_24 okl0 (fun h6 eh6 nxh6 => ?_)
    have hwp := hwp h6 eh6
    have hex := hex.tr nxh6.1
    have hnn := nxh6.2.1.trans hnn
    have hzz := nxh6.2.2.trans hzz
    have okl0 := okl0.ex nxh6.1
    have okl1 := okl1.ex nxh6.1
    refine x_iconst (v := 1) (pc := 25) dX1_readRub_25 (by decide) ?_
    exact x_zret (pc := 26) dX1_readRub_26 rfl hex hnn hzz (by decide) ⟨_, rfl, by decide, hwp⟩
  · have hwp := hwp.2 c5
    refine x_iconst (v := 0) (pc := 18) dX1_readRub_18 (by decide) ?_
    exact x_zret (pc := 19) dX1_readRub_19 rfl hex hnn hzz (by decide) ⟨_, rfl, by decide, hwp⟩

theorem dX1_readName_0 : decode cX1_readName 0 = .ok (.aload_n 1, 1) := by decide +kernel
theorem dX1_readName_1 : decode cX1_readName 1 = .ok (.invokevirtual 81, 3) := by decide +kernel
theorem dX1_readName_4 : decode cX1_readName 4 = .ok (.astore_n 3, 1) := by decide +kernel
theorem dX1_readName_5 : decode cX1_readName 5 = .ok (.aload_n 1, 1) := by decide +kernel
theorem dX1_readName_6 : decode cX1_readName 6 = .ok (.invokevirtual 103, 3) := by decide +kernel
theorem dX1_readName_9 : decode cX1_readName 9 = .ok (.ifCond .eq 14, 3) := by decide +kernel
theorem dX1_readName_12 : decode cX1_readName 12 = .ok (.aload_n 3, 1) := by decide +kernel
theorem dX1_readName_13 : decode cX1_readName 13 = .ok (.ifnull 16, 3) := by decide +kernel
theorem dX1_readName_16 : decode cX1_readName 16 = .ok (.aload_n 3, 1) := by decide +kernel
theorem dX1_readName_17 : decode cX1_readName 17 = .ok (.getfield 106, 3) := by decide +kernel
theorem dX1_readName_20 : decode cX1_readName 20 = .ok (.ifCond .eq 9, 3) := by decide +kernel
theorem dX1_readName_23 : decode cX1_readName 23 = .ok (.aload_n 1, 1) := by decide +kernel
theorem dX1_readName_24 : decode cX1_readName 24 = .ok (.iconst 1, 1) := by decide +kernel
theorem dX1_readName_25 : decode cX1_readName 25 = .ok (.invokevirtual 51, 3) := by decide +kernel
theorem dX1_readName_28 : decode cX1_readName 28 = .ok (.ireturn, 1) := by decide +kernel
theorem dX1_readName_29 : decode cX1_readName 29 = .ok (.iconst 0, 1) := by decide +kernel
theorem dX1_readName_30 : decode cX1_readName 30 = .ok (.istore 4, 2) := by decide +kernel
theorem dX1_readName_32 : decode cX1_readName 32 = .ok (.iload 4, 2) := by decide +kernel
theorem dX1_readName_34 : decode cX1_readName 34 = .ok (.aload_n 0, 1) := by decide +kernel
theorem dX1_readName_35 : decode cX1_readName 35 = .ok (.getfield 17, 3) := by decide +kernel
theorem dX1_readName_38 : decode cX1_readName 38 = .ok (.if_icmp .ge 32, 3) := by decide +kernel
theorem dX1_readName_41 : decode cX1_readName 41 = .ok (.aload_n 0, 1) := by decide +kernel
theorem dX1_readName_42 : decode cX1_readName 42 = .ok (.getfield 11, 3) := by decide +kernel
theorem dX1_readName_45 : decode cX1_readName 45 = .ok (.iload 4, 2) := by decide +kernel
theorem dX1_readName_47 : decode cX1_readName 47 = .ok (.aaload, 1) := by decide +kernel
theorem dX1_readName_48 : decode cX1_readName 48 = .ok (.getfield 110, 3) := by decide +kernel
theorem dX1_readName_51 : decode cX1_readName 51 = .ok (.aload_n 1, 1) := by decide +kernel
theorem dX1_readName_52 : decode cX1_readName 52 = .ok (.invokevirtual 73, 3) := by decide +kernel
theorem dX1_readName_55 : decode cX1_readName 55 = .ok (.if_icmp .ne 9, 3) := by decide +kernel
theorem dX1_readName_58 : decode cX1_readName 58 = .ok (.aload_n 1, 1) := by decide +kernel
theorem dX1_readName_59 : decode cX1_readName 59 = .ok (.iconst 3, 1) := by decide +kernel
theorem dX1_readName_60 : decode cX1_readName 60 = .ok (.invokevirtual 51, 3) := by decide +kernel
theorem dX1_readName_63 : decode cX1_readName 63 = .ok (.ireturn, 1) := by decide +kernel
theorem dX1_readName_64 : decode cX1_readName 64 = .ok (.iinc 4 1, 3) := by decide +kernel
theorem dX1_readName_67 : decode cX1_readName 67 = .ok (.goto (-35), 3) := by decide +kernel
theorem dX1_readName_70 : decode cX1_readName 70 = .ok (.aload_n 2, 1) := by decide +kernel
theorem dX1_readName_71 : decode cX1_readName 71 = .ok (.aload_n 1, 1) := by decide +kernel
theorem dX1_readName_72 : decode cX1_readName 72 = .ok (.invokevirtual 73, 3) := by decide +kernel
theorem dX1_readName_75 : decode cX1_readName 75 = .ok (.putfield 110, 3) := by decide +kernel
theorem dX1_readName_78 : decode cX1_readName 78 = .ok (.aload_n 1, 1) := by decide +kernel
theorem dX1_readName_79 : decode cX1_readName 79 = .ok (.invokevirtual 67, 3) := by decide +kernel
theorem dX1_readName_82 : decode cX1_readName 82 = .ok (.iconst 1, 1) := by decide +kernel
theorem dX1_readName_83 : decode cX1_readName 83 = .ok (.ireturn, 1) := by decide +kernel
def E_X1_readName_32 (G : GT) (d : Nat) (h0 hb : PH) (l0 : Nat) (l1 : Nat) (l2 : Nat) (Q : Int32 → PH → Prop) (s : Int32 × PH) : Prop := qEx hb s.2 ∧ qn s.2 = qn hb ∧ qz s.2 = qz hb → Ex G (qrm (1 + d) 0 0) mX1_readName (qn h0) (qz h0) (ZN G h0 0 0 (qqb Q)) 32 [(0, .ref l0), (1, .ref l1), (2, .ref l2), (4, .int s.1)] [] s.2
def wb_X1_readName_32 (l0 : Nat) (l1 : Nat) (l2 : Nat)  (Q : Int32 → PH → Prop) (bk32 : Int32 × PH → Prop) (l4 : Int32) (h : PH) : Prop := (((qI h l0 1) ≤ l4 → (wp_X7_content l1 h (fun r19 h18 => (∀ h20, h20 = qsI h18 l2 1 r19 → (wp_X7_pass l1 h20 (fun h21 => Q 1 h21)))))) ∧ (¬ ((qI h l0 1) ≤ l4) → (∃ b23, qR h l0 0 = some b23 ∧ (vp_in l4 (qL h b23) ∧ ∃ b26, qR h b23 l4.toNatClampNeg = some b26 ∧ (wp_X7_content l1 h (fun r29 h28 => ((¬ (qI h b26 1) = r29 → ∀ v31 : Int32, v31 = l4 + 1 → bk32 (v31, h28)) ∧ ((qI h b26 1) = r29 → (wp_X7_fail l1 3 h28 (fun r33 h32 => ((r33 = 0 ∨ r33 = 1) ∧ Q r33 h32)))))))))))
def wp_X1_readName_32 (l0 : Nat) (l1 : Nat) (l2 : Nat)  (Q : Int32 → PH → Prop) (bk32 : Int32 × PH → Prop) (s : Int32 × PH) : Prop := wb_X1_readName_32 l0 l1 l2 Q bk32 s.1 s.2
set_option maxHeartbeats 4000000 in
set_option maxRecDepth 100000 in
theorem bd_X1_readName_32 (G : GT) (d : Nat) (h0 hb : PH) (l0 : Nat) (l1 : Nat) (l2 : Nat) (Q : Int32 → PH → Prop)  (hex : qEx h0 hb) (hnn : qn hb = qn h0 + 0) (hzz : qz hb = qz h0 + 0) (okl0 : qOK hb 1 l0) (okl1 : qOK hb 7 l1) (okl2 : qOK hb 4 l2) (bk32 : Int32 × PH → Prop) (hbk32 : ∀ s2, bk32 s2 → E_X1_readName_32 G d h0 hb l0 l1 l2 Q s2) (l4 : Int32) (h : PH) (hwp : wb_X1_readName_32 l0 l1 l2 Q bk32 l4 h) (hx32 : qEx hb h) (hn32 : qn h = qn hb) (hz32 : qz h = qz hb) : Ex G (qrm (1 + d) 0 0) mX1_readName (qn h0) (qz h0) (ZN G h0 0 0 (qqb Q)) 32 [(0, .ref l0), (1, .ref l1), (2, .ref l2), (4, .int l4)] [] h := by
  unfold wb_X1_readName_32 at hwp
  have hex := hex.tr hx32
  have hnn := hn32.trans hnn
  have hzz := hz32.trans hzz
  have okl0 := okl0.ex hx32
  have okl1 := okl1.ex hx32
  have okl2 := okl2.ex hx32
  refine x_iload (pc := 32) dX1_readName_32 rfl ?_
  refine x_aload_n (pc := 34) dX1_readName_34 rfl ?_
  refine x_getI (pc := 35) dX1_readName_35 qRX1_17 okl0 (by decide) ?_
  refine x_icmp_ge (tgt := 70) (pc := 38) dX1_readName_38 (by decide) (fun c17 => ?_) (fun c17 => ?_)
  · have hwp := hwp.1 c17
    refine x_aload_n (pc := 70) dX1_readName_70 rfl ?_
    refine x_aload_n (pc := 71) dX1_readName_71 rfl ?_
    refine x_invV (As := []) (st := [.ref l2]) (pc := 72) dX1_readName_72 lRX1_73 fX7_content vX7_content okl1 rfl (Nat.le_of_ble_eq_true rfl) (q_R (by omega) (by decide)) (q_C hnn hzz (by decide) (by decide)) (sn_X7_content G (d + 0) l1 h _ okl1 hwp) (k_i (fun r19 h18 hwp cxh18 => ?_))
    have hex := hex.tr cxh18.1
    have hnn : qn h18 = qn h0 + 0 := by have := cxh18.2.1; omega
    have hzz : qz h18 = qz h0 + 0 := by have := cxh18.2.2; omega
    have hx32 := hx32.tr cxh18.1
    have hn32 : qn h18 = qn hb := by have := cxh18.2.1; omega
    have hz32 : qz h18 = qz hb := by have := cxh18.2.2; omega
    have okl0 := okl0.ex cxh18.1
    have okl1 := okl1.ex cxh18.1
    have okl2 := okl2.ex cxh18.1
    refine y_putI (pc := 75) dX1_readName_75 qRX1_110 okl2 (fun h20 eh20 nxh20 => ?_)
    have hwp := hwp h20 eh20
    have hex := hex.tr nxh20.1
    have hnn := nxh20.2.1.trans hnn
    have hzz := nxh20.2.2.trans hzz
    have hx32 := hx32.tr nxh20.1
    have hn32 := nxh20.2.1.trans hn32
    have hz32 := nxh20.2.2.trans hz32
    have okl0 := okl0.ex nxh20.1
    have okl1 := okl1.ex nxh20.1
    have okl2 := okl2.ex nxh20.1
    refine x_aload_n (pc := 78) dX1_readName_78 rfl ?_
    refine x_invV (As := []) (st := []) (pc := 79) dX1_readName_79 lRX1_67 fX7_pass vX7_pass okl1 rfl (Nat.le_of_ble_eq_true rfl) (q_R (by omega) (by decide)) (q_C hnn hzz (by decide) (by decide)) (sn_X7_pass G (d + 0) l1 h20 _ okl1 hwp) (k_v (fun h21 hwp cxh21 => ?_))
    have hex := hex.tr cxh21.1
    have hnn : qn h21 = qn h0 + 0 := by have := cxh21.2.1; omega
    have hzz : qz h21 = qz h0 + 0 := by have := cxh21.2.2; omega
    have hx32 := hx32.tr cxh21.1
    have hn32 : qn h21 = qn hb := by have := cxh21.2.1; omega
    have hz32 : qz h21 = qz hb := by have := cxh21.2.2; omega
    have okl0 := okl0.ex cxh21.1
    have okl1 := okl1.ex cxh21.1
    have okl2 := okl2.ex cxh21.1
    refine x_iconst (v := 1) (pc := 82) dX1_readName_82 (by decide) ?_
    exact x_zret (pc := 83) dX1_readName_83 rfl hex hnn hzz (by decide) ⟨_, rfl, by decide, hwp⟩
  · have hwp := hwp.2 c17
    refine x_aload_n (pc := 41) dX1_readName_41 rfl ?_
    obtain ⟨b23, e24, hwp⟩ := hwp
    refine x_getR (pc := 42) dX1_readName_42 qRX1_11 okl0 e24 (fun okb23 => ?_)
    refine x_iload (pc := 45) dX1_readName_45 rfl ?_
    obtain ⟨i25, b26, e27, hwp⟩ := hwp
    refine x_aaload (t := 18) (pc := 47) dX1_readName_47 okb23 (by decide) i25 e27 (fun okb26 => ?_)
    refine x_getI (pc := 48) dX1_readName_48 qRX1_110 okb26 (by decide) ?_
    refine x_aload_n (pc := 51) dX1_readName_51 rfl ?_
    refine x_invV (As := []) (st := [.int (qI h b26 1)]) (pc := 52) dX1_readName_52 lRX1_73 fX7_content vX7_content okl1 rfl (Nat.le_of_ble_eq_true rfl) (q_R (by omega) (by decide)) (q_C hnn hzz (by decide) (by decide)) (sn_X7_content G (d + 0) l1 h _ okl1 hwp) (k_i (fun r29 h28 hwp cxh28 => ?_))
    have hex := hex.tr cxh28.1
    have hnn : qn h28 = qn h0 + 0 := by have := cxh28.2.1; omega
    have hzz : qz h28 = qz h0 + 0 := by have := cxh28.2.2; omega
    have hx32 := hx32.tr cxh28.1
    have hn32 : qn h28 = qn hb := by have := cxh28.2.1; omega
    have hz32 : qz h28 = qz hb := by have := cxh28.2.2; omega
    have okl0 := okl0.ex cxh28.1
    have okl1 := okl1.ex cxh28.1
    have okl2 := okl2.ex cxh28.1
    have okb23 := okb23.ex cxh28.1
    have okb26 := okb26.ex cxh28.1
    refine x_icmp_ne (tgt := 64) (pc := 55) dX1_readName_55 (by decide) (fun c30 => ?_) (fun c30 => ?_)
    · have hwp := hwp.1 c30
      refine y_iinc (c := 1) (pc := 64) dX1_readName_64 rfl (by decide) (by decide) (fun v31 ev31 => ?_)
      have hwp := hwp v31 ev31
      refine x_lvE (lv2 := [(4, .int v31), (0, .ref l0), (1, .ref l1), (2, .ref l2)]) rfl ?_
      refine x_goto (tgt := 32) (pc := 67) dX1_readName_67 (by decide) ?_
      refine x_sub [1, 2, 3, 0] rfl ?_
      exact hbk32 _ hwp ⟨hx32, hn32, hz32⟩
    · have hwp := hwp.2 c30
      refine x_aload_n (pc := 58) dX1_readName_58 rfl ?_
      refine x_iconst (v := 3) (pc := 59) dX1_readName_59 (by decide) ?_
      refine x_invV (As := [.int 3]) (st := []) (pc := 60) dX1_readName_60 lRX1_51 fX7_fail vX7_fail okl1 rfl (Nat.le_of_ble_eq_true rfl) (q_R (by omega) (by decide)) (q_C hnn hzz (by decide) (by decide)) (sn_X7_fail G (d + 0) l1 3 h28 _ okl1 hwp) (k_b (fun r33 h32 hwp zbr33 cxh32 => ?_))
      have hex := hex.tr cxh32.1
      have hnn : qn h32 = qn h0 + 0 := by have := cxh32.2.1; omega
      have hzz : qz h32 = qz h0 + 0 := by have := cxh32.2.2; omega
      have hx32 := hx32.tr cxh32.1
      have hn32 : qn h32 = qn hb := by have := cxh32.2.1; omega
      have hz32 : qz h32 = qz hb := by have := cxh32.2.2; omega
      have okl0 := okl0.ex cxh32.1
      have okl1 := okl1.ex cxh32.1
      have okl2 := okl2.ex cxh32.1
      have okb23 := okb23.ex cxh32.1
      have okb26 := okb26.ex cxh32.1
      exact x_zret (pc := 63) dX1_readName_63 rfl hex hnn hzz hwp.1 ⟨_, rfl, hwp.1, hwp.2⟩
theorem lp_X1_readName_32 (G : GT) (d : Nat) (h0 hb : PH) (l0 : Nat) (l1 : Nat) (l2 : Nat) (Q : Int32 → PH → Prop)  (hex : qEx h0 hb) (hnn : qn hb = qn h0 + 0) (hzz : qz hb = qz h0 + 0) (okl0 : qOK hb 1 l0) (okl1 : qOK hb 7 l1) (okl2 : qOK hb 4 l2) {s : Int32 × PH} (hwp : qLoop (wp_X1_readName_32 l0 l1 l2 Q) s) : E_X1_readName_32 G d h0 hb l0 l1 l2 Q s :=
  qLoop.use (E := E_X1_readName_32 G d h0 hb l0 l1 l2 Q) (fun back s hbk hw hx => bd_X1_readName_32 G d h0 hb l0 l1 l2 Q hex hnn hzz okl0 okl1 okl2 back hbk s.1 s.2 hw hx.1 hx.2.1 hx.2.2) hwp
def wp_X1_readName (l0 : Nat) (l1 : Nat) (l2 : Nat) (h : PH) (Q : Int32 → PH → Prop) : Prop := (wp_X7_knownWord l1 h (fun r2 h1 => (wp_X7_isAnyWord l1 h1 (fun r4 h3 => ((r4 = 0 → (wp_X7_fail l1 1 h3 (fun r7 h6 => ((r7 = 0 ∨ r7 = 1) ∧ Q r7 h6)))) ∧ (¬ (r4 = 0) → ((r2 = none → (qLoop (wp_X1_readName_32 l0 l1 l2 Q) (0, h3))) ∧ (∀ b10 : Nat, r2 = some b10 → (∃ i11, i11 < 34 ∧ b10 = wd i11 ∧ (((q_wc 1 i11) = 0 → (qLoop (wp_X1_readName_32 l0 l1 l2 Q) (0, h3))) ∧ (¬ ((q_wc 1 i11) = 0) → (wp_X7_fail l1 1 h3 (fun r15 h14 => ((r15 = 0 ∨ r15 = 1) ∧ Q r15 h14))))))))))))))
set_option maxHeartbeats 4000000 in
set_option maxRecDepth 100000 in
theorem sn_X1_readName (G : GT) (d : Nat) (l0 : Nat) (l1 : Nat) (l2 : Nat) (h : PH) (Q : Int32 → PH → Prop) (okl0 : qOK h 1 l0) (okl1 : qOK h 7 l1) (okl2 : qOK h 4 l2) (hwp : wp_X1_readName l0 l1 l2 h Q) : Mt G (1 + d) 0 0 mX1_readName [.ref l0, .ref l1, .ref l2] h (qqb Q) := by
  unfold wp_X1_readName at hwp
  refine Mt.of (by decide) rfl (Nat.le_of_ble_eq_true rfl) ?_
  have hex := qEx.rf h
  have hnn : qn h = qn h + 0 := rfl
  have hzz : qz h = qz h + 0 := rfl
  refine x_lvE (lv2 := [(0, .ref l0), (1, .ref l1), (2, .ref l2)]) rfl ?_
  refine x_aload_n (pc := 0) dX1_readName_0 rfl ?_
  refine x_invV (As := []) (st := []) (pc := 1) dX1_readName_1 lRX1_81 fX7_knownWord vX7_knownWord okl1 rfl (Nat.le_of_ble_eq_true rfl) (q_R (by omega) (by decide)) (q_C hnn hzz (by decide) (by decide)) (sn_X7_knownWord G (d + 0) l1 h _ okl1 hwp) (k_r (fun r2 h1 hwp cxh1 => ?_))
  have hex := hex.tr cxh1.1
  have hnn : qn h1 = qn h + 0 := by have := cxh1.2.1; omega
  have hzz : qz h1 = qz h + 0 := by have := cxh1.2.2; omega
  have okl0 := okl0.ex cxh1.1
  have okl1 := okl1.ex cxh1.1
  have okl2 := okl2.ex cxh1.1
  refine x_astoreq_n (lv2 := [(3, va_rf r2), (0, .ref l0), (1, .ref l1), (2, .ref l2)]) (pc := 4) dX1_readName_4 (by decide) rfl ?_
  refine x_aload_n (pc := 5) dX1_readName_5 rfl ?_
  refine x_invV (As := []) (st := []) (pc := 6) dX1_readName_6 lRX1_103 fX7_isAnyWord vX7_isAnyWord okl1 rfl (Nat.le_of_ble_eq_true rfl) (q_R (by omega) (by decide)) (q_C hnn hzz (by decide) (by decide)) (sn_X7_isAnyWord G (d + 0) l1 h1 _ okl1 hwp) (k_b (fun r4 h3 hwp zbr4 cxh3 => ?_))
  have hex := hex.tr cxh3.1
  have hnn : qn h3 = qn h + 0 := by have := cxh3.2.1; omega
  have hzz : qz h3 = qz h + 0 := by have := cxh3.2.2; omega
  have okl0 := okl0.ex cxh3.1
  have okl1 := okl1.ex cxh3.1
  have okl2 := okl2.ex cxh3.1
  refine x_if_eq (tgt := 23) (pc := 9) dX1_readName_9 (by decide) (fun c5 => ?_) (fun c5 => ?_)
  · have hwp := hwp.1 c5
    refine x_aload_n (pc := 23) dX1_readName_23 rfl ?_
    refine x_iconst (v := 1) (pc := 24) dX1_readName_24 (by decide) ?_
    refine x_invV (As := [.int 1]) (st := []) (pc := 25) dX1_readName_25 lRX1_51 fX7_fail vX7_fail okl1 rfl (Nat.le_of_ble_eq_true rfl) (q_R (by omega) (by decide)) (q_C hnn hzz (by decide) (by decide)) (sn_X7_fail G (d + 0) l1 1 h3 _ okl1 hwp) (k_b (fun r7 h6 hwp zbr7 cxh6 => ?_))
    have hex := hex.tr cxh6.1
    have hnn : qn h6 = qn h + 0 := by have := cxh6.2.1; omega
    have hzz : qz h6 = qz h + 0 := by have := cxh6.2.2; omega
    have okl0 := okl0.ex cxh6.1
    have okl1 := okl1.ex cxh6.1
    have okl2 := okl2.ex cxh6.1
    exact x_zret (pc := 28) dX1_readName_28 rfl hex hnn hzz hwp.1 ⟨_, rfl, hwp.1, hwp.2⟩
  · have hwp := hwp.2 c5
    refine x_aloadq_n (pc := 12) dX1_readName_12 rfl ?_
    refine x_ifnull (tgt := 29) (pc := 13) dX1_readName_13 (by decide) (fun c9 => ?_) (fun b10 c9 => ?_)
    · have hwp := hwp.1 c9
      refine x_iconst (v := 0) (pc := 29) dX1_readName_29 (by decide) ?_
      refine x_istore (lv2 := [(4, .int 0), (3, va_rf r2), (0, .ref l0), (1, .ref l1), (2, .ref l2)]) (pc := 30) dX1_readName_30 (by decide) (by cases r2 <;> rfl) ?_
      refine x_sub [2, 3, 4, 0] rfl ?_
      exact lp_X1_readName_32 G d h h3 l0 l1 l2 Q hex hnn hzz okl0 okl1 okl2 hwp ⟨qEx.rf _, rfl, rfl⟩
    · have hwp := hwp.2 b10 c9
      refine x_lvE (lv2 := [(3, .ref b10), (0, .ref l0), (1, .ref l1), (2, .ref l2)]) (by rw [c9]; rfl) ?_
      refine x_aload_n (pc := 16) dX1_readName_16 rfl ?_
      obtain ⟨i11, hi11, e12, hwp⟩ := hwp
      refine x_wgetE (i := i11) (q := q_wt 1) e12 (pc := 17) dX1_readName_17 hi11 (by simp [q_wt, qwF]) wRX1_106 ?_
      refine x_if_eq (tgt := 29) (pc := 20) dX1_readName_20 (by decide) (fun c13 => ?_) (fun c13 => ?_)
      · have hwp := hwp.1 c13
        refine x_iconst (v := 0) (pc := 29) dX1_readName_29 (by decide) ?_
        refine x_istore (lv2 := [(4, .int 0), (3, .ref b10), (0, .ref l0), (1, .ref l1), (2, .ref l2)]) (pc := 30) dX1_readName_30 (by decide) rfl ?_
        refine x_sub [2, 3, 4, 0] rfl ?_
        exact lp_X1_readName_32 G d h h3 l0 l1 l2 Q hex hnn hzz okl0 okl1 okl2 hwp ⟨qEx.rf _, rfl, rfl⟩
      · have hwp := hwp.2 c13
        refine x_aload_n (pc := 23) dX1_readName_23 rfl ?_
        refine x_iconst (v := 1) (pc := 24) dX1_readName_24 (by decide) ?_
        refine x_invV (As := [.int 1]) (st := []) (pc := 25) dX1_readName_25 lRX1_51 fX7_fail vX7_fail okl1 rfl (Nat.le_of_ble_eq_true rfl) (q_R (by omega) (by decide)) (q_C hnn hzz (by decide) (by decide)) (sn_X7_fail G (d + 0) l1 1 h3 _ okl1 hwp) (k_b (fun r15 h14 hwp zbr15 cxh14 => ?_))
        have hex := hex.tr cxh14.1
        have hnn : qn h14 = qn h + 0 := by have := cxh14.2.1; omega
        have hzz : qz h14 = qz h + 0 := by have := cxh14.2.2; omega
        have okl0 := okl0.ex cxh14.1
        have okl1 := okl1.ex cxh14.1
        have okl2 := okl2.ex cxh14.1
        exact x_zret (pc := 28) dX1_readName_28 rfl hex hnn hzz hwp.1 ⟨_, rfl, hwp.1, hwp.2⟩

theorem dX1_readPinAndWeight_0 : decode cX1_readPinAndWeight 0 = .ok (.aload_n 2, 1) := by decide +kernel
theorem dX1_readPinAndWeight_1 : decode cX1_readPinAndWeight 1 = .ok (.aload_n 1, 1) := by decide +kernel
theorem dX1_readPinAndWeight_2 : decode cX1_readPinAndWeight 2 = .ok (.iconst 0, 1) := by decide +kernel
theorem dX1_readPinAndWeight_3 : decode cX1_readPinAndWeight 3 = .ok (.aload_n 0, 1) := by decide +kernel
theorem dX1_readPinAndWeight_4 : decode cX1_readPinAndWeight 4 = .ok (.getfield 21, 3) := by decide +kernel
theorem dX1_readPinAndWeight_7 : decode cX1_readPinAndWeight 7 = .ok (.iconst 1, 1) := by decide +kernel
theorem dX1_readPinAndWeight_8 : decode cX1_readPinAndWeight 8 = .ok (.isub, 1) := by decide +kernel
theorem dX1_readPinAndWeight_9 : decode cX1_readPinAndWeight 9 = .ok (.invokevirtual 77, 3) := by decide +kernel
theorem dX1_readPinAndWeight_12 : decode cX1_readPinAndWeight 12 = .ok (.putfield 113, 3) := by decide +kernel
theorem dX1_readPinAndWeight_15 : decode cX1_readPinAndWeight 15 = .ok (.aload_n 2, 1) := by decide +kernel
theorem dX1_readPinAndWeight_16 : decode cX1_readPinAndWeight 16 = .ok (.getfield 113, 3) := by decide +kernel
theorem dX1_readPinAndWeight_19 : decode cX1_readPinAndWeight 19 = .ok (.iconst (-1), 1) := by decide +kernel
theorem dX1_readPinAndWeight_20 : decode cX1_readPinAndWeight 20 = .ok (.if_icmp .ne 5, 3) := by decide +kernel
theorem dX1_readPinAndWeight_23 : decode cX1_readPinAndWeight 23 = .ok (.iconst 0, 1) := by decide +kernel
theorem dX1_readPinAndWeight_24 : decode cX1_readPinAndWeight 24 = .ok (.ireturn, 1) := by decide +kernel
theorem dX1_readPinAndWeight_25 : decode cX1_readPinAndWeight 25 = .ok (.aload_n 2, 1) := by decide +kernel
theorem dX1_readPinAndWeight_26 : decode cX1_readPinAndWeight 26 = .ok (.aload_n 1, 1) := by decide +kernel
theorem dX1_readPinAndWeight_27 : decode cX1_readPinAndWeight 27 = .ok (.iconst 1, 1) := by decide +kernel
theorem dX1_readPinAndWeight_28 : decode cX1_readPinAndWeight 28 = .ok (.bipush 99, 2) := by decide +kernel
theorem dX1_readPinAndWeight_30 : decode cX1_readPinAndWeight 30 = .ok (.invokevirtual 77, 3) := by decide +kernel
theorem dX1_readPinAndWeight_33 : decode cX1_readPinAndWeight 33 = .ok (.putfield 116, 3) := by decide +kernel
theorem dX1_readPinAndWeight_36 : decode cX1_readPinAndWeight 36 = .ok (.aload_n 2, 1) := by decide +kernel
theorem dX1_readPinAndWeight_37 : decode cX1_readPinAndWeight 37 = .ok (.getfield 116, 3) := by decide +kernel
theorem dX1_readPinAndWeight_40 : decode cX1_readPinAndWeight 40 = .ok (.iconst (-1), 1) := by decide +kernel
theorem dX1_readPinAndWeight_41 : decode cX1_readPinAndWeight 41 = .ok (.if_icmp .eq 7, 3) := by decide +kernel
theorem dX1_readPinAndWeight_44 : decode cX1_readPinAndWeight 44 = .ok (.iconst 1, 1) := by decide +kernel
theorem dX1_readPinAndWeight_45 : decode cX1_readPinAndWeight 45 = .ok (.goto 4, 3) := by decide +kernel
theorem dX1_readPinAndWeight_48 : decode cX1_readPinAndWeight 48 = .ok (.iconst 0, 1) := by decide +kernel
theorem dX1_readPinAndWeight_49 : decode cX1_readPinAndWeight 49 = .ok (.ireturn, 1) := by decide +kernel
def wp_X1_readPinAndWeight (l0 : Nat) (l1 : Nat) (l2 : Nat) (h : PH) (Q : Int32 → PH → Prop) : Prop := (wp_X7_takeNumber l1 0 ((qI h l0 2) - 1) h (fun r2 h1 => (∀ h3, h3 = qsI h1 l2 2 r2 → ((¬ (qI h3 l2 2) = (-1) → (wp_X7_takeNumber l1 1 99 h3 (fun r6 h5 => (∀ h7, h7 = qsI h5 l2 3 r6 → (((qI h7 l2 3) = (-1) → Q 0 h7) ∧ (¬ ((qI h7 l2 3) = (-1)) → Q 1 h7)))))) ∧ ((qI h3 l2 2) = (-1) → Q 0 h3)))))
set_option maxHeartbeats 4000000 in
set_option maxRecDepth 100000 in
theorem sn_X1_readPinAndWeight (G : GT) (d : Nat) (l0 : Nat) (l1 : Nat) (l2 : Nat) (h : PH) (Q : Int32 → PH → Prop) (okl0 : qOK h 1 l0) (okl1 : qOK h 7 l1) (okl2 : qOK h 4 l2) (hwp : wp_X1_readPinAndWeight l0 l1 l2 h Q) : Mt G (2 + d) 0 0 mX1_readPinAndWeight [.ref l0, .ref l1, .ref l2] h (qqb Q) := by
  unfold wp_X1_readPinAndWeight at hwp
  refine Mt.of (by decide) rfl (Nat.le_of_ble_eq_true rfl) ?_
  have hex := qEx.rf h
  have hnn : qn h = qn h + 0 := rfl
  have hzz : qz h = qz h + 0 := rfl
  refine x_lvE (lv2 := [(0, .ref l0), (1, .ref l1), (2, .ref l2)]) rfl ?_
  refine x_aload_n (pc := 0) dX1_readPinAndWeight_0 rfl ?_
  refine x_aload_n (pc := 1) dX1_readPinAndWeight_1 rfl ?_
  refine x_iconst (v := 0) (pc := 2) dX1_readPinAndWeight_2 (by decide) ?_
  refine x_aload_n (pc := 3) dX1_readPinAndWeight_3 rfl ?_
  refine x_getI (pc := 4) dX1_readPinAndWeight_4 qRX1_21 okl0 (by decide) ?_
  refine x_iconst (v := 1) (pc := 7) dX1_readPinAndWeight_7 (by decide) ?_
  refine x_isub (pc := 8) dX1_readPinAndWeight_8 ?_
  refine x_invV (As := [.int 0, .int ((qI h l0 2) - 1)]) (st := [.ref l2]) (pc := 9) dX1_readPinAndWeight_9 lRX1_77 fX7_takeNumber vX7_takeNumber okl1 rfl (Nat.le_of_ble_eq_true rfl) (q_R (by omega) (by decide)) (q_C hnn hzz (by decide) (by decide)) (sn_X7_takeNumber G (d + 0) l1 0 ((qI h l0 2) - 1) h _ okl1 hwp) (k_i (fun r2 h1 hwp cxh1 => ?_))
  have hex := hex.tr cxh1.1
  have hnn : qn h1 = qn h + 0 := by have := cxh1.2.1; omega
  have hzz : qz h1 = qz h + 0 := by have := cxh1.2.2; omega
  have okl0 := okl0.ex cxh1.1
  have okl1 := okl1.ex cxh1.1
  have okl2 := okl2.ex cxh1.1
  refine y_putI (pc := 12) dX1_readPinAndWeight_12 qRX1_113 okl2 (fun h3 eh3 nxh3 => ?_)
  have hwp := hwp h3 eh3
  have hex := hex.tr nxh3.1
  have hnn := nxh3.2.1.trans hnn
  have hzz := nxh3.2.2.trans hzz
  have okl0 := okl0.ex nxh3.1
  have okl1 := okl1.ex nxh3.1
  have okl2 := okl2.ex nxh3.1
  refine x_aload_n (pc := 15) dX1_readPinAndWeight_15 rfl ?_
  refine x_getI (pc := 16) dX1_readPinAndWeight_16 qRX1_113 okl2 (by decide) ?_
  refine x_iconst (v := (-1)) (pc := 19) dX1_readPinAndWeight_19 (by decide) ?_
  refine x_icmp_ne (tgt := 25) (pc := 20) dX1_readPinAndWeight_20 (by decide) (fun c4 => ?_) (fun c4 => ?_)
  · have hwp := hwp.1 c4
    refine x_aload_n (pc := 25) dX1_readPinAndWeight_25 rfl ?_
    refine x_aload_n (pc := 26) dX1_readPinAndWeight_26 rfl ?_
    refine x_iconst (v := 1) (pc := 27) dX1_readPinAndWeight_27 (by decide) ?_
    refine x_bipush (v := 99) (pc := 28) dX1_readPinAndWeight_28 (by decide) ?_
    refine x_invV (As := [.int 1, .int 99]) (st := [.ref l2]) (pc := 30) dX1_readPinAndWeight_30 lRX1_77 fX7_takeNumber vX7_takeNumber okl1 rfl (Nat.le_of_ble_eq_true rfl) (q_R (by omega) (by decide)) (q_C hnn hzz (by decide) (by decide)) (sn_X7_takeNumber G (d + 0) l1 1 99 h3 _ okl1 hwp) (k_i (fun r6 h5 hwp cxh5 => ?_))
    have hex := hex.tr cxh5.1
    have hnn : qn h5 = qn h + 0 := by have := cxh5.2.1; omega
    have hzz : qz h5 = qz h + 0 := by have := cxh5.2.2; omega
    have okl0 := okl0.ex cxh5.1
    have okl1 := okl1.ex cxh5.1
    have okl2 := okl2.ex cxh5.1
    refine y_putI (pc := 33) dX1_readPinAndWeight_33 qRX1_116 okl2 (fun h7 eh7 nxh7 => ?_)
    have hwp := hwp h7 eh7
    have hex := hex.tr nxh7.1
    have hnn := nxh7.2.1.trans hnn
    have hzz := nxh7.2.2.trans hzz
    have okl0 := okl0.ex nxh7.1
    have okl1 := okl1.ex nxh7.1
    have okl2 := okl2.ex nxh7.1
    refine x_aload_n (pc := 36) dX1_readPinAndWeight_36 rfl ?_
    refine x_getI (pc := 37) dX1_readPinAndWeight_37 qRX1_116 okl2 (by decide) ?_
    refine x_iconst (v := (-1)) (pc := 40) dX1_readPinAndWeight_40 (by decide) ?_
    refine x_icmp_eq (tgt := 48) (pc := 41) dX1_readPinAndWeight_41 (by decide) (fun c8 => ?_) (fun c8 => ?_)
    · have hwp := hwp.1 c8
      refine x_iconst (v := 0) (pc := 48) dX1_readPinAndWeight_48 (by decide) ?_
      exact x_zret (pc := 49) dX1_readPinAndWeight_49 rfl hex hnn hzz (by decide) ⟨_, rfl, by decide, hwp⟩
    · have hwp := hwp.2 c8
      refine x_iconst (v := 1) (pc := 44) dX1_readPinAndWeight_44 (by decide) ?_
      refine x_goto (tgt := 49) (pc := 45) dX1_readPinAndWeight_45 (by decide) ?_
      exact x_zret (pc := 49) dX1_readPinAndWeight_49 rfl hex hnn hzz (by decide) ⟨_, rfl, by decide, hwp⟩
  · have hwp := hwp.2 c4
    refine x_iconst (v := 0) (pc := 23) dX1_readPinAndWeight_23 (by decide) ?_
    exact x_zret (pc := 24) dX1_readPinAndWeight_24 rfl hex hnn hzz (by decide) ⟨_, rfl, by decide, hwp⟩

theorem dX1_readRange_0 : decode cX1_readRange 0 = .ok (.aload_n 1, 1) := by decide +kernel
theorem dX1_readRange_1 : decode cX1_readRange 1 = .ok (.aload_n 3, 1) := by decide +kernel
theorem dX1_readRange_2 : decode cX1_readRange 2 = .ok (.invokevirtual 138, 3) := by decide +kernel
theorem dX1_readRange_5 : decode cX1_readRange 5 = .ok (.ifCond .ne 5, 3) := by decide +kernel
theorem dX1_readRange_8 : decode cX1_readRange 8 = .ok (.iconst 0, 1) := by decide +kernel
theorem dX1_readRange_9 : decode cX1_readRange 9 = .ok (.ireturn, 1) := by decide +kernel
theorem dX1_readRange_10 : decode cX1_readRange 10 = .ok (.aload_n 2, 1) := by decide +kernel
theorem dX1_readRange_11 : decode cX1_readRange 11 = .ok (.aload_n 1, 1) := by decide +kernel
theorem dX1_readRange_12 : decode cX1_readRange 12 = .ok (.iconst 0, 1) := by decide +kernel
theorem dX1_readRange_13 : decode cX1_readRange 13 = .ok (.aload_n 0, 1) := by decide +kernel
theorem dX1_readRange_14 : decode cX1_readRange 14 = .ok (.getfield 21, 3) := by decide +kernel
theorem dX1_readRange_17 : decode cX1_readRange 17 = .ok (.iconst 1, 1) := by decide +kernel
theorem dX1_readRange_18 : decode cX1_readRange 18 = .ok (.isub, 1) := by decide +kernel
theorem dX1_readRange_19 : decode cX1_readRange 19 = .ok (.invokevirtual 77, 3) := by decide +kernel
theorem dX1_readRange_22 : decode cX1_readRange 22 = .ok (.putfield 159, 3) := by decide +kernel
theorem dX1_readRange_25 : decode cX1_readRange 25 = .ok (.aload_n 2, 1) := by decide +kernel
theorem dX1_readRange_26 : decode cX1_readRange 26 = .ok (.getfield 159, 3) := by decide +kernel
theorem dX1_readRange_29 : decode cX1_readRange 29 = .ok (.iconst (-1), 1) := by decide +kernel
theorem dX1_readRange_30 : decode cX1_readRange 30 = .ok (.if_icmp .eq 13, 3) := by decide +kernel
theorem dX1_readRange_33 : decode cX1_readRange 33 = .ok (.aload_n 1, 1) := by decide +kernel
theorem dX1_readRange_34 : decode cX1_readRange 34 = .ok (.getstatic 162, 3) := by decide +kernel
theorem dX1_readRange_37 : decode cX1_readRange 37 = .ok (.invokevirtual 138, 3) := by decide +kernel
theorem dX1_readRange_40 : decode cX1_readRange 40 = .ok (.ifCond .ne 5, 3) := by decide +kernel
theorem dX1_readRange_43 : decode cX1_readRange 43 = .ok (.iconst 0, 1) := by decide +kernel
theorem dX1_readRange_44 : decode cX1_readRange 44 = .ok (.ireturn, 1) := by decide +kernel
theorem dX1_readRange_45 : decode cX1_readRange 45 = .ok (.aload_n 2, 1) := by decide +kernel
theorem dX1_readRange_46 : decode cX1_readRange 46 = .ok (.aload_n 1, 1) := by decide +kernel
theorem dX1_readRange_47 : decode cX1_readRange 47 = .ok (.iconst 0, 1) := by decide +kernel
theorem dX1_readRange_48 : decode cX1_readRange 48 = .ok (.aload_n 0, 1) := by decide +kernel
theorem dX1_readRange_49 : decode cX1_readRange 49 = .ok (.getfield 21, 3) := by decide +kernel
theorem dX1_readRange_52 : decode cX1_readRange 52 = .ok (.iconst 1, 1) := by decide +kernel
theorem dX1_readRange_53 : decode cX1_readRange 53 = .ok (.isub, 1) := by decide +kernel
theorem dX1_readRange_54 : decode cX1_readRange 54 = .ok (.invokevirtual 77, 3) := by decide +kernel
theorem dX1_readRange_57 : decode cX1_readRange 57 = .ok (.putfield 165, 3) := by decide +kernel
theorem dX1_readRange_60 : decode cX1_readRange 60 = .ok (.aload_n 2, 1) := by decide +kernel
theorem dX1_readRange_61 : decode cX1_readRange 61 = .ok (.iconst 1, 1) := by decide +kernel
theorem dX1_readRange_62 : decode cX1_readRange 62 = .ok (.putfield 168, 3) := by decide +kernel
theorem dX1_readRange_65 : decode cX1_readRange 65 = .ok (.aload_n 2, 1) := by decide +kernel
theorem dX1_readRange_66 : decode cX1_readRange 66 = .ok (.getfield 165, 3) := by decide +kernel
theorem dX1_readRange_69 : decode cX1_readRange 69 = .ok (.iconst (-1), 1) := by decide +kernel
theorem dX1_readRange_70 : decode cX1_readRange 70 = .ok (.if_icmp .eq 7, 3) := by decide +kernel
theorem dX1_readRange_73 : decode cX1_readRange 73 = .ok (.iconst 1, 1) := by decide +kernel
theorem dX1_readRange_74 : decode cX1_readRange 74 = .ok (.goto 4, 3) := by decide +kernel
theorem dX1_readRange_77 : decode cX1_readRange 77 = .ok (.iconst 0, 1) := by decide +kernel
theorem dX1_readRange_78 : decode cX1_readRange 78 = .ok (.ireturn, 1) := by decide +kernel
def wp_X1_readRange (l0 : Nat) (l1 : Nat) (l2 : Nat) (l3 : Nat) (h : PH) (Q : Int32 → PH → Prop) : Prop := (wp_X7_takeWord l1 l3 h (fun r2 h1 => ((¬ r2 = 0 → (wp_X7_takeNumber l1 0 ((qI h1 l0 2) - 1) h1 (fun r5 h4 => (∀ h6, h6 = qsI h4 l2 8 r5 → (((qI h6 l2 8) = (-1) → Q 0 h6) ∧ (¬ ((qI h6 l2 8) = (-1)) → (wp_X7_takeWord l1 (wd 10) h6 (fun r9 h8 => ((¬ r9 = 0 → (wp_X7_takeNumber l1 0 ((qI h8 l0 2) - 1) h8 (fun r12 h11 => (∀ h13, h13 = qsI h11 l2 9 r12 → (∀ h14, h14 = qsI h13 l2 7 1 → (((qI h14 l2 9) = (-1) → Q 0 h14) ∧ (¬ ((qI h14 l2 9) = (-1)) → Q 1 h14))))))) ∧ (r9 = 0 → Q 0 h8)))))))))) ∧ (r2 = 0 → Q 0 h1))))
set_option maxHeartbeats 4000000 in
set_option maxRecDepth 100000 in
theorem sn_X1_readRange (G : GT) (d : Nat) (l0 : Nat) (l1 : Nat) (l2 : Nat) (l3 : Nat) (h : PH) (Q : Int32 → PH → Prop) (okl0 : qOK h 1 l0) (okl1 : qOK h 7 l1) (okl2 : qOK h 4 l2) (hwp : wp_X1_readRange l0 l1 l2 l3 h Q) : Mt G (2 + d) 0 0 mX1_readRange [.ref l0, .ref l1, .ref l2, .ref l3] h (qqb Q) := by
  unfold wp_X1_readRange at hwp
  refine Mt.of (by decide) rfl (Nat.le_of_ble_eq_true rfl) ?_
  have hex := qEx.rf h
  have hnn : qn h = qn h + 0 := rfl
  have hzz : qz h = qz h + 0 := rfl
  refine x_lvE (lv2 := [(0, .ref l0), (1, .ref l1), (2, .ref l2), (3, .ref l3)]) rfl ?_
  refine x_aload_n (pc := 0) dX1_readRange_0 rfl ?_
  refine x_aload_n (pc := 1) dX1_readRange_1 rfl ?_
  refine x_invV (As := [.ref l3]) (st := []) (pc := 2) dX1_readRange_2 lRX1_138 fX7_takeWord vX7_takeWord okl1 rfl (Nat.le_of_ble_eq_true rfl) (q_R (by omega) (by decide)) (q_C hnn hzz (by decide) (by decide)) (sn_X7_takeWord G (d + 0) l1 l3 h _ okl1 hwp) (k_b (fun r2 h1 hwp zbr2 cxh1 => ?_))
  have hex := hex.tr cxh1.1
  have hnn : qn h1 = qn h + 0 := by have := cxh1.2.1; omega
  have hzz : qz h1 = qz h + 0 := by have := cxh1.2.2; omega
  have okl0 := okl0.ex cxh1.1
  have okl1 := okl1.ex cxh1.1
  have okl2 := okl2.ex cxh1.1
  refine x_if_ne (tgt := 10) (pc := 5) dX1_readRange_5 (by decide) (fun c3 => ?_) (fun c3 => ?_)
  · have hwp := hwp.1 c3
    refine x_aload_n (pc := 10) dX1_readRange_10 rfl ?_
    refine x_aload_n (pc := 11) dX1_readRange_11 rfl ?_
    refine x_iconst (v := 0) (pc := 12) dX1_readRange_12 (by decide) ?_
    refine x_aload_n (pc := 13) dX1_readRange_13 rfl ?_
    refine x_getI (pc := 14) dX1_readRange_14 qRX1_21 okl0 (by decide) ?_
    refine x_iconst (v := 1) (pc := 17) dX1_readRange_17 (by decide) ?_
    refine x_isub (pc := 18) dX1_readRange_18 ?_
    refine x_invV (As := [.int 0, .int ((qI h1 l0 2) - 1)]) (st := [.ref l2]) (pc := 19) dX1_readRange_19 lRX1_77 fX7_takeNumber vX7_takeNumber okl1 rfl (Nat.le_of_ble_eq_true rfl) (q_R (by omega) (by decide)) (q_C hnn hzz (by decide) (by decide)) (sn_X7_takeNumber G (d + 0) l1 0 ((qI h1 l0 2) - 1) h1 _ okl1 hwp) (k_i (fun r5 h4 hwp cxh4 => ?_))
    have hex := hex.tr cxh4.1
    have hnn : qn h4 = qn h + 0 := by have := cxh4.2.1; omega
    have hzz : qz h4 = qz h + 0 := by have := cxh4.2.2; omega
    have okl0 := okl0.ex cxh4.1
    have okl1 := okl1.ex cxh4.1
    have okl2 := okl2.ex cxh4.1
    refine y_putI (pc := 22) dX1_readRange_22 qRX1_159 okl2 (fun h6 eh6 nxh6 => ?_)
    have hwp := hwp h6 eh6
    have hex := hex.tr nxh6.1
    have hnn := nxh6.2.1.trans hnn
    have hzz := nxh6.2.2.trans hzz
    have okl0 := okl0.ex nxh6.1
    have okl1 := okl1.ex nxh6.1
    have okl2 := okl2.ex nxh6.1
    refine x_aload_n (pc := 25) dX1_readRange_25 rfl ?_
    refine x_getI (pc := 26) dX1_readRange_26 qRX1_159 okl2 (by decide) ?_
    refine x_iconst (v := (-1)) (pc := 29) dX1_readRange_29 (by decide) ?_
    refine x_icmp_eq (tgt := 43) (pc := 30) dX1_readRange_30 (by decide) (fun c7 => ?_) (fun c7 => ?_)
    · have hwp := hwp.1 c7
      refine x_iconst (v := 0) (pc := 43) dX1_readRange_43 (by decide) ?_
      exact x_zret (pc := 44) dX1_readRange_44 rfl hex hnn hzz (by decide) ⟨_, rfl, by decide, hwp⟩
    · have hwp := hwp.2 c7
      refine x_aload_n (pc := 33) dX1_readRange_33 rfl ?_
      refine x_gets (pc := 34) dX1_readRange_34 (by decide) gRX1_162 ?_
      refine x_invV (As := [.ref (wd 10)]) (st := []) (pc := 37) dX1_readRange_37 lRX1_138 fX7_takeWord vX7_takeWord okl1 rfl (Nat.le_of_ble_eq_true rfl) (q_R (by omega) (by decide)) (q_C hnn hzz (by decide) (by decide)) (sn_X7_takeWord G (d + 0) l1 (wd 10) h6 _ okl1 hwp) (k_b (fun r9 h8 hwp zbr9 cxh8 => ?_))
      have hex := hex.tr cxh8.1
      have hnn : qn h8 = qn h + 0 := by have := cxh8.2.1; omega
      have hzz : qz h8 = qz h + 0 := by have := cxh8.2.2; omega
      have okl0 := okl0.ex cxh8.1
      have okl1 := okl1.ex cxh8.1
      have okl2 := okl2.ex cxh8.1
      refine x_if_ne (tgt := 45) (pc := 40) dX1_readRange_40 (by decide) (fun c10 => ?_) (fun c10 => ?_)
      · have hwp := hwp.1 c10
        refine x_aload_n (pc := 45) dX1_readRange_45 rfl ?_
        refine x_aload_n (pc := 46) dX1_readRange_46 rfl ?_
        refine x_iconst (v := 0) (pc := 47) dX1_readRange_47 (by decide) ?_
        refine x_aload_n (pc := 48) dX1_readRange_48 rfl ?_
        refine x_getI (pc := 49) dX1_readRange_49 qRX1_21 okl0 (by decide) ?_
        refine x_iconst (v := 1) (pc := 52) dX1_readRange_52 (by decide) ?_
        refine x_isub (pc := 53) dX1_readRange_53 ?_
        refine x_invV (As := [.int 0, .int ((qI h8 l0 2) - 1)]) (st := [.ref l2]) (pc := 54) dX1_readRange_54 lRX1_77 fX7_takeNumber vX7_takeNumber okl1 rfl (Nat.le_of_ble_eq_true rfl) (q_R (by omega) (by decide)) (q_C hnn hzz (by decide) (by decide)) (sn_X7_takeNumber G (d + 0) l1 0 ((qI h8 l0 2) - 1) h8 _ okl1 hwp) (k_i (fun r12 h11 hwp cxh11 => ?_))
        have hex := hex.tr cxh11.1
        have hnn : qn h11 = qn h + 0 := by have := cxh11.2.1; omega
        have hzz : qz h11 = qz h + 0 := by have := cxh11.2.2; omega
        have okl0 := okl0.ex cxh11.1
        have okl1 := okl1.ex cxh11.1
        have okl2 := okl2.ex cxh11.1
        refine y_putI (pc := 57) dX1_readRange_57 qRX1_165 okl2 (fun h13 eh13 nxh13 => ?_)
        have hwp := hwp h13 eh13
        have hex := hex.tr nxh13.1
        have hnn := nxh13.2.1.trans hnn
        have hzz := nxh13.2.2.trans hzz
        have okl0 := okl0.ex nxh13.1
        have okl1 := okl1.ex nxh13.1
        have okl2 := okl2.ex nxh13.1
        refine x_aload_n (pc := 60) dX1_readRange_60 rfl ?_
        refine x_iconst (v := 1) (pc := 61) dX1_readRange_61 (by decide) ?_
        refine y_putZ (pc := 62) dX1_readRange_62 qRX1_168 okl2 (by decide) (fun h14 eh14 nxh14 => ?_)
        have hwp := hwp h14 eh14
        have hex := hex.tr nxh14.1
        have hnn := nxh14.2.1.trans hnn
        have hzz := nxh14.2.2.trans hzz
        have okl0 := okl0.ex nxh14.1
        have okl1 := okl1.ex nxh14.1
        have okl2 := okl2.ex nxh14.1
        refine x_aload_n (pc := 65) dX1_readRange_65 rfl ?_
        refine x_getI (pc := 66) dX1_readRange_66 qRX1_165 okl2 (by decide) ?_
        refine x_iconst (v := (-1)) (pc := 69) dX1_readRange_69 (by decide) ?_
        refine x_icmp_eq (tgt := 77) (pc := 70) dX1_readRange_70 (by decide) (fun c15 => ?_) (fun c15 => ?_)
        · have hwp := hwp.1 c15
          refine x_iconst (v := 0) (pc := 77) dX1_readRange_77 (by decide) ?_
          exact x_zret (pc := 78) dX1_readRange_78 rfl hex hnn hzz (by decide) ⟨_, rfl, by decide, hwp⟩
        · have hwp := hwp.2 c15
          refine x_iconst (v := 1) (pc := 73) dX1_readRange_73 (by decide) ?_
          refine x_goto (tgt := 78) (pc := 74) dX1_readRange_74 (by decide) ?_
          exact x_zret (pc := 78) dX1_readRange_78 rfl hex hnn hzz (by decide) ⟨_, rfl, by decide, hwp⟩
      · have hwp := hwp.2 c10
        refine x_iconst (v := 0) (pc := 43) dX1_readRange_43 (by decide) ?_
        exact x_zret (pc := 44) dX1_readRange_44 rfl hex hnn hzz (by decide) ⟨_, rfl, by decide, hwp⟩
  · have hwp := hwp.2 c3
    refine x_iconst (v := 0) (pc := 8) dX1_readRange_8 (by decide) ?_
    exact x_zret (pc := 9) dX1_readRange_9 rfl hex hnn hzz (by decide) ⟨_, rfl, by decide, hwp⟩

theorem dX1_readArms_0 : decode cX1_readArms 0 = .ok (.aload_n 1, 1) := by decide +kernel
theorem dX1_readArms_1 : decode cX1_readArms 1 = .ok (.getstatic 135, 3) := by decide +kernel
theorem dX1_readArms_4 : decode cX1_readArms 4 = .ok (.invokevirtual 138, 3) := by decide +kernel
theorem dX1_readArms_7 : decode cX1_readArms 7 = .ok (.ifCond .ne 5, 3) := by decide +kernel
theorem dX1_readArms_10 : decode cX1_readArms 10 = .ok (.iconst 0, 1) := by decide +kernel
theorem dX1_readArms_11 : decode cX1_readArms 11 = .ok (.ireturn, 1) := by decide +kernel
theorem dX1_readArms_12 : decode cX1_readArms 12 = .ok (.aload_n 2, 1) := by decide +kernel
theorem dX1_readArms_13 : decode cX1_readArms 13 = .ok (.aload_n 1, 1) := by decide +kernel
theorem dX1_readArms_14 : decode cX1_readArms 14 = .ok (.iconst 0, 1) := by decide +kernel
theorem dX1_readArms_15 : decode cX1_readArms 15 = .ok (.bipush 20, 2) := by decide +kernel
theorem dX1_readArms_17 : decode cX1_readArms 17 = .ok (.invokevirtual 77, 3) := by decide +kernel
theorem dX1_readArms_20 : decode cX1_readArms 20 = .ok (.putfield 141, 3) := by decide +kernel
theorem dX1_readArms_23 : decode cX1_readArms 23 = .ok (.aload_n 2, 1) := by decide +kernel
theorem dX1_readArms_24 : decode cX1_readArms 24 = .ok (.getfield 141, 3) := by decide +kernel
theorem dX1_readArms_27 : decode cX1_readArms 27 = .ok (.iconst (-1), 1) := by decide +kernel
theorem dX1_readArms_28 : decode cX1_readArms 28 = .ok (.if_icmp .ne 5, 3) := by decide +kernel
theorem dX1_readArms_31 : decode cX1_readArms 31 = .ok (.iconst 0, 1) := by decide +kernel
theorem dX1_readArms_32 : decode cX1_readArms 32 = .ok (.ireturn, 1) := by decide +kernel
theorem dX1_readArms_33 : decode cX1_readArms 33 = .ok (.aload_n 1, 1) := by decide +kernel
theorem dX1_readArms_34 : decode cX1_readArms 34 = .ok (.getstatic 144, 3) := by decide +kernel
theorem dX1_readArms_37 : decode cX1_readArms 37 = .ok (.invokevirtual 34, 3) := by decide +kernel
theorem dX1_readArms_40 : decode cX1_readArms 40 = .ok (.ifCond .ne 5, 3) := by decide +kernel
theorem dX1_readArms_43 : decode cX1_readArms 43 = .ok (.iconst 1, 1) := by decide +kernel
theorem dX1_readArms_44 : decode cX1_readArms 44 = .ok (.ireturn, 1) := by decide +kernel
theorem dX1_readArms_45 : decode cX1_readArms 45 = .ok (.aload_n 1, 1) := by decide +kernel
theorem dX1_readArms_46 : decode cX1_readArms 46 = .ok (.invokevirtual 67, 3) := by decide +kernel
theorem dX1_readArms_49 : decode cX1_readArms 49 = .ok (.aload_n 2, 1) := by decide +kernel
theorem dX1_readArms_50 : decode cX1_readArms 50 = .ok (.aload_n 1, 1) := by decide +kernel
theorem dX1_readArms_51 : decode cX1_readArms 51 = .ok (.iconst 0, 1) := by decide +kernel
theorem dX1_readArms_52 : decode cX1_readArms 52 = .ok (.bipush 20, 2) := by decide +kernel
theorem dX1_readArms_54 : decode cX1_readArms 54 = .ok (.invokevirtual 77, 3) := by decide +kernel
theorem dX1_readArms_57 : decode cX1_readArms 57 = .ok (.putfield 147, 3) := by decide +kernel
theorem dX1_readArms_60 : decode cX1_readArms 60 = .ok (.aload_n 2, 1) := by decide +kernel
theorem dX1_readArms_61 : decode cX1_readArms 61 = .ok (.getfield 147, 3) := by decide +kernel
theorem dX1_readArms_64 : decode cX1_readArms 64 = .ok (.iconst (-1), 1) := by decide +kernel
theorem dX1_readArms_65 : decode cX1_readArms 65 = .ok (.if_icmp .eq 19, 3) := by decide +kernel
theorem dX1_readArms_68 : decode cX1_readArms 68 = .ok (.aload_n 0, 1) := by decide +kernel
theorem dX1_readArms_69 : decode cX1_readArms 69 = .ok (.aload_n 1, 1) := by decide +kernel
theorem dX1_readArms_70 : decode cX1_readArms 70 = .ok (.aload_n 2, 1) := by decide +kernel
theorem dX1_readArms_71 : decode cX1_readArms 71 = .ok (.getstatic 128, 3) := by decide +kernel
theorem dX1_readArms_74 : decode cX1_readArms 74 = .ok (.invokevirtual 131, 3) := by decide +kernel
theorem dX1_readArms_77 : decode cX1_readArms 77 = .ok (.ifCond .eq 7, 3) := by decide +kernel
theorem dX1_readArms_80 : decode cX1_readArms 80 = .ok (.iconst 1, 1) := by decide +kernel
theorem dX1_readArms_81 : decode cX1_readArms 81 = .ok (.goto 4, 3) := by decide +kernel
theorem dX1_readArms_84 : decode cX1_readArms 84 = .ok (.iconst 0, 1) := by decide +kernel
theorem dX1_readArms_85 : decode cX1_readArms 85 = .ok (.ireturn, 1) := by decide +kernel
def wp_X1_readArms (l0 : Nat) (l1 : Nat) (l2 : Nat) (h : PH) (Q : Int32 → PH → Prop) : Prop := (wp_X7_takeWord l1 (wd 7) h (fun r2 h1 => ((¬ r2 = 0 → (wp_X7_takeNumber l1 0 20 h1 (fun r5 h4 => (∀ h6, h6 = qsI h4 l2 4 r5 → ((¬ (qI h6 l2 4) = (-1) → (wp_X7_isWord l1 (wd 8) h6 (fun r9 h8 => ((¬ r9 = 0 → (wp_X7_pass l1 h8 (fun h11 => (wp_X7_takeNumber l1 0 20 h11 (fun r14 h13 => (∀ h15, h15 = qsI h13 l2 5 r14 → (((qI h15 l2 5) = (-1) → Q 0 h15) ∧ (¬ ((qI h15 l2 5) = (-1)) → (wp_X1_readRange l0 l1 l2 (wd 9) h15 (fun r18 h17 => ((r18 = 0 → Q 0 h17) ∧ (¬ (r18 = 0) → Q 1 h17)))))))))))) ∧ (r9 = 0 → Q 1 h8))))) ∧ ((qI h6 l2 4) = (-1) → Q 0 h6)))))) ∧ (r2 = 0 → Q 0 h1))))
set_option maxHeartbeats 4000000 in
set_option maxRecDepth 100000 in
theorem sn_X1_readArms (G : GT) (d : Nat) (l0 : Nat) (l1 : Nat) (l2 : Nat) (h : PH) (Q : Int32 → PH → Prop) (okl0 : qOK h 1 l0) (okl1 : qOK h 7 l1) (okl2 : qOK h 4 l2) (hwp : wp_X1_readArms l0 l1 l2 h Q) : Mt G (3 + d) 0 0 mX1_readArms [.ref l0, .ref l1, .ref l2] h (qqb Q) := by
  unfold wp_X1_readArms at hwp
  refine Mt.of (by decide) rfl (Nat.le_of_ble_eq_true rfl) ?_
  have hex := qEx.rf h
  have hnn : qn h = qn h + 0 := rfl
  have hzz : qz h = qz h + 0 := rfl
  refine x_lvE (lv2 := [(0, .ref l0), (1, .ref l1), (2, .ref l2)]) rfl ?_
  refine x_aload_n (pc := 0) dX1_readArms_0 rfl ?_
  refine x_gets (pc := 1) dX1_readArms_1 (by decide) gRX1_135 ?_
  refine x_invV (As := [.ref (wd 7)]) (st := []) (pc := 4) dX1_readArms_4 lRX1_138 fX7_takeWord vX7_takeWord okl1 rfl (Nat.le_of_ble_eq_true rfl) (q_R (by omega) (by decide)) (q_C hnn hzz (by decide) (by decide)) (sn_X7_takeWord G (d + 1) l1 (wd 7) h _ okl1 hwp) (k_b (fun r2 h1 hwp zbr2 cxh1 => ?_))
  have hex := hex.tr cxh1.1
  have hnn : qn h1 = qn h + 0 := by have := cxh1.2.1; omega
  have hzz : qz h1 = qz h + 0 := by have := cxh1.2.2; omega
  have okl0 := okl0.ex cxh1.1
  have okl1 := okl1.ex cxh1.1
  have okl2 := okl2.ex cxh1.1
  refine x_if_ne (tgt := 12) (pc := 7) dX1_readArms_7 (by decide) (fun c3 => ?_) (fun c3 => ?_)
  · have hwp := hwp.1 c3
    refine x_aload_n (pc := 12) dX1_readArms_12 rfl ?_
    refine x_aload_n (pc := 13) dX1_readArms_13 rfl ?_
    refine x_iconst (v := 0) (pc := 14) dX1_readArms_14 (by decide) ?_
    refine x_bipush (v := 20) (pc := 15) dX1_readArms_15 (by decide) ?_
    refine x_invV (As := [.int 0, .int 20]) (st := [.ref l2]) (pc := 17) dX1_readArms_17 lRX1_77 fX7_takeNumber vX7_takeNumber okl1 rfl (Nat.le_of_ble_eq_true rfl) (q_R (by omega) (by decide)) (q_C hnn hzz (by decide) (by decide)) (sn_X7_takeNumber G (d + 1) l1 0 20 h1 _ okl1 hwp) (k_i (fun r5 h4 hwp cxh4 => ?_))
    have hex := hex.tr cxh4.1
    have hnn : qn h4 = qn h + 0 := by have := cxh4.2.1; omega
    have hzz : qz h4 = qz h + 0 := by have := cxh4.2.2; omega
    have okl0 := okl0.ex cxh4.1
    have okl1 := okl1.ex cxh4.1
    have okl2 := okl2.ex cxh4.1
    refine y_putI (pc := 20) dX1_readArms_20 qRX1_141 okl2 (fun h6 eh6 nxh6 => ?_)
    have hwp := hwp h6 eh6
    have hex := hex.tr nxh6.1
    have hnn := nxh6.2.1.trans hnn
    have hzz := nxh6.2.2.trans hzz
    have okl0 := okl0.ex nxh6.1
    have okl1 := okl1.ex nxh6.1
    have okl2 := okl2.ex nxh6.1
    refine x_aload_n (pc := 23) dX1_readArms_23 rfl ?_
    refine x_getI (pc := 24) dX1_readArms_24 qRX1_141 okl2 (by decide) ?_
    refine x_iconst (v := (-1)) (pc := 27) dX1_readArms_27 (by decide) ?_
    refine x_icmp_ne (tgt := 33) (pc := 28) dX1_readArms_28 (by decide) (fun c7 => ?_) (fun c7 => ?_)
    · have hwp := hwp.1 c7
      refine x_aload_n (pc := 33) dX1_readArms_33 rfl ?_
      refine x_gets (pc := 34) dX1_readArms_34 (by decide) gRX1_144 ?_
      refine x_invV (As := [.ref (wd 8)]) (st := []) (pc := 37) dX1_readArms_37 lRX1_34 fX7_isWord vX7_isWord okl1 rfl (Nat.le_of_ble_eq_true rfl) (q_R (by omega) (by decide)) (q_C hnn hzz (by decide) (by decide)) (sn_X7_isWord G (d + 2) l1 (wd 8) h6 _ okl1 hwp) (k_b (fun r9 h8 hwp zbr9 cxh8 => ?_))
      have hex := hex.tr cxh8.1
      have hnn : qn h8 = qn h + 0 := by have := cxh8.2.1; omega
      have hzz : qz h8 = qz h + 0 := by have := cxh8.2.2; omega
      have okl0 := okl0.ex cxh8.1
      have okl1 := okl1.ex cxh8.1
      have okl2 := okl2.ex cxh8.1
      refine x_if_ne (tgt := 45) (pc := 40) dX1_readArms_40 (by decide) (fun c10 => ?_) (fun c10 => ?_)
      · have hwp := hwp.1 c10
        refine x_aload_n (pc := 45) dX1_readArms_45 rfl ?_
        refine x_invV (As := []) (st := []) (pc := 46) dX1_readArms_46 lRX1_67 fX7_pass vX7_pass okl1 rfl (Nat.le_of_ble_eq_true rfl) (q_R (by omega) (by decide)) (q_C hnn hzz (by decide) (by decide)) (sn_X7_pass G (d + 2) l1 h8 _ okl1 hwp) (k_v (fun h11 hwp cxh11 => ?_))
        have hex := hex.tr cxh11.1
        have hnn : qn h11 = qn h + 0 := by have := cxh11.2.1; omega
        have hzz : qz h11 = qz h + 0 := by have := cxh11.2.2; omega
        have okl0 := okl0.ex cxh11.1
        have okl1 := okl1.ex cxh11.1
        have okl2 := okl2.ex cxh11.1
        refine x_aload_n (pc := 49) dX1_readArms_49 rfl ?_
        refine x_aload_n (pc := 50) dX1_readArms_50 rfl ?_
        refine x_iconst (v := 0) (pc := 51) dX1_readArms_51 (by decide) ?_
        refine x_bipush (v := 20) (pc := 52) dX1_readArms_52 (by decide) ?_
        refine x_invV (As := [.int 0, .int 20]) (st := [.ref l2]) (pc := 54) dX1_readArms_54 lRX1_77 fX7_takeNumber vX7_takeNumber okl1 rfl (Nat.le_of_ble_eq_true rfl) (q_R (by omega) (by decide)) (q_C hnn hzz (by decide) (by decide)) (sn_X7_takeNumber G (d + 1) l1 0 20 h11 _ okl1 hwp) (k_i (fun r14 h13 hwp cxh13 => ?_))
        have hex := hex.tr cxh13.1
        have hnn : qn h13 = qn h + 0 := by have := cxh13.2.1; omega
        have hzz : qz h13 = qz h + 0 := by have := cxh13.2.2; omega
        have okl0 := okl0.ex cxh13.1
        have okl1 := okl1.ex cxh13.1
        have okl2 := okl2.ex cxh13.1
        refine y_putI (pc := 57) dX1_readArms_57 qRX1_147 okl2 (fun h15 eh15 nxh15 => ?_)
        have hwp := hwp h15 eh15
        have hex := hex.tr nxh15.1
        have hnn := nxh15.2.1.trans hnn
        have hzz := nxh15.2.2.trans hzz
        have okl0 := okl0.ex nxh15.1
        have okl1 := okl1.ex nxh15.1
        have okl2 := okl2.ex nxh15.1
        refine x_aload_n (pc := 60) dX1_readArms_60 rfl ?_
        refine x_getI (pc := 61) dX1_readArms_61 qRX1_147 okl2 (by decide) ?_
        refine x_iconst (v := (-1)) (pc := 64) dX1_readArms_64 (by decide) ?_
        refine x_icmp_eq (tgt := 84) (pc := 65) dX1_readArms_65 (by decide) (fun c16 => ?_) (fun c16 => ?_)
        · have hwp := hwp.1 c16
          refine x_iconst (v := 0) (pc := 84) dX1_readArms_84 (by decide) ?_
          exact x_zret (pc := 85) dX1_readArms_85 rfl hex hnn hzz (by decide) ⟨_, rfl, by decide, hwp⟩
        · have hwp := hwp.2 c16
          refine x_aload_n (pc := 68) dX1_readArms_68 rfl ?_
          refine x_aload_n (pc := 69) dX1_readArms_69 rfl ?_
          refine x_aload_n (pc := 70) dX1_readArms_70 rfl ?_
          refine x_gets (pc := 71) dX1_readArms_71 (by decide) gRX1_128 ?_
          refine x_invV (As := [.ref l1, .ref l2, .ref (wd 9)]) (st := []) (pc := 74) dX1_readArms_74 lRX1_131 fX1_readRange vX1_readRange okl0 rfl (Nat.le_of_ble_eq_true rfl) (q_R (by omega) (by decide)) (q_C hnn hzz (by decide) (by decide)) (sn_X1_readRange G (d + 0) l0 l1 l2 (wd 9) h15 _ okl0 okl1 okl2 hwp) (k_b (fun r18 h17 hwp zbr18 cxh17 => ?_))
          have hex := hex.tr cxh17.1
          have hnn : qn h17 = qn h + 0 := by have := cxh17.2.1; omega
          have hzz : qz h17 = qz h + 0 := by have := cxh17.2.2; omega
          have okl0 := okl0.ex cxh17.1
          have okl1 := okl1.ex cxh17.1
          have okl2 := okl2.ex cxh17.1
          refine x_if_eq (tgt := 84) (pc := 77) dX1_readArms_77 (by decide) (fun c19 => ?_) (fun c19 => ?_)
          · have hwp := hwp.1 c19
            refine x_iconst (v := 0) (pc := 84) dX1_readArms_84 (by decide) ?_
            exact x_zret (pc := 85) dX1_readArms_85 rfl hex hnn hzz (by decide) ⟨_, rfl, by decide, hwp⟩
          · have hwp := hwp.2 c19
            refine x_iconst (v := 1) (pc := 80) dX1_readArms_80 (by decide) ?_
            refine x_goto (tgt := 85) (pc := 81) dX1_readArms_81 (by decide) ?_
            exact x_zret (pc := 85) dX1_readArms_85 rfl hex hnn hzz (by decide) ⟨_, rfl, by decide, hwp⟩
      · have hwp := hwp.2 c10
        refine x_iconst (v := 1) (pc := 43) dX1_readArms_43 (by decide) ?_
        exact x_zret (pc := 44) dX1_readArms_44 rfl hex hnn hzz (by decide) ⟨_, rfl, by decide, hwp⟩
    · have hwp := hwp.2 c7
      refine x_iconst (v := 0) (pc := 31) dX1_readArms_31 (by decide) ?_
      exact x_zret (pc := 32) dX1_readArms_32 rfl hex hnn hzz (by decide) ⟨_, rfl, by decide, hwp⟩
  · have hwp := hwp.2 c3
    refine x_iconst (v := 0) (pc := 10) dX1_readArms_10 (by decide) ?_
    exact x_zret (pc := 11) dX1_readArms_11 rfl hex hnn hzz (by decide) ⟨_, rfl, by decide, hwp⟩

theorem dX1_readDoor_0 : decode cX1_readDoor 0 = .ok (.aload_n 1, 1) := by decide +kernel
theorem dX1_readDoor_1 : decode cX1_readDoor 1 = .ok (.getstatic 150, 3) := by decide +kernel
theorem dX1_readDoor_4 : decode cX1_readDoor 4 = .ok (.invokevirtual 138, 3) := by decide +kernel
theorem dX1_readDoor_7 : decode cX1_readDoor 7 = .ok (.ifCond .ne 5, 3) := by decide +kernel
theorem dX1_readDoor_10 : decode cX1_readDoor 10 = .ok (.iconst 0, 1) := by decide +kernel
theorem dX1_readDoor_11 : decode cX1_readDoor 11 = .ok (.ireturn, 1) := by decide +kernel
theorem dX1_readDoor_12 : decode cX1_readDoor 12 = .ok (.aload_n 2, 1) := by decide +kernel
theorem dX1_readDoor_13 : decode cX1_readDoor 13 = .ok (.aload_n 1, 1) := by decide +kernel
theorem dX1_readDoor_14 : decode cX1_readDoor 14 = .ok (.iconst 0, 1) := by decide +kernel
theorem dX1_readDoor_15 : decode cX1_readDoor 15 = .ok (.aload_n 0, 1) := by decide +kernel
theorem dX1_readDoor_16 : decode cX1_readDoor 16 = .ok (.getfield 21, 3) := by decide +kernel
theorem dX1_readDoor_19 : decode cX1_readDoor 19 = .ok (.iconst 1, 1) := by decide +kernel
theorem dX1_readDoor_20 : decode cX1_readDoor 20 = .ok (.isub, 1) := by decide +kernel
theorem dX1_readDoor_21 : decode cX1_readDoor 21 = .ok (.invokevirtual 77, 3) := by decide +kernel
theorem dX1_readDoor_24 : decode cX1_readDoor 24 = .ok (.putfield 153, 3) := by decide +kernel
theorem dX1_readDoor_27 : decode cX1_readDoor 27 = .ok (.aload_n 2, 1) := by decide +kernel
theorem dX1_readDoor_28 : decode cX1_readDoor 28 = .ok (.getfield 153, 3) := by decide +kernel
theorem dX1_readDoor_31 : decode cX1_readDoor 31 = .ok (.iconst (-1), 1) := by decide +kernel
theorem dX1_readDoor_32 : decode cX1_readDoor 32 = .ok (.if_icmp .ne 5, 3) := by decide +kernel
theorem dX1_readDoor_35 : decode cX1_readDoor 35 = .ok (.iconst 0, 1) := by decide +kernel
theorem dX1_readDoor_36 : decode cX1_readDoor 36 = .ok (.ireturn, 1) := by decide +kernel
theorem dX1_readDoor_37 : decode cX1_readDoor 37 = .ok (.aload_n 1, 1) := by decide +kernel
theorem dX1_readDoor_38 : decode cX1_readDoor 38 = .ok (.getstatic 156, 3) := by decide +kernel
theorem dX1_readDoor_41 : decode cX1_readDoor 41 = .ok (.invokevirtual 34, 3) := by decide +kernel
theorem dX1_readDoor_44 : decode cX1_readDoor 44 = .ok (.ifCond .eq 15, 3) := by decide +kernel
theorem dX1_readDoor_47 : decode cX1_readDoor 47 = .ok (.aload_n 0, 1) := by decide +kernel
theorem dX1_readDoor_48 : decode cX1_readDoor 48 = .ok (.aload_n 1, 1) := by decide +kernel
theorem dX1_readDoor_49 : decode cX1_readDoor 49 = .ok (.aload_n 2, 1) := by decide +kernel
theorem dX1_readDoor_50 : decode cX1_readDoor 50 = .ok (.getstatic 156, 3) := by decide +kernel
theorem dX1_readDoor_53 : decode cX1_readDoor 53 = .ok (.invokevirtual 131, 3) := by decide +kernel
theorem dX1_readDoor_56 : decode cX1_readDoor 56 = .ok (.ifCond .eq 7, 3) := by decide +kernel
theorem dX1_readDoor_59 : decode cX1_readDoor 59 = .ok (.iconst 1, 1) := by decide +kernel
theorem dX1_readDoor_60 : decode cX1_readDoor 60 = .ok (.goto 4, 3) := by decide +kernel
theorem dX1_readDoor_63 : decode cX1_readDoor 63 = .ok (.iconst 0, 1) := by decide +kernel
theorem dX1_readDoor_64 : decode cX1_readDoor 64 = .ok (.ireturn, 1) := by decide +kernel
def wp_X1_readDoor (l0 : Nat) (l1 : Nat) (l2 : Nat) (h : PH) (Q : Int32 → PH → Prop) : Prop := (wp_X7_takeWord l1 (wd 11) h (fun r2 h1 => ((¬ r2 = 0 → (wp_X7_takeNumber l1 0 ((qI h1 l0 2) - 1) h1 (fun r5 h4 => (∀ h6, h6 = qsI h4 l2 6 r5 → ((¬ (qI h6 l2 6) = (-1) → (wp_X7_isWord l1 (wd 12) h6 (fun r9 h8 => ((r9 = 0 → Q 1 h8) ∧ (¬ (r9 = 0) → (wp_X1_readRange l0 l1 l2 (wd 12) h8 (fun r12 h11 => ((r12 = 0 → Q 0 h11) ∧ (¬ (r12 = 0) → Q 1 h11))))))))) ∧ ((qI h6 l2 6) = (-1) → Q 0 h6)))))) ∧ (r2 = 0 → Q 0 h1))))
set_option maxHeartbeats 4000000 in
set_option maxRecDepth 100000 in
theorem sn_X1_readDoor (G : GT) (d : Nat) (l0 : Nat) (l1 : Nat) (l2 : Nat) (h : PH) (Q : Int32 → PH → Prop) (okl0 : qOK h 1 l0) (okl1 : qOK h 7 l1) (okl2 : qOK h 4 l2) (hwp : wp_X1_readDoor l0 l1 l2 h Q) : Mt G (3 + d) 0 0 mX1_readDoor [.ref l0, .ref l1, .ref l2] h (qqb Q) := by
  unfold wp_X1_readDoor at hwp
  refine Mt.of (by decide) rfl (Nat.le_of_ble_eq_true rfl) ?_
  have hex := qEx.rf h
  have hnn : qn h = qn h + 0 := rfl
  have hzz : qz h = qz h + 0 := rfl
  refine x_lvE (lv2 := [(0, .ref l0), (1, .ref l1), (2, .ref l2)]) rfl ?_
  refine x_aload_n (pc := 0) dX1_readDoor_0 rfl ?_
  refine x_gets (pc := 1) dX1_readDoor_1 (by decide) gRX1_150 ?_
  refine x_invV (As := [.ref (wd 11)]) (st := []) (pc := 4) dX1_readDoor_4 lRX1_138 fX7_takeWord vX7_takeWord okl1 rfl (Nat.le_of_ble_eq_true rfl) (q_R (by omega) (by decide)) (q_C hnn hzz (by decide) (by decide)) (sn_X7_takeWord G (d + 1) l1 (wd 11) h _ okl1 hwp) (k_b (fun r2 h1 hwp zbr2 cxh1 => ?_))
  have hex := hex.tr cxh1.1
  have hnn : qn h1 = qn h + 0 := by have := cxh1.2.1; omega
  have hzz : qz h1 = qz h + 0 := by have := cxh1.2.2; omega
  have okl0 := okl0.ex cxh1.1
  have okl1 := okl1.ex cxh1.1
  have okl2 := okl2.ex cxh1.1
  refine x_if_ne (tgt := 12) (pc := 7) dX1_readDoor_7 (by decide) (fun c3 => ?_) (fun c3 => ?_)
  · have hwp := hwp.1 c3
    refine x_aload_n (pc := 12) dX1_readDoor_12 rfl ?_
    refine x_aload_n (pc := 13) dX1_readDoor_13 rfl ?_
    refine x_iconst (v := 0) (pc := 14) dX1_readDoor_14 (by decide) ?_
    refine x_aload_n (pc := 15) dX1_readDoor_15 rfl ?_
    refine x_getI (pc := 16) dX1_readDoor_16 qRX1_21 okl0 (by decide) ?_
    refine x_iconst (v := 1) (pc := 19) dX1_readDoor_19 (by decide) ?_
    refine x_isub (pc := 20) dX1_readDoor_20 ?_
    refine x_invV (As := [.int 0, .int ((qI h1 l0 2) - 1)]) (st := [.ref l2]) (pc := 21) dX1_readDoor_21 lRX1_77 fX7_takeNumber vX7_takeNumber okl1 rfl (Nat.le_of_ble_eq_true rfl) (q_R (by omega) (by decide)) (q_C hnn hzz (by decide) (by decide)) (sn_X7_takeNumber G (d + 1) l1 0 ((qI h1 l0 2) - 1) h1 _ okl1 hwp) (k_i (fun r5 h4 hwp cxh4 => ?_))
    have hex := hex.tr cxh4.1
    have hnn : qn h4 = qn h + 0 := by have := cxh4.2.1; omega
    have hzz : qz h4 = qz h + 0 := by have := cxh4.2.2; omega
    have okl0 := okl0.ex cxh4.1
    have okl1 := okl1.ex cxh4.1
    have okl2 := okl2.ex cxh4.1
    refine y_putI (pc := 24) dX1_readDoor_24 qRX1_153 okl2 (fun h6 eh6 nxh6 => ?_)
    have hwp := hwp h6 eh6
    have hex := hex.tr nxh6.1
    have hnn := nxh6.2.1.trans hnn
    have hzz := nxh6.2.2.trans hzz
    have okl0 := okl0.ex nxh6.1
    have okl1 := okl1.ex nxh6.1
    have okl2 := okl2.ex nxh6.1
    refine x_aload_n (pc := 27) dX1_readDoor_27 rfl ?_
    refine x_getI (pc := 28) dX1_readDoor_28 qRX1_153 okl2 (by decide) ?_
    refine x_iconst (v := (-1)) (pc := 31) dX1_readDoor_31 (by decide) ?_
    refine x_icmp_ne (tgt := 37) (pc := 32) dX1_readDoor_32 (by decide) (fun c7 => ?_) (fun c7 => ?_)
    · have hwp := hwp.1 c7
      refine x_aload_n (pc := 37) dX1_readDoor_37 rfl ?_
      refine x_gets (pc := 38) dX1_readDoor_38 (by decide) gRX1_156 ?_
      refine x_invV (As := [.ref (wd 12)]) (st := []) (pc := 41) dX1_readDoor_41 lRX1_34 fX7_isWord vX7_isWord okl1 rfl (Nat.le_of_ble_eq_true rfl) (q_R (by omega) (by decide)) (q_C hnn hzz (by decide) (by decide)) (sn_X7_isWord G (d + 2) l1 (wd 12) h6 _ okl1 hwp) (k_b (fun r9 h8 hwp zbr9 cxh8 => ?_))
      have hex := hex.tr cxh8.1
      have hnn : qn h8 = qn h + 0 := by have := cxh8.2.1; omega
      have hzz : qz h8 = qz h + 0 := by have := cxh8.2.2; omega
      have okl0 := okl0.ex cxh8.1
      have okl1 := okl1.ex cxh8.1
      have okl2 := okl2.ex cxh8.1
      refine x_if_eq (tgt := 59) (pc := 44) dX1_readDoor_44 (by decide) (fun c10 => ?_) (fun c10 => ?_)
      · have hwp := hwp.1 c10
        refine x_iconst (v := 1) (pc := 59) dX1_readDoor_59 (by decide) ?_
        refine x_goto (tgt := 64) (pc := 60) dX1_readDoor_60 (by decide) ?_
        exact x_zret (pc := 64) dX1_readDoor_64 rfl hex hnn hzz (by decide) ⟨_, rfl, by decide, hwp⟩
      · have hwp := hwp.2 c10
        refine x_aload_n (pc := 47) dX1_readDoor_47 rfl ?_
        refine x_aload_n (pc := 48) dX1_readDoor_48 rfl ?_
        refine x_aload_n (pc := 49) dX1_readDoor_49 rfl ?_
        refine x_gets (pc := 50) dX1_readDoor_50 (by decide) gRX1_156 ?_
        refine x_invV (As := [.ref l1, .ref l2, .ref (wd 12)]) (st := []) (pc := 53) dX1_readDoor_53 lRX1_131 fX1_readRange vX1_readRange okl0 rfl (Nat.le_of_ble_eq_true rfl) (q_R (by omega) (by decide)) (q_C hnn hzz (by decide) (by decide)) (sn_X1_readRange G (d + 0) l0 l1 l2 (wd 12) h8 _ okl0 okl1 okl2 hwp) (k_b (fun r12 h11 hwp zbr12 cxh11 => ?_))
        have hex := hex.tr cxh11.1
        have hnn : qn h11 = qn h + 0 := by have := cxh11.2.1; omega
        have hzz : qz h11 = qz h + 0 := by have := cxh11.2.2; omega
        have okl0 := okl0.ex cxh11.1
        have okl1 := okl1.ex cxh11.1
        have okl2 := okl2.ex cxh11.1
        refine x_if_eq (tgt := 63) (pc := 56) dX1_readDoor_56 (by decide) (fun c13 => ?_) (fun c13 => ?_)
        · have hwp := hwp.1 c13
          refine x_iconst (v := 0) (pc := 63) dX1_readDoor_63 (by decide) ?_
          exact x_zret (pc := 64) dX1_readDoor_64 rfl hex hnn hzz (by decide) ⟨_, rfl, by decide, hwp⟩
        · have hwp := hwp.2 c13
          refine x_iconst (v := 1) (pc := 59) dX1_readDoor_59 (by decide) ?_
          refine x_goto (tgt := 64) (pc := 60) dX1_readDoor_60 (by decide) ?_
          exact x_zret (pc := 64) dX1_readDoor_64 rfl hex hnn hzz (by decide) ⟨_, rfl, by decide, hwp⟩
    · have hwp := hwp.2 c7
      refine x_iconst (v := 0) (pc := 35) dX1_readDoor_35 (by decide) ?_
      exact x_zret (pc := 36) dX1_readDoor_36 rfl hex hnn hzz (by decide) ⟨_, rfl, by decide, hwp⟩
  · have hwp := hwp.2 c3
    refine x_iconst (v := 0) (pc := 10) dX1_readDoor_10 (by decide) ?_
    exact x_zret (pc := 11) dX1_readDoor_11 rfl hex hnn hzz (by decide) ⟨_, rfl, by decide, hwp⟩

theorem dX1_readRest_0 : decode cX1_readRest 0 = .ok (.aload_n 2, 1) := by decide +kernel
theorem dX1_readRest_1 : decode cX1_readRest 1 = .ok (.getfield 119, 3) := by decide +kernel
theorem dX1_readRest_4 : decode cX1_readRest 4 = .ok (.tableswitch 52 0 4 #[36, 52, 43, 52, 50], 36) := by decide +kernel
theorem dX1_readRest_40 : decode cX1_readRest 40 = .ok (.aload_n 0, 1) := by decide +kernel
theorem dX1_readRest_41 : decode cX1_readRest 41 = .ok (.aload_n 1, 1) := by decide +kernel
theorem dX1_readRest_42 : decode cX1_readRest 42 = .ok (.aload_n 2, 1) := by decide +kernel
theorem dX1_readRest_43 : decode cX1_readRest 43 = .ok (.invokevirtual 122, 3) := by decide +kernel
theorem dX1_readRest_46 : decode cX1_readRest 46 = .ok (.ireturn, 1) := by decide +kernel
theorem dX1_readRest_47 : decode cX1_readRest 47 = .ok (.aload_n 0, 1) := by decide +kernel
theorem dX1_readRest_48 : decode cX1_readRest 48 = .ok (.aload_n 1, 1) := by decide +kernel
theorem dX1_readRest_49 : decode cX1_readRest 49 = .ok (.aload_n 2, 1) := by decide +kernel
theorem dX1_readRest_50 : decode cX1_readRest 50 = .ok (.invokevirtual 125, 3) := by decide +kernel
theorem dX1_readRest_53 : decode cX1_readRest 53 = .ok (.ireturn, 1) := by decide +kernel
theorem dX1_readRest_54 : decode cX1_readRest 54 = .ok (.iconst 1, 1) := by decide +kernel
theorem dX1_readRest_55 : decode cX1_readRest 55 = .ok (.ireturn, 1) := by decide +kernel
theorem dX1_readRest_56 : decode cX1_readRest 56 = .ok (.aload_n 0, 1) := by decide +kernel
theorem dX1_readRest_57 : decode cX1_readRest 57 = .ok (.aload_n 1, 1) := by decide +kernel
theorem dX1_readRest_58 : decode cX1_readRest 58 = .ok (.aload_n 2, 1) := by decide +kernel
theorem dX1_readRest_59 : decode cX1_readRest 59 = .ok (.getstatic 128, 3) := by decide +kernel
theorem dX1_readRest_62 : decode cX1_readRest 62 = .ok (.invokevirtual 131, 3) := by decide +kernel
theorem dX1_readRest_65 : decode cX1_readRest 65 = .ok (.ireturn, 1) := by decide +kernel
def wp_X1_readRest (l0 : Nat) (l1 : Nat) (l2 : Nat) (h : PH) (Q : Int32 → PH → Prop) : Prop := (((qI h l2 0) = 0 → (wp_X1_readArms l0 l1 l2 h (fun r3 h2 => ((r3 = 0 ∨ r3 = 1) ∧ Q r3 h2)))) ∧ ((qI h l2 0) = 1 → (wp_X1_readRange l0 l1 l2 (wd 9) h (fun r7 h6 => ((r7 = 0 ∨ r7 = 1) ∧ Q r7 h6)))) ∧ ((qI h l2 0) = 2 → (wp_X1_readDoor l0 l1 l2 h (fun r11 h10 => ((r11 = 0 ∨ r11 = 1) ∧ Q r11 h10)))) ∧ ((qI h l2 0) = 3 → (wp_X1_readRange l0 l1 l2 (wd 9) h (fun r15 h14 => ((r15 = 0 ∨ r15 = 1) ∧ Q r15 h14)))) ∧ ((qI h l2 0) = 4 → Q 1 h) ∧ (¬ (qI h l2 0) = 0 → ¬ (qI h l2 0) = 1 → ¬ (qI h l2 0) = 2 → ¬ (qI h l2 0) = 3 → ¬ (qI h l2 0) = 4 → (wp_X1_readRange l0 l1 l2 (wd 9) h (fun r19 h18 => ((r19 = 0 ∨ r19 = 1) ∧ Q r19 h18)))))
set_option maxHeartbeats 4000000 in
set_option maxRecDepth 100000 in
theorem sn_X1_readRest (G : GT) (d : Nat) (l0 : Nat) (l1 : Nat) (l2 : Nat) (h : PH) (Q : Int32 → PH → Prop) (okl0 : qOK h 1 l0) (okl1 : qOK h 7 l1) (okl2 : qOK h 4 l2) (hwp : wp_X1_readRest l0 l1 l2 h Q) : Mt G (4 + d) 0 0 mX1_readRest [.ref l0, .ref l1, .ref l2] h (qqb Q) := by
  unfold wp_X1_readRest at hwp
  refine Mt.of (by decide) rfl (Nat.le_of_ble_eq_true rfl) ?_
  have hex := qEx.rf h
  have hnn : qn h = qn h + 0 := rfl
  have hzz : qz h = qz h + 0 := rfl
  refine x_lvE (lv2 := [(0, .ref l0), (1, .ref l1), (2, .ref l2)]) rfl ?_
  refine x_aload_n (pc := 0) dX1_readRest_0 rfl ?_
  refine x_getI (pc := 1) dX1_readRest_1 qRX1_119 okl2 (by decide) ?_
  by_cases c1 : (qI h l2 0) = 0
  · have hwp := hwp.1 c1
    refine x_tabIn (tgt := 40) (pc := 4) dX1_readRest_4 (by rw [q_teq c1 (n := 0) (by decide)]; decide) (by rw [q_teq c1 (n := 0) (by decide)]; decide) (by rw [q_teq c1 (n := 0) (by decide)]; rfl) (by decide) ?_
    refine x_aload_n (pc := 40) dX1_readRest_40 rfl ?_
    refine x_aload_n (pc := 41) dX1_readRest_41 rfl ?_
    refine x_aload_n (pc := 42) dX1_readRest_42 rfl ?_
    refine x_invV (As := [.ref l1, .ref l2]) (st := []) (pc := 43) dX1_readRest_43 lRX1_122 fX1_readArms vX1_readArms okl0 rfl (Nat.le_of_ble_eq_true rfl) (q_R (by omega) (by decide)) (q_C hnn hzz (by decide) (by decide)) (sn_X1_readArms G (d + 0) l0 l1 l2 h _ okl0 okl1 okl2 hwp) (k_b (fun r3 h2 hwp zbr3 cxh2 => ?_))
    have hex := hex.tr cxh2.1
    have hnn : qn h2 = qn h + 0 := by have := cxh2.2.1; omega
    have hzz : qz h2 = qz h + 0 := by have := cxh2.2.2; omega
    have okl0 := okl0.ex cxh2.1
    have okl1 := okl1.ex cxh2.1
    have okl2 := okl2.ex cxh2.1
    exact x_zret (pc := 46) dX1_readRest_46 rfl hex hnn hzz hwp.1 ⟨_, rfl, hwp.1, hwp.2⟩
  by_cases c5 : (qI h l2 0) = 1
  · have hwp := hwp.2.1 c5
    refine x_tabIn (tgt := 56) (pc := 4) dX1_readRest_4 (by rw [q_teq c5 (n := 1) (by decide)]; decide) (by rw [q_teq c5 (n := 1) (by decide)]; decide) (by rw [q_teq c5 (n := 1) (by decide)]; rfl) (by decide) ?_
    refine x_aload_n (pc := 56) dX1_readRest_56 rfl ?_
    refine x_aload_n (pc := 57) dX1_readRest_57 rfl ?_
    refine x_aload_n (pc := 58) dX1_readRest_58 rfl ?_
    refine x_gets (pc := 59) dX1_readRest_59 (by decide) gRX1_128 ?_
    refine x_invV (As := [.ref l1, .ref l2, .ref (wd 9)]) (st := []) (pc := 62) dX1_readRest_62 lRX1_131 fX1_readRange vX1_readRange okl0 rfl (Nat.le_of_ble_eq_true rfl) (q_R (by omega) (by decide)) (q_C hnn hzz (by decide) (by decide)) (sn_X1_readRange G (d + 1) l0 l1 l2 (wd 9) h _ okl0 okl1 okl2 hwp) (k_b (fun r7 h6 hwp zbr7 cxh6 => ?_))
    have hex := hex.tr cxh6.1
    have hnn : qn h6 = qn h + 0 := by have := cxh6.2.1; omega
    have hzz : qz h6 = qz h + 0 := by have := cxh6.2.2; omega
    have okl0 := okl0.ex cxh6.1
    have okl1 := okl1.ex cxh6.1
    have okl2 := okl2.ex cxh6.1
    exact x_zret (pc := 65) dX1_readRest_65 rfl hex hnn hzz hwp.1 ⟨_, rfl, hwp.1, hwp.2⟩
  by_cases c9 : (qI h l2 0) = 2
  · have hwp := hwp.2.2.1 c9
    refine x_tabIn (tgt := 47) (pc := 4) dX1_readRest_4 (by rw [q_teq c9 (n := 2) (by decide)]; decide) (by rw [q_teq c9 (n := 2) (by decide)]; decide) (by rw [q_teq c9 (n := 2) (by decide)]; rfl) (by decide) ?_
    refine x_aload_n (pc := 47) dX1_readRest_47 rfl ?_
    refine x_aload_n (pc := 48) dX1_readRest_48 rfl ?_
    refine x_aload_n (pc := 49) dX1_readRest_49 rfl ?_
    refine x_invV (As := [.ref l1, .ref l2]) (st := []) (pc := 50) dX1_readRest_50 lRX1_125 fX1_readDoor vX1_readDoor okl0 rfl (Nat.le_of_ble_eq_true rfl) (q_R (by omega) (by decide)) (q_C hnn hzz (by decide) (by decide)) (sn_X1_readDoor G (d + 0) l0 l1 l2 h _ okl0 okl1 okl2 hwp) (k_b (fun r11 h10 hwp zbr11 cxh10 => ?_))
    have hex := hex.tr cxh10.1
    have hnn : qn h10 = qn h + 0 := by have := cxh10.2.1; omega
    have hzz : qz h10 = qz h + 0 := by have := cxh10.2.2; omega
    have okl0 := okl0.ex cxh10.1
    have okl1 := okl1.ex cxh10.1
    have okl2 := okl2.ex cxh10.1
    exact x_zret (pc := 53) dX1_readRest_53 rfl hex hnn hzz hwp.1 ⟨_, rfl, hwp.1, hwp.2⟩
  by_cases c13 : (qI h l2 0) = 3
  · have hwp := hwp.2.2.2.1 c13
    refine x_tabIn (tgt := 56) (pc := 4) dX1_readRest_4 (by rw [q_teq c13 (n := 3) (by decide)]; decide) (by rw [q_teq c13 (n := 3) (by decide)]; decide) (by rw [q_teq c13 (n := 3) (by decide)]; rfl) (by decide) ?_
    refine x_aload_n (pc := 56) dX1_readRest_56 rfl ?_
    refine x_aload_n (pc := 57) dX1_readRest_57 rfl ?_
    refine x_aload_n (pc := 58) dX1_readRest_58 rfl ?_
    refine x_gets (pc := 59) dX1_readRest_59 (by decide) gRX1_128 ?_
    refine x_invV (As := [.ref l1, .ref l2, .ref (wd 9)]) (st := []) (pc := 62) dX1_readRest_62 lRX1_131 fX1_readRange vX1_readRange okl0 rfl (Nat.le_of_ble_eq_true rfl) (q_R (by omega) (by decide)) (q_C hnn hzz (by decide) (by decide)) (sn_X1_readRange G (d + 1) l0 l1 l2 (wd 9) h _ okl0 okl1 okl2 hwp) (k_b (fun r15 h14 hwp zbr15 cxh14 => ?_))
    have hex := hex.tr cxh14.1
    have hnn : qn h14 = qn h + 0 := by have := cxh14.2.1; omega
    have hzz : qz h14 = qz h + 0 := by have := cxh14.2.2; omega
    have okl0 := okl0.ex cxh14.1
    have okl1 := okl1.ex cxh14.1
    have okl2 := okl2.ex cxh14.1
    exact x_zret (pc := 65) dX1_readRest_65 rfl hex hnn hzz hwp.1 ⟨_, rfl, hwp.1, hwp.2⟩
  by_cases c17 : (qI h l2 0) = 4
  · have hwp := hwp.2.2.2.2.1 c17
    refine x_tabIn (tgt := 54) (pc := 4) dX1_readRest_4 (by rw [q_teq c17 (n := 4) (by decide)]; decide) (by rw [q_teq c17 (n := 4) (by decide)]; decide) (by rw [q_teq c17 (n := 4) (by decide)]; rfl) (by decide) ?_
    refine x_iconst (v := 1) (pc := 54) dX1_readRest_54 (by decide) ?_
    exact x_zret (pc := 55) dX1_readRest_55 rfl hex hnn hzz (by decide) ⟨_, rfl, by decide, hwp⟩
  have hwp := hwp.2.2.2.2.2 c1 c5 c9 c13 c17
  refine x_tabOut (tgt := 56) (pc := 4) dX1_readRest_4 (by have := q_tne c1 (n := 0) (by decide); have := q_tne c5 (n := 1) (by decide); have := q_tne c9 (n := 2) (by decide); have := q_tne c13 (n := 3) (by decide); have := q_tne c17 (n := 4) (by decide); omega) (by decide) ?_
  refine x_aload_n (pc := 56) dX1_readRest_56 rfl ?_
  refine x_aload_n (pc := 57) dX1_readRest_57 rfl ?_
  refine x_aload_n (pc := 58) dX1_readRest_58 rfl ?_
  refine x_gets (pc := 59) dX1_readRest_59 (by decide) gRX1_128 ?_
  refine x_invV (As := [.ref l1, .ref l2, .ref (wd 9)]) (st := []) (pc := 62) dX1_readRest_62 lRX1_131 fX1_readRange vX1_readRange okl0 rfl (Nat.le_of_ble_eq_true rfl) (q_R (by omega) (by decide)) (q_C hnn hzz (by decide) (by decide)) (sn_X1_readRange G (d + 1) l0 l1 l2 (wd 9) h _ okl0 okl1 okl2 hwp) (k_b (fun r19 h18 hwp zbr19 cxh18 => ?_))
  have hex := hex.tr cxh18.1
  have hnn : qn h18 = qn h + 0 := by have := cxh18.2.1; omega
  have hzz : qz h18 = qz h + 0 := by have := cxh18.2.2; omega
  have okl0 := okl0.ex cxh18.1
  have okl1 := okl1.ex cxh18.1
  have okl2 := okl2.ex cxh18.1
  exact x_zret (pc := 65) dX1_readRest_65 rfl hex hnn hzz hwp.1 ⟨_, rfl, hwp.1, hwp.2⟩

theorem dX1_readPart_0 : decode cX1_readPart 0 = .ok (.aload_n 1, 1) := by decide +kernel
theorem dX1_readPart_1 : decode cX1_readPart 1 = .ok (.invokevirtual 81, 3) := by decide +kernel
theorem dX1_readPart_4 : decode cX1_readPart 4 = .ok (.invokestatic 85, 3) := by decide +kernel
theorem dX1_readPart_7 : decode cX1_readPart 7 = .ok (.istore_n 2, 1) := by decide +kernel
theorem dX1_readPart_8 : decode cX1_readPart 8 = .ok (.iload_n 2, 1) := by decide +kernel
theorem dX1_readPart_9 : decode cX1_readPart 9 = .ok (.iconst (-1), 1) := by decide +kernel
theorem dX1_readPart_10 : decode cX1_readPart 10 = .ok (.if_icmp .ne 9, 3) := by decide +kernel
theorem dX1_readPart_13 : decode cX1_readPart 13 = .ok (.aload_n 1, 1) := by decide +kernel
theorem dX1_readPart_14 : decode cX1_readPart 14 = .ok (.iconst 1, 1) := by decide +kernel
theorem dX1_readPart_15 : decode cX1_readPart 15 = .ok (.invokevirtual 51, 3) := by decide +kernel
theorem dX1_readPart_18 : decode cX1_readPart 18 = .ok (.ireturn, 1) := by decide +kernel
theorem dX1_readPart_19 : decode cX1_readPart 19 = .ok (.aload_n 0, 1) := by decide +kernel
theorem dX1_readPart_20 : decode cX1_readPart 20 = .ok (.getfield 17, 3) := by decide +kernel
theorem dX1_readPart_23 : decode cX1_readPart 23 = .ok (.aload_n 0, 1) := by decide +kernel
theorem dX1_readPart_24 : decode cX1_readPart 24 = .ok (.getfield 11, 3) := by decide +kernel
theorem dX1_readPart_27 : decode cX1_readPart 27 = .ok (.arraylength, 1) := by decide +kernel
theorem dX1_readPart_28 : decode cX1_readPart 28 = .ok (.if_icmp .lt 9, 3) := by decide +kernel
theorem dX1_readPart_31 : decode cX1_readPart 31 = .ok (.aload_n 1, 1) := by decide +kernel
theorem dX1_readPart_32 : decode cX1_readPart 32 = .ok (.iconst 4, 1) := by decide +kernel
theorem dX1_readPart_33 : decode cX1_readPart 33 = .ok (.invokevirtual 51, 3) := by decide +kernel
theorem dX1_readPart_36 : decode cX1_readPart 36 = .ok (.ireturn, 1) := by decide +kernel
theorem dX1_readPart_37 : decode cX1_readPart 37 = .ok (.aload_n 1, 1) := by decide +kernel
theorem dX1_readPart_38 : decode cX1_readPart 38 = .ok (.invokevirtual 67, 3) := by decide +kernel
theorem dX1_readPart_41 : decode cX1_readPart 41 = .ok (.aload_n 0, 1) := by decide +kernel
theorem dX1_readPart_42 : decode cX1_readPart 42 = .ok (.getfield 11, 3) := by decide +kernel
theorem dX1_readPart_45 : decode cX1_readPart 45 = .ok (.aload_n 0, 1) := by decide +kernel
theorem dX1_readPart_46 : decode cX1_readPart 46 = .ok (.getfield 17, 3) := by decide +kernel
theorem dX1_readPart_49 : decode cX1_readPart 49 = .ok (.aaload, 1) := by decide +kernel
theorem dX1_readPart_50 : decode cX1_readPart 50 = .ok (.astore_n 3, 1) := by decide +kernel
theorem dX1_readPart_51 : decode cX1_readPart 51 = .ok (.aload_n 3, 1) := by decide +kernel
theorem dX1_readPart_52 : decode cX1_readPart 52 = .ok (.iload_n 2, 1) := by decide +kernel
theorem dX1_readPart_53 : decode cX1_readPart 53 = .ok (.invokevirtual 89, 3) := by decide +kernel
theorem dX1_readPart_56 : decode cX1_readPart 56 = .ok (.aload_n 0, 1) := by decide +kernel
theorem dX1_readPart_57 : decode cX1_readPart 57 = .ok (.aload_n 1, 1) := by decide +kernel
theorem dX1_readPart_58 : decode cX1_readPart 58 = .ok (.aload_n 3, 1) := by decide +kernel
theorem dX1_readPart_59 : decode cX1_readPart 59 = .ok (.invokevirtual 93, 3) := by decide +kernel
theorem dX1_readPart_62 : decode cX1_readPart 62 = .ok (.ifCond .eq 21, 3) := by decide +kernel
theorem dX1_readPart_65 : decode cX1_readPart 65 = .ok (.aload_n 0, 1) := by decide +kernel
theorem dX1_readPart_66 : decode cX1_readPart 66 = .ok (.aload_n 1, 1) := by decide +kernel
theorem dX1_readPart_67 : decode cX1_readPart 67 = .ok (.aload_n 3, 1) := by decide +kernel
theorem dX1_readPart_68 : decode cX1_readPart 68 = .ok (.invokevirtual 97, 3) := by decide +kernel
theorem dX1_readPart_71 : decode cX1_readPart 71 = .ok (.ifCond .eq 12, 3) := by decide +kernel
theorem dX1_readPart_74 : decode cX1_readPart 74 = .ok (.aload_n 0, 1) := by decide +kernel
theorem dX1_readPart_75 : decode cX1_readPart 75 = .ok (.aload_n 1, 1) := by decide +kernel
theorem dX1_readPart_76 : decode cX1_readPart 76 = .ok (.aload_n 3, 1) := by decide +kernel
theorem dX1_readPart_77 : decode cX1_readPart 77 = .ok (.invokevirtual 100, 3) := by decide +kernel
theorem dX1_readPart_80 : decode cX1_readPart 80 = .ok (.ifCond .ne 5, 3) := by decide +kernel
theorem dX1_readPart_83 : decode cX1_readPart 83 = .ok (.iconst 0, 1) := by decide +kernel
theorem dX1_readPart_84 : decode cX1_readPart 84 = .ok (.ireturn, 1) := by decide +kernel
theorem dX1_readPart_85 : decode cX1_readPart 85 = .ok (.aload_n 0, 1) := by decide +kernel
theorem dX1_readPart_86 : decode cX1_readPart 86 = .ok (.dup, 1) := by decide +kernel
theorem dX1_readPart_87 : decode cX1_readPart 87 = .ok (.getfield 17, 3) := by decide +kernel
theorem dX1_readPart_90 : decode cX1_readPart 90 = .ok (.iconst 1, 1) := by decide +kernel
theorem dX1_readPart_91 : decode cX1_readPart 91 = .ok (.iadd, 1) := by decide +kernel
theorem dX1_readPart_92 : decode cX1_readPart 92 = .ok (.putfield 17, 3) := by decide +kernel
theorem dX1_readPart_95 : decode cX1_readPart 95 = .ok (.iconst 1, 1) := by decide +kernel
theorem dX1_readPart_96 : decode cX1_readPart 96 = .ok (.ireturn, 1) := by decide +kernel
def wp_X1_readPart (l0 : Nat) (l1 : Nat) (h : PH) (Q : Int32 → PH → Prop) : Prop := (wp_X7_knownWord l1 h (fun r2 h1 => (wp_X4_kindOf r2 h1 (fun r4 h3 => ((¬ r4 = (-1) → (∃ b6, qR h3 l0 0 = some b6 ∧ (((qI h3 l0 1) < (nI (qL h3 b6)) → (wp_X7_pass l1 h3 (fun h9 => (∃ b11, qR h9 l0 0 = some b11 ∧ (vp_in (qI h9 l0 1) (qL h9 b11) ∧ ∃ b14, qR h9 b11 (qI h9 l0 1).toNatClampNeg = some b14 ∧ (wp_X4_begin b14 r4 h9 (fun h16 => (wp_X1_readName l0 l1 b14 h16 (fun r19 h18 => ((r19 = 0 → Q 0 h18) ∧ (¬ (r19 = 0) → (wp_X1_readPinAndWeight l0 l1 b14 h18 (fun r22 h21 => ((r22 = 0 → Q 0 h21) ∧ (¬ (r22 = 0) → (wp_X1_readRest l0 l1 b14 h21 (fun r25 h24 => ((¬ r25 = 0 → (∀ h27, h27 = qsI h24 l0 1 ((qI h24 l0 1) + 1) → Q 1 h27)) ∧ (r25 = 0 → Q 0 h24))))))))))))))))))) ∧ (¬ ((qI h3 l0 1) < (nI (qL h3 b6))) → (wp_X7_fail l1 4 h3 (fun r29 h28 => ((r29 = 0 ∨ r29 = 1) ∧ Q r29 h28))))))) ∧ (r4 = (-1) → (wp_X7_fail l1 1 h3 (fun r32 h31 => ((r32 = 0 ∨ r32 = 1) ∧ Q r32 h31)))))))))
set_option maxHeartbeats 4000000 in
set_option maxRecDepth 100000 in
theorem sn_X1_readPart (G : GT) (d : Nat) (l0 : Nat) (l1 : Nat) (h : PH) (Q : Int32 → PH → Prop) (okl0 : qOK h 1 l0) (okl1 : qOK h 7 l1) (hwp : wp_X1_readPart l0 l1 h Q) : Mt G (5 + d) 0 0 mX1_readPart [.ref l0, .ref l1] h (qqb Q) := by
  unfold wp_X1_readPart at hwp
  refine Mt.of (by decide) rfl (Nat.le_of_ble_eq_true rfl) ?_
  have hex := qEx.rf h
  have hnn : qn h = qn h + 0 := rfl
  have hzz : qz h = qz h + 0 := rfl
  refine x_lvE (lv2 := [(0, .ref l0), (1, .ref l1)]) rfl ?_
  refine x_aload_n (pc := 0) dX1_readPart_0 rfl ?_
  refine x_invV (As := []) (st := []) (pc := 1) dX1_readPart_1 lRX1_81 fX7_knownWord vX7_knownWord okl1 rfl (Nat.le_of_ble_eq_true rfl) (q_R (by omega) (by decide)) (q_C hnn hzz (by decide) (by decide)) (sn_X7_knownWord G (d + 4) l1 h _ okl1 hwp) (k_r (fun r2 h1 hwp cxh1 => ?_))
  have hex := hex.tr cxh1.1
  have hnn : qn h1 = qn h + 0 := by have := cxh1.2.1; omega
  have hzz : qz h1 = qz h + 0 := by have := cxh1.2.2; omega
  have okl0 := okl0.ex cxh1.1
  have okl1 := okl1.ex cxh1.1
  refine x_invS (As := [va_rf r2]) (st := []) (pc := 4) dX1_readPart_4 lRX1_85 fX4_kindOf sX4_kindOf rfl (Nat.le_of_ble_eq_true rfl) (q_R (by omega) (by decide)) (q_C hnn hzz (by decide) (by decide)) (sn_X4_kindOf G (d + 4) r2 h1 _  hwp) (k_i (fun r4 h3 hwp cxh3 => ?_))
  have hex := hex.tr cxh3.1
  have hnn : qn h3 = qn h + 0 := by have := cxh3.2.1; omega
  have hzz : qz h3 = qz h + 0 := by have := cxh3.2.2; omega
  have okl0 := okl0.ex cxh3.1
  have okl1 := okl1.ex cxh3.1
  refine x_istore_n (lv2 := [(2, .int r4), (0, .ref l0), (1, .ref l1)]) (pc := 7) dX1_readPart_7 (by decide) rfl ?_
  refine x_iload_n (pc := 8) dX1_readPart_8 rfl ?_
  refine x_iconst (v := (-1)) (pc := 9) dX1_readPart_9 (by decide) ?_
  refine x_icmp_ne (tgt := 19) (pc := 10) dX1_readPart_10 (by decide) (fun c5 => ?_) (fun c5 => ?_)
  · have hwp := hwp.1 c5
    refine x_aload_n (pc := 19) dX1_readPart_19 rfl ?_
    refine x_getI (pc := 20) dX1_readPart_20 qRX1_17 okl0 (by decide) ?_
    refine x_aload_n (pc := 23) dX1_readPart_23 rfl ?_
    obtain ⟨b6, e7, hwp⟩ := hwp
    refine x_getR (pc := 24) dX1_readPart_24 qRX1_11 okl0 e7 (fun okb6 => ?_)
    refine x_alen (pc := 27) dX1_readPart_27 okb6 (by decide) ?_
    refine x_icmp_lt (tgt := 37) (pc := 28) dX1_readPart_28 (by decide) (fun c8 => ?_) (fun c8 => ?_)
    · have hwp := hwp.1 c8
      refine x_aload_n (pc := 37) dX1_readPart_37 rfl ?_
      refine x_invV (As := []) (st := []) (pc := 38) dX1_readPart_38 lRX1_67 fX7_pass vX7_pass okl1 rfl (Nat.le_of_ble_eq_true rfl) (q_R (by omega) (by decide)) (q_C hnn hzz (by decide) (by decide)) (sn_X7_pass G (d + 4) l1 h3 _ okl1 hwp) (k_v (fun h9 hwp cxh9 => ?_))
      have hex := hex.tr cxh9.1
      have hnn : qn h9 = qn h + 0 := by have := cxh9.2.1; omega
      have hzz : qz h9 = qz h + 0 := by have := cxh9.2.2; omega
      have okl0 := okl0.ex cxh9.1
      have okl1 := okl1.ex cxh9.1
      have okb6 := okb6.ex cxh9.1
      refine x_aload_n (pc := 41) dX1_readPart_41 rfl ?_
      obtain ⟨b11, e12, hwp⟩ := hwp
      refine x_getR (pc := 42) dX1_readPart_42 qRX1_11 okl0 e12 (fun okb11 => ?_)
      refine x_aload_n (pc := 45) dX1_readPart_45 rfl ?_
      refine x_getI (pc := 46) dX1_readPart_46 qRX1_17 okl0 (by decide) ?_
      obtain ⟨i13, b14, e15, hwp⟩ := hwp
      refine x_aaload (t := 18) (pc := 49) dX1_readPart_49 okb11 (by decide) i13 e15 (fun okb14 => ?_)
      refine x_astore_n (lv2 := [(3, .ref b14), (2, .int r4), (0, .ref l0), (1, .ref l1)]) (pc := 50) dX1_readPart_50 (by decide) rfl ?_
      refine x_aload_n (pc := 51) dX1_readPart_51 rfl ?_
      refine x_iload_n (pc := 52) dX1_readPart_52 rfl ?_
      refine x_invV (As := [.int r4]) (st := []) (pc := 53) dX1_readPart_53 lRX1_89 fX4_begin vX4_begin okb14 rfl (Nat.le_of_ble_eq_true rfl) (q_R (by omega) (by decide)) (q_C hnn hzz (by decide) (by decide)) (sn_X4_begin G (d + 4) b14 r4 h9 _ okb14 hwp) (k_v (fun h16 hwp cxh16 => ?_))
      have hex := hex.tr cxh16.1
      have hnn : qn h16 = qn h + 0 := by have := cxh16.2.1; omega
      have hzz : qz h16 = qz h + 0 := by have := cxh16.2.2; omega
      have okl0 := okl0.ex cxh16.1
      have okl1 := okl1.ex cxh16.1
      have okb6 := okb6.ex cxh16.1
      have okb11 := okb11.ex cxh16.1
      have okb14 := okb14.ex cxh16.1
      refine x_aload_n (pc := 56) dX1_readPart_56 rfl ?_
      refine x_aload_n (pc := 57) dX1_readPart_57 rfl ?_
      refine x_aload_n (pc := 58) dX1_readPart_58 rfl ?_
      refine x_invV (As := [.ref l1, .ref b14]) (st := []) (pc := 59) dX1_readPart_59 lRX1_93 fX1_readName vX1_readName okl0 rfl (Nat.le_of_ble_eq_true rfl) (q_R (by omega) (by decide)) (q_C hnn hzz (by decide) (by decide)) (sn_X1_readName G (d + 3) l0 l1 b14 h16 _ okl0 okl1 okb14 hwp) (k_b (fun r19 h18 hwp zbr19 cxh18 => ?_))
      have hex := hex.tr cxh18.1
      have hnn : qn h18 = qn h + 0 := by have := cxh18.2.1; omega
      have hzz : qz h18 = qz h + 0 := by have := cxh18.2.2; omega
      have okl0 := okl0.ex cxh18.1
      have okl1 := okl1.ex cxh18.1
      have okb6 := okb6.ex cxh18.1
      have okb11 := okb11.ex cxh18.1
      have okb14 := okb14.ex cxh18.1
      refine x_if_eq (tgt := 83) (pc := 62) dX1_readPart_62 (by decide) (fun c20 => ?_) (fun c20 => ?_)
      · have hwp := hwp.1 c20
        refine x_iconst (v := 0) (pc := 83) dX1_readPart_83 (by decide) ?_
        exact x_zret (pc := 84) dX1_readPart_84 rfl hex hnn hzz (by decide) ⟨_, rfl, by decide, hwp⟩
      · have hwp := hwp.2 c20
        refine x_aload_n (pc := 65) dX1_readPart_65 rfl ?_
        refine x_aload_n (pc := 66) dX1_readPart_66 rfl ?_
        refine x_aload_n (pc := 67) dX1_readPart_67 rfl ?_
        refine x_invV (As := [.ref l1, .ref b14]) (st := []) (pc := 68) dX1_readPart_68 lRX1_97 fX1_readPinAndWeight vX1_readPinAndWeight okl0 rfl (Nat.le_of_ble_eq_true rfl) (q_R (by omega) (by decide)) (q_C hnn hzz (by decide) (by decide)) (sn_X1_readPinAndWeight G (d + 2) l0 l1 b14 h18 _ okl0 okl1 okb14 hwp) (k_b (fun r22 h21 hwp zbr22 cxh21 => ?_))
        have hex := hex.tr cxh21.1
        have hnn : qn h21 = qn h + 0 := by have := cxh21.2.1; omega
        have hzz : qz h21 = qz h + 0 := by have := cxh21.2.2; omega
        have okl0 := okl0.ex cxh21.1
        have okl1 := okl1.ex cxh21.1
        have okb6 := okb6.ex cxh21.1
        have okb11 := okb11.ex cxh21.1
        have okb14 := okb14.ex cxh21.1
        refine x_if_eq (tgt := 83) (pc := 71) dX1_readPart_71 (by decide) (fun c23 => ?_) (fun c23 => ?_)
        · have hwp := hwp.1 c23
          refine x_iconst (v := 0) (pc := 83) dX1_readPart_83 (by decide) ?_
          exact x_zret (pc := 84) dX1_readPart_84 rfl hex hnn hzz (by decide) ⟨_, rfl, by decide, hwp⟩
        · have hwp := hwp.2 c23
          refine x_aload_n (pc := 74) dX1_readPart_74 rfl ?_
          refine x_aload_n (pc := 75) dX1_readPart_75 rfl ?_
          refine x_aload_n (pc := 76) dX1_readPart_76 rfl ?_
          refine x_invV (As := [.ref l1, .ref b14]) (st := []) (pc := 77) dX1_readPart_77 lRX1_100 fX1_readRest vX1_readRest okl0 rfl (Nat.le_of_ble_eq_true rfl) (q_R (by omega) (by decide)) (q_C hnn hzz (by decide) (by decide)) (sn_X1_readRest G (d + 0) l0 l1 b14 h21 _ okl0 okl1 okb14 hwp) (k_b (fun r25 h24 hwp zbr25 cxh24 => ?_))
          have hex := hex.tr cxh24.1
          have hnn : qn h24 = qn h + 0 := by have := cxh24.2.1; omega
          have hzz : qz h24 = qz h + 0 := by have := cxh24.2.2; omega
          have okl0 := okl0.ex cxh24.1
          have okl1 := okl1.ex cxh24.1
          have okb6 := okb6.ex cxh24.1
          have okb11 := okb11.ex cxh24.1
          have okb14 := okb14.ex cxh24.1
          refine x_if_ne (tgt := 85) (pc := 80) dX1_readPart_80 (by decide) (fun c26 => ?_) (fun c26 => ?_)
          · have hwp := hwp.1 c26
            refine x_aload_n (pc := 85) dX1_readPart_85 rfl ?_
            refine x_dup (pc := 86) dX1_readPart_86 rfl ?_
            refine x_getI (pc := 87) dX1_readPart_87 qRX1_17 okl0 (by decide) ?_
            refine x_iconst (v := 1) (pc := 90) dX1_readPart_90 (by decide) ?_
            refine x_iadd (pc := 91) dX1_readPart_91 ?_
            refine y_putI (pc := 92) dX1_readPart_92 qRX1_17 okl0 (fun h27 eh27 nxh27 => ?_)
            have hwp := hwp h27 eh27
            have hex := hex.tr nxh27.1
            have hnn := nxh27.2.1.trans hnn
            have hzz := nxh27.2.2.trans hzz
            have okl0 := okl0.ex nxh27.1
            have okl1 := okl1.ex nxh27.1
            have okb6 := okb6.ex nxh27.1
            have okb11 := okb11.ex nxh27.1
            have okb14 := okb14.ex nxh27.1
            refine x_iconst (v := 1) (pc := 95) dX1_readPart_95 (by decide) ?_
            exact x_zret (pc := 96) dX1_readPart_96 rfl hex hnn hzz (by decide) ⟨_, rfl, by decide, hwp⟩
          · have hwp := hwp.2 c26
            refine x_iconst (v := 0) (pc := 83) dX1_readPart_83 (by decide) ?_
            exact x_zret (pc := 84) dX1_readPart_84 rfl hex hnn hzz (by decide) ⟨_, rfl, by decide, hwp⟩
    · have hwp := hwp.2 c8
      refine x_aload_n (pc := 31) dX1_readPart_31 rfl ?_
      refine x_iconst (v := 4) (pc := 32) dX1_readPart_32 (by decide) ?_
      refine x_invV (As := [.int 4]) (st := []) (pc := 33) dX1_readPart_33 lRX1_51 fX7_fail vX7_fail okl1 rfl (Nat.le_of_ble_eq_true rfl) (q_R (by omega) (by decide)) (q_C hnn hzz (by decide) (by decide)) (sn_X7_fail G (d + 4) l1 4 h3 _ okl1 hwp) (k_b (fun r29 h28 hwp zbr29 cxh28 => ?_))
      have hex := hex.tr cxh28.1
      have hnn : qn h28 = qn h + 0 := by have := cxh28.2.1; omega
      have hzz : qz h28 = qz h + 0 := by have := cxh28.2.2; omega
      have okl0 := okl0.ex cxh28.1
      have okl1 := okl1.ex cxh28.1
      have okb6 := okb6.ex cxh28.1
      exact x_zret (pc := 36) dX1_readPart_36 rfl hex hnn hzz hwp.1 ⟨_, rfl, hwp.1, hwp.2⟩
  · have hwp := hwp.2 c5
    refine x_aload_n (pc := 13) dX1_readPart_13 rfl ?_
    refine x_iconst (v := 1) (pc := 14) dX1_readPart_14 (by decide) ?_
    refine x_invV (As := [.int 1]) (st := []) (pc := 15) dX1_readPart_15 lRX1_51 fX7_fail vX7_fail okl1 rfl (Nat.le_of_ble_eq_true rfl) (q_R (by omega) (by decide)) (q_C hnn hzz (by decide) (by decide)) (sn_X7_fail G (d + 4) l1 1 h3 _ okl1 hwp) (k_b (fun r32 h31 hwp zbr32 cxh31 => ?_))
    have hex := hex.tr cxh31.1
    have hnn : qn h31 = qn h + 0 := by have := cxh31.2.1; omega
    have hzz : qz h31 = qz h + 0 := by have := cxh31.2.2; omega
    have okl0 := okl0.ex cxh31.1
    have okl1 := okl1.ex cxh31.1
    exact x_zret (pc := 18) dX1_readPart_18 rfl hex hnn hzz hwp.1 ⟨_, rfl, hwp.1, hwp.2⟩

theorem dX1_readFrom_0 : decode cX1_readFrom 0 = .ok (.aload_n 0, 1) := by decide +kernel
theorem dX1_readFrom_1 : decode cX1_readFrom 1 = .ok (.iconst 0, 1) := by decide +kernel
theorem dX1_readFrom_2 : decode cX1_readFrom 2 = .ok (.putfield 17, 3) := by decide +kernel
theorem dX1_readFrom_5 : decode cX1_readFrom 5 = .ok (.aload_n 0, 1) := by decide +kernel
theorem dX1_readFrom_6 : decode cX1_readFrom 6 = .ok (.bipush 24, 2) := by decide +kernel
theorem dX1_readFrom_8 : decode cX1_readFrom 8 = .ok (.putfield 21, 3) := by decide +kernel
theorem dX1_readFrom_11 : decode cX1_readFrom 11 = .ok (.aload_n 0, 1) := by decide +kernel
theorem dX1_readFrom_12 : decode cX1_readFrom 12 = .ok (.iconst 0, 1) := by decide +kernel
theorem dX1_readFrom_13 : decode cX1_readFrom 13 = .ok (.putfield 24, 3) := by decide +kernel
theorem dX1_readFrom_16 : decode cX1_readFrom 16 = .ok (.aload_n 1, 1) := by decide +kernel
theorem dX1_readFrom_17 : decode cX1_readFrom 17 = .ok (.getstatic 28, 3) := by decide +kernel
theorem dX1_readFrom_20 : decode cX1_readFrom 20 = .ok (.invokevirtual 34, 3) := by decide +kernel
theorem dX1_readFrom_23 : decode cX1_readFrom 23 = .ok (.ifCond .eq 13, 3) := by decide +kernel
theorem dX1_readFrom_26 : decode cX1_readFrom 26 = .ok (.aload_n 0, 1) := by decide +kernel
theorem dX1_readFrom_27 : decode cX1_readFrom 27 = .ok (.aload_n 1, 1) := by decide +kernel
theorem dX1_readFrom_28 : decode cX1_readFrom 28 = .ok (.invokevirtual 40, 3) := by decide +kernel
theorem dX1_readFrom_31 : decode cX1_readFrom 31 = .ok (.ifCond .ne 5, 3) := by decide +kernel
theorem dX1_readFrom_34 : decode cX1_readFrom 34 = .ok (.iconst 0, 1) := by decide +kernel
theorem dX1_readFrom_35 : decode cX1_readFrom 35 = .ok (.ireturn, 1) := by decide +kernel
theorem dX1_readFrom_36 : decode cX1_readFrom 36 = .ok (.iconst 0, 1) := by decide +kernel
theorem dX1_readFrom_37 : decode cX1_readFrom 37 = .ok (.istore_n 2, 1) := by decide +kernel
theorem dX1_readFrom_38 : decode cX1_readFrom 38 = .ok (.iconst 0, 1) := by decide +kernel
theorem dX1_readFrom_39 : decode cX1_readFrom 39 = .ok (.istore_n 3, 1) := by decide +kernel
theorem dX1_readFrom_40 : decode cX1_readFrom 40 = .ok (.iload_n 3, 1) := by decide +kernel
theorem dX1_readFrom_41 : decode cX1_readFrom 41 = .ok (.sipush 640, 3) := by decide +kernel
theorem dX1_readFrom_44 : decode cX1_readFrom 44 = .ok (.if_icmp .ge 81, 3) := by decide +kernel
theorem dX1_readFrom_47 : decode cX1_readFrom 47 = .ok (.aload_n 1, 1) := by decide +kernel
theorem dX1_readFrom_48 : decode cX1_readFrom 48 = .ok (.invokevirtual 44, 3) := by decide +kernel
theorem dX1_readFrom_51 : decode cX1_readFrom 51 = .ok (.ifCond .ne 74, 3) := by decide +kernel
theorem dX1_readFrom_54 : decode cX1_readFrom 54 = .ok (.aload_n 1, 1) := by decide +kernel
theorem dX1_readFrom_55 : decode cX1_readFrom 55 = .ok (.getstatic 48, 3) := by decide +kernel
theorem dX1_readFrom_58 : decode cX1_readFrom 58 = .ok (.invokevirtual 34, 3) := by decide +kernel
theorem dX1_readFrom_61 : decode cX1_readFrom 61 = .ok (.istore 4, 2) := by decide +kernel
theorem dX1_readFrom_63 : decode cX1_readFrom 63 = .ok (.iload 4, 2) := by decide +kernel
theorem dX1_readFrom_65 : decode cX1_readFrom 65 = .ok (.ifCond .eq 13, 3) := by decide +kernel
theorem dX1_readFrom_68 : decode cX1_readFrom 68 = .ok (.iload_n 2, 1) := by decide +kernel
theorem dX1_readFrom_69 : decode cX1_readFrom 69 = .ok (.ifCond .eq 9, 3) := by decide +kernel
theorem dX1_readFrom_72 : decode cX1_readFrom 72 = .ok (.aload_n 1, 1) := by decide +kernel
theorem dX1_readFrom_73 : decode cX1_readFrom 73 = .ok (.iconst 3, 1) := by decide +kernel
theorem dX1_readFrom_74 : decode cX1_readFrom 74 = .ok (.invokevirtual 51, 3) := by decide +kernel
theorem dX1_readFrom_77 : decode cX1_readFrom 77 = .ok (.ireturn, 1) := by decide +kernel
theorem dX1_readFrom_78 : decode cX1_readFrom 78 = .ok (.iload_n 2, 1) := by decide +kernel
theorem dX1_readFrom_79 : decode cX1_readFrom 79 = .ok (.iload 4, 2) := by decide +kernel
theorem dX1_readFrom_81 : decode cX1_readFrom 81 = .ok (.ior, 1) := by decide +kernel
theorem dX1_readFrom_82 : decode cX1_readFrom 82 = .ok (.istore_n 2, 1) := by decide +kernel
theorem dX1_readFrom_83 : decode cX1_readFrom 83 = .ok (.iload 4, 2) := by decide +kernel
theorem dX1_readFrom_85 : decode cX1_readFrom 85 = .ok (.ifCond .eq 11, 3) := by decide +kernel
theorem dX1_readFrom_88 : decode cX1_readFrom 88 = .ok (.aload_n 0, 1) := by decide +kernel
theorem dX1_readFrom_89 : decode cX1_readFrom 89 = .ok (.aload_n 1, 1) := by decide +kernel
theorem dX1_readFrom_90 : decode cX1_readFrom 90 = .ok (.invokevirtual 55, 3) := by decide +kernel
theorem dX1_readFrom_93 : decode cX1_readFrom 93 = .ok (.goto 8, 3) := by decide +kernel
theorem dX1_readFrom_96 : decode cX1_readFrom 96 = .ok (.aload_n 0, 1) := by decide +kernel
theorem dX1_readFrom_97 : decode cX1_readFrom 97 = .ok (.aload_n 1, 1) := by decide +kernel
theorem dX1_readFrom_98 : decode cX1_readFrom 98 = .ok (.invokevirtual 58, 3) := by decide +kernel
theorem dX1_readFrom_101 : decode cX1_readFrom 101 = .ok (.istore 5, 2) := by decide +kernel
theorem dX1_readFrom_103 : decode cX1_readFrom 103 = .ok (.iload 5, 2) := by decide +kernel
theorem dX1_readFrom_105 : decode cX1_readFrom 105 = .ok (.ifCond .eq 12, 3) := by decide +kernel
theorem dX1_readFrom_108 : decode cX1_readFrom 108 = .ok (.aload_n 1, 1) := by decide +kernel
theorem dX1_readFrom_109 : decode cX1_readFrom 109 = .ok (.bipush 59, 2) := by decide +kernel
theorem dX1_readFrom_111 : decode cX1_readFrom 111 = .ok (.invokevirtual 61, 3) := by decide +kernel
theorem dX1_readFrom_114 : decode cX1_readFrom 114 = .ok (.ifCond .ne 5, 3) := by decide +kernel
theorem dX1_readFrom_117 : decode cX1_readFrom 117 = .ok (.iconst 0, 1) := by decide +kernel
theorem dX1_readFrom_118 : decode cX1_readFrom 118 = .ok (.ireturn, 1) := by decide +kernel
theorem dX1_readFrom_119 : decode cX1_readFrom 119 = .ok (.iinc 3 1, 3) := by decide +kernel
theorem dX1_readFrom_122 : decode cX1_readFrom 122 = .ok (.goto (-82), 3) := by decide +kernel
theorem dX1_readFrom_125 : decode cX1_readFrom 125 = .ok (.aload_n 1, 1) := by decide +kernel
theorem dX1_readFrom_126 : decode cX1_readFrom 126 = .ok (.invokevirtual 64, 3) := by decide +kernel
theorem dX1_readFrom_129 : decode cX1_readFrom 129 = .ok (.ireturn, 1) := by decide +kernel
def E_X1_readFrom_40 (G : GT) (d : Nat) (h0 hb : PH) (l0 : Nat) (l1 : Nat) (Q : Int32 → PH → Prop) (s : Int32 × Int32 × PH) : Prop := qEx hb s.2.2 ∧ qn s.2.2 = qn hb ∧ qz s.2.2 = qz hb → Ex G (qrm (6 + d) 0 0) mX1_readFrom (qn h0) (qz h0) (ZN G h0 0 0 (qqb Q)) 40 [(0, .ref l0), (1, .ref l1), (2, .int s.1), (3, .int s.2.1)] [] s.2.2
def wp_X1_readFrom_101 (l0 : Nat) (l1 : Nat) (l2 : Int32) (l3 : Int32) (s0 : Int32) (bk40 : Int32 × Int32 × PH → Prop) (h : PH) (Q : Int32 → PH → Prop) : Prop := ((s0 = 0 → Q 0 h) ∧ (¬ (s0 = 0) → (wp_X7_takeSign l1 59 h (fun r35 h34 => ((¬ r35 = 0 → ∀ v37 : Int32, v37 = l3 + 1 → bk40 (l2, v37, h34)) ∧ (r35 = 0 → Q 0 h34))))))
set_option maxHeartbeats 4000000 in
set_option maxRecDepth 100000 in
theorem sg_X1_readFrom_101 (G : GT) (d : Nat) (h0 : PH) (l0 : Nat) (l1 : Nat) (l2 : Int32) (l3 : Int32) (s0 : Int32) (h : PH) (Q : Int32 → PH → Prop) (hb40 : PH) (bk40 : Int32 × Int32 × PH → Prop) (hbk40 : ∀ s2, bk40 s2 → E_X1_readFrom_40 G d h0 hb40 l0 l1 Q s2) (hx40 : qEx hb40 h) (hn40 : qn h = qn hb40) (hz40 : qz h = qz hb40) (hex : qEx h0 h) (hnn : qn h = qn h0 + 0) (hzz : qz h = qz h0 + 0) (okl0 : qOK h 1 l0) (okl1 : qOK h 7 l1) (hwp : wp_X1_readFrom_101 l0 l1 l2 l3 s0 bk40 h Q) : Ex G (qrm (6 + d) 0 0) mX1_readFrom (qn h0) (qz h0) (ZN G h0 0 0 (qqb Q)) 101 [(0, .ref l0), (1, .ref l1), (2, .int l2), (3, .int l3)] [.int s0] h := by
  unfold wp_X1_readFrom_101 at hwp
  refine x_istore (lv2 := [(5, .int s0), (0, .ref l0), (1, .ref l1), (2, .int l2), (3, .int l3)]) (pc := 101) dX1_readFrom_101 (by decide) rfl ?_
  refine x_iload (pc := 103) dX1_readFrom_103 rfl ?_
  refine x_if_eq (tgt := 117) (pc := 105) dX1_readFrom_105 (by decide) (fun c33 => ?_) (fun c33 => ?_)
  · have hwp := hwp.1 c33
    refine x_iconst (v := 0) (pc := 117) dX1_readFrom_117 (by decide) ?_
    exact x_zret (pc := 118) dX1_readFrom_118 rfl hex hnn hzz (by decide) ⟨_, rfl, by decide, hwp⟩
  · have hwp := hwp.2 c33
    refine x_aload_n (pc := 108) dX1_readFrom_108 rfl ?_
    refine x_bipush (v := 59) (pc := 109) dX1_readFrom_109 (by decide) ?_
    refine x_invV (As := [.int 59]) (st := []) (pc := 111) dX1_readFrom_111 lRX1_61 fX7_takeSign vX7_takeSign okl1 rfl (Nat.le_of_ble_eq_true rfl) (q_R (by omega) (by decide)) (q_C hnn hzz (by decide) (by decide)) (sn_X7_takeSign G (d + 4) l1 59 h _ okl1 hwp) (k_b (fun r35 h34 hwp zbr35 cxh34 => ?_))
    have hex := hex.tr cxh34.1
    have hnn : qn h34 = qn h0 + 0 := by have := cxh34.2.1; omega
    have hzz : qz h34 = qz h0 + 0 := by have := cxh34.2.2; omega
    have hx40 := hx40.tr cxh34.1
    have hn40 : qn h34 = qn hb40 := by have := cxh34.2.1; omega
    have hz40 : qz h34 = qz hb40 := by have := cxh34.2.2; omega
    have okl0 := okl0.ex cxh34.1
    have okl1 := okl1.ex cxh34.1
    refine x_if_ne (tgt := 119) (pc := 114) dX1_readFrom_114 (by decide) (fun c36 => ?_) (fun c36 => ?_)
    · have hwp := hwp.1 c36
      refine y_iinc (c := 1) (pc := 119) dX1_readFrom_119 rfl (by decide) (by decide) (fun v37 ev37 => ?_)
      have hwp := hwp v37 ev37
      refine x_lvE (lv2 := [(3, .int v37), (5, .int s0), (0, .ref l0), (1, .ref l1), (2, .int l2)]) rfl ?_
      refine x_goto (tgt := 40) (pc := 122) dX1_readFrom_122 (by decide) ?_
      refine x_sub [2, 3, 4, 0] rfl ?_
      exact hbk40 _ hwp ⟨hx40, hn40, hz40⟩
    · have hwp := hwp.2 c36
      refine x_iconst (v := 0) (pc := 117) dX1_readFrom_117 (by decide) ?_
      exact x_zret (pc := 118) dX1_readFrom_118 rfl hex hnn hzz (by decide) ⟨_, rfl, by decide, hwp⟩
def wp_X1_readFrom_78 (l0 : Nat) (l1 : Nat) (l2 : Int32) (l3 : Int32) (l4 : Int32) (bk40 : Int32 × Int32 × PH → Prop) (h : PH) (Q : Int32 → PH → Prop) : Prop := ∀ v27 : Int32, v27 = l2 ||| l4 → ((l4 = 0 → (wp_X1_readPart l0 l1 h (fun r30 h29 => (wp_X1_readFrom_101 l0 l1 v27 l3 r30 bk40 h29 Q)))) ∧ (¬ (l4 = 0) → (wp_X1_readRub l0 l1 h (fun r32 h31 => (wp_X1_readFrom_101 l0 l1 v27 l3 r32 bk40 h31 Q)))))
set_option maxHeartbeats 4000000 in
set_option maxRecDepth 100000 in
theorem sg_X1_readFrom_78 (G : GT) (d : Nat) (h0 : PH) (l0 : Nat) (l1 : Nat) (l2 : Int32) (l3 : Int32) (l4 : Int32) (h : PH) (Q : Int32 → PH → Prop) (hb40 : PH) (bk40 : Int32 × Int32 × PH → Prop) (hbk40 : ∀ s2, bk40 s2 → E_X1_readFrom_40 G d h0 hb40 l0 l1 Q s2) (hx40 : qEx hb40 h) (hn40 : qn h = qn hb40) (hz40 : qz h = qz hb40) (hex : qEx h0 h) (hnn : qn h = qn h0 + 0) (hzz : qz h = qz h0 + 0) (okl0 : qOK h 1 l0) (okl1 : qOK h 7 l1) (hwp : wp_X1_readFrom_78 l0 l1 l2 l3 l4 bk40 h Q) : Ex G (qrm (6 + d) 0 0) mX1_readFrom (qn h0) (qz h0) (ZN G h0 0 0 (qqb Q)) 78 [(0, .ref l0), (1, .ref l1), (2, .int l2), (3, .int l3), (4, .int l4)] [] h := by
  unfold wp_X1_readFrom_78 at hwp
  refine x_iload_n (pc := 78) dX1_readFrom_78 rfl ?_
  refine x_iload (pc := 79) dX1_readFrom_79 rfl ?_
  refine x_ior (pc := 81) dX1_readFrom_81 ?_
  refine x_nmI (fun v27 ev27 => ?_)
  have hwp := hwp v27 ev27
  refine x_istore_n (lv2 := [(2, .int v27), (0, .ref l0), (1, .ref l1), (3, .int l3), (4, .int l4)]) (pc := 82) dX1_readFrom_82 (by decide) rfl ?_
  refine x_iload (pc := 83) dX1_readFrom_83 rfl ?_
  refine x_if_eq (tgt := 96) (pc := 85) dX1_readFrom_85 (by decide) (fun c28 => ?_) (fun c28 => ?_)
  · have hwp := hwp.1 c28
    refine x_aload_n (pc := 96) dX1_readFrom_96 rfl ?_
    refine x_aload_n (pc := 97) dX1_readFrom_97 rfl ?_
    refine x_invV (As := [.ref l1]) (st := []) (pc := 98) dX1_readFrom_98 lRX1_58 fX1_readPart vX1_readPart okl0 rfl (Nat.le_of_ble_eq_true rfl) (q_R (by omega) (by decide)) (q_C hnn hzz (by decide) (by decide)) (sn_X1_readPart G (d + 0) l0 l1 h _ okl0 okl1 hwp) (k_b (fun r30 h29 hwp zbr30 cxh29 => ?_))
    have hex := hex.tr cxh29.1
    have hnn : qn h29 = qn h0 + 0 := by have := cxh29.2.1; omega
    have hzz : qz h29 = qz h0 + 0 := by have := cxh29.2.2; omega
    have hx40 := hx40.tr cxh29.1
    have hn40 : qn h29 = qn hb40 := by have := cxh29.2.1; omega
    have hz40 : qz h29 = qz hb40 := by have := cxh29.2.2; omega
    have okl0 := okl0.ex cxh29.1
    have okl1 := okl1.ex cxh29.1
    refine x_sub [1, 2, 0, 3] rfl ?_
    exact sg_X1_readFrom_101 G d h0 l0 l1 v27 l3 r30 h29 Q hb40 bk40 hbk40 hx40 hn40 hz40 hex hnn hzz okl0 okl1 hwp
  · have hwp := hwp.2 c28
    refine x_aload_n (pc := 88) dX1_readFrom_88 rfl ?_
    refine x_aload_n (pc := 89) dX1_readFrom_89 rfl ?_
    refine x_invV (As := [.ref l1]) (st := []) (pc := 90) dX1_readFrom_90 lRX1_55 fX1_readRub vX1_readRub okl0 rfl (Nat.le_of_ble_eq_true rfl) (q_R (by omega) (by decide)) (q_C hnn hzz (by decide) (by decide)) (sn_X1_readRub G (d + 3) l0 l1 h _ okl0 okl1 hwp) (k_b (fun r32 h31 hwp zbr32 cxh31 => ?_))
    have hex := hex.tr cxh31.1
    have hnn : qn h31 = qn h0 + 0 := by have := cxh31.2.1; omega
    have hzz : qz h31 = qz h0 + 0 := by have := cxh31.2.2; omega
    have hx40 := hx40.tr cxh31.1
    have hn40 : qn h31 = qn hb40 := by have := cxh31.2.1; omega
    have hz40 : qz h31 = qz hb40 := by have := cxh31.2.2; omega
    have okl0 := okl0.ex cxh31.1
    have okl1 := okl1.ex cxh31.1
    refine x_goto (tgt := 101) (pc := 93) dX1_readFrom_93 (by decide) ?_
    refine x_sub [1, 2, 0, 3] rfl ?_
    exact sg_X1_readFrom_101 G d h0 l0 l1 v27 l3 r32 h31 Q hb40 bk40 hbk40 hx40 hn40 hz40 hex hnn hzz okl0 okl1 hwp
def wb_X1_readFrom_40 (l0 : Nat) (l1 : Nat)  (Q : Int32 → PH → Prop) (bk40 : Int32 × Int32 × PH → Prop) (l2 : Int32) (l3 : Int32) (h : PH) : Prop := ((640 ≤ l3 → (wp_X7_takeEnd l1 h (fun r12 h11 => ((r12 = 0 ∨ r12 = 1) ∧ Q r12 h11)))) ∧ (¬ (640 ≤ l3) → (wp_X7_isEnd l1 h (fun r15 h14 => ((¬ r15 = 0 → (wp_X7_takeEnd l1 h14 (fun r18 h17 => ((r18 = 0 ∨ r18 = 1) ∧ Q r18 h17)))) ∧ (r15 = 0 → (wp_X7_isWord l1 (wd 1) h14 (fun r21 h20 => ((r21 = 0 → (wp_X1_readFrom_78 l0 l1 l2 l3 r21 bk40 h20 Q)) ∧ (¬ (r21 = 0) → ((l2 = 0 → (wp_X1_readFrom_78 l0 l1 l2 l3 r21 bk40 h20 Q)) ∧ (¬ (l2 = 0) → (wp_X7_fail l1 3 h20 (fun r25 h24 => ((r25 = 0 ∨ r25 = 1) ∧ Q r25 h24)))))))))))))))
def wp_X1_readFrom_40 (l0 : Nat) (l1 : Nat)  (Q : Int32 → PH → Prop) (bk40 : Int32 × Int32 × PH → Prop) (s : Int32 × Int32 × PH) : Prop := wb_X1_readFrom_40 l0 l1 Q bk40 s.1 s.2.1 s.2.2
set_option maxHeartbeats 4000000 in
set_option maxRecDepth 100000 in
theorem bd_X1_readFrom_40 (G : GT) (d : Nat) (h0 hb : PH) (l0 : Nat) (l1 : Nat) (Q : Int32 → PH → Prop)  (hex : qEx h0 hb) (hnn : qn hb = qn h0 + 0) (hzz : qz hb = qz h0 + 0) (okl0 : qOK hb 1 l0) (okl1 : qOK hb 7 l1) (bk40 : Int32 × Int32 × PH → Prop) (hbk40 : ∀ s2, bk40 s2 → E_X1_readFrom_40 G d h0 hb l0 l1 Q s2) (l2 : Int32) (l3 : Int32) (h : PH) (hwp : wb_X1_readFrom_40 l0 l1 Q bk40 l2 l3 h) (hx40 : qEx hb h) (hn40 : qn h = qn hb) (hz40 : qz h = qz hb) : Ex G (qrm (6 + d) 0 0) mX1_readFrom (qn h0) (qz h0) (ZN G h0 0 0 (qqb Q)) 40 [(0, .ref l0), (1, .ref l1), (2, .int l2), (3, .int l3)] [] h := by
  unfold wb_X1_readFrom_40 at hwp
  have hex := hex.tr hx40
  have hnn := hn40.trans hnn
  have hzz := hz40.trans hzz
  have okl0 := okl0.ex hx40
  have okl1 := okl1.ex hx40
  refine x_iload_n (pc := 40) dX1_readFrom_40 rfl ?_
  refine x_sipush (v := 640) (pc := 41) dX1_readFrom_41 (by decide) ?_
  refine x_icmp_ge (tgt := 125) (pc := 44) dX1_readFrom_44 (by decide) (fun c10 => ?_) (fun c10 => ?_)
  · have hwp := hwp.1 c10
    refine x_aload_n (pc := 125) dX1_readFrom_125 rfl ?_
    refine x_invV (As := []) (st := []) (pc := 126) dX1_readFrom_126 lRX1_64 fX7_takeEnd vX7_takeEnd okl1 rfl (Nat.le_of_ble_eq_true rfl) (q_R (by omega) (by decide)) (q_C hnn hzz (by decide) (by decide)) (sn_X7_takeEnd G (d + 4) l1 h _ okl1 hwp) (k_b (fun r12 h11 hwp zbr12 cxh11 => ?_))
    have hex := hex.tr cxh11.1
    have hnn : qn h11 = qn h0 + 0 := by have := cxh11.2.1; omega
    have hzz : qz h11 = qz h0 + 0 := by have := cxh11.2.2; omega
    have hx40 := hx40.tr cxh11.1
    have hn40 : qn h11 = qn hb := by have := cxh11.2.1; omega
    have hz40 : qz h11 = qz hb := by have := cxh11.2.2; omega
    have okl0 := okl0.ex cxh11.1
    have okl1 := okl1.ex cxh11.1
    exact x_zret (pc := 129) dX1_readFrom_129 rfl hex hnn hzz hwp.1 ⟨_, rfl, hwp.1, hwp.2⟩
  · have hwp := hwp.2 c10
    refine x_aload_n (pc := 47) dX1_readFrom_47 rfl ?_
    refine x_invV (As := []) (st := []) (pc := 48) dX1_readFrom_48 lRX1_44 fX7_isEnd vX7_isEnd okl1 rfl (Nat.le_of_ble_eq_true rfl) (q_R (by omega) (by decide)) (q_C hnn hzz (by decide) (by decide)) (sn_X7_isEnd G (d + 5) l1 h _ okl1 hwp) (k_b (fun r15 h14 hwp zbr15 cxh14 => ?_))
    have hex := hex.tr cxh14.1
    have hnn : qn h14 = qn h0 + 0 := by have := cxh14.2.1; omega
    have hzz : qz h14 = qz h0 + 0 := by have := cxh14.2.2; omega
    have hx40 := hx40.tr cxh14.1
    have hn40 : qn h14 = qn hb := by have := cxh14.2.1; omega
    have hz40 : qz h14 = qz hb := by have := cxh14.2.2; omega
    have okl0 := okl0.ex cxh14.1
    have okl1 := okl1.ex cxh14.1
    refine x_if_ne (tgt := 125) (pc := 51) dX1_readFrom_51 (by decide) (fun c16 => ?_) (fun c16 => ?_)
    · have hwp := hwp.1 c16
      refine x_aload_n (pc := 125) dX1_readFrom_125 rfl ?_
      refine x_invV (As := []) (st := []) (pc := 126) dX1_readFrom_126 lRX1_64 fX7_takeEnd vX7_takeEnd okl1 rfl (Nat.le_of_ble_eq_true rfl) (q_R (by omega) (by decide)) (q_C hnn hzz (by decide) (by decide)) (sn_X7_takeEnd G (d + 4) l1 h14 _ okl1 hwp) (k_b (fun r18 h17 hwp zbr18 cxh17 => ?_))
      have hex := hex.tr cxh17.1
      have hnn : qn h17 = qn h0 + 0 := by have := cxh17.2.1; omega
      have hzz : qz h17 = qz h0 + 0 := by have := cxh17.2.2; omega
      have hx40 := hx40.tr cxh17.1
      have hn40 : qn h17 = qn hb := by have := cxh17.2.1; omega
      have hz40 : qz h17 = qz hb := by have := cxh17.2.2; omega
      have okl0 := okl0.ex cxh17.1
      have okl1 := okl1.ex cxh17.1
      exact x_zret (pc := 129) dX1_readFrom_129 rfl hex hnn hzz hwp.1 ⟨_, rfl, hwp.1, hwp.2⟩
    · have hwp := hwp.2 c16
      refine x_aload_n (pc := 54) dX1_readFrom_54 rfl ?_
      refine x_gets (pc := 55) dX1_readFrom_55 (by decide) gRX1_48 ?_
      refine x_invV (As := [.ref (wd 1)]) (st := []) (pc := 58) dX1_readFrom_58 lRX1_34 fX7_isWord vX7_isWord okl1 rfl (Nat.le_of_ble_eq_true rfl) (q_R (by omega) (by decide)) (q_C hnn hzz (by decide) (by decide)) (sn_X7_isWord G (d + 5) l1 (wd 1) h14 _ okl1 hwp) (k_b (fun r21 h20 hwp zbr21 cxh20 => ?_))
      have hex := hex.tr cxh20.1
      have hnn : qn h20 = qn h0 + 0 := by have := cxh20.2.1; omega
      have hzz : qz h20 = qz h0 + 0 := by have := cxh20.2.2; omega
      have hx40 := hx40.tr cxh20.1
      have hn40 : qn h20 = qn hb := by have := cxh20.2.1; omega
      have hz40 : qz h20 = qz hb := by have := cxh20.2.2; omega
      have okl0 := okl0.ex cxh20.1
      have okl1 := okl1.ex cxh20.1
      refine x_istore (lv2 := [(4, .int r21), (0, .ref l0), (1, .ref l1), (2, .int l2), (3, .int l3)]) (pc := 61) dX1_readFrom_61 (by decide) rfl ?_
      refine x_iload (pc := 63) dX1_readFrom_63 rfl ?_
      refine x_if_eq (tgt := 78) (pc := 65) dX1_readFrom_65 (by decide) (fun c22 => ?_) (fun c22 => ?_)
      · have hwp := hwp.1 c22
        refine x_sub [1, 2, 3, 4, 0] rfl ?_
        exact sg_X1_readFrom_78 G d h0 l0 l1 l2 l3 r21 h20 Q hb bk40 hbk40 hx40 hn40 hz40 hex hnn hzz okl0 okl1 hwp
      · have hwp := hwp.2 c22
        refine x_iload_n (pc := 68) dX1_readFrom_68 rfl ?_
        refine x_if_eq (tgt := 78) (pc := 69) dX1_readFrom_69 (by decide) (fun c23 => ?_) (fun c23 => ?_)
        · have hwp := hwp.1 c23
          refine x_sub [1, 2, 3, 4, 0] rfl ?_
          exact sg_X1_readFrom_78 G d h0 l0 l1 l2 l3 r21 h20 Q hb bk40 hbk40 hx40 hn40 hz40 hex hnn hzz okl0 okl1 hwp
        · have hwp := hwp.2 c23
          refine x_aload_n (pc := 72) dX1_readFrom_72 rfl ?_
          refine x_iconst (v := 3) (pc := 73) dX1_readFrom_73 (by decide) ?_
          refine x_invV (As := [.int 3]) (st := []) (pc := 74) dX1_readFrom_74 lRX1_51 fX7_fail vX7_fail okl1 rfl (Nat.le_of_ble_eq_true rfl) (q_R (by omega) (by decide)) (q_C hnn hzz (by decide) (by decide)) (sn_X7_fail G (d + 5) l1 3 h20 _ okl1 hwp) (k_b (fun r25 h24 hwp zbr25 cxh24 => ?_))
          have hex := hex.tr cxh24.1
          have hnn : qn h24 = qn h0 + 0 := by have := cxh24.2.1; omega
          have hzz : qz h24 = qz h0 + 0 := by have := cxh24.2.2; omega
          have hx40 := hx40.tr cxh24.1
          have hn40 : qn h24 = qn hb := by have := cxh24.2.1; omega
          have hz40 : qz h24 = qz hb := by have := cxh24.2.2; omega
          have okl0 := okl0.ex cxh24.1
          have okl1 := okl1.ex cxh24.1
          exact x_zret (pc := 77) dX1_readFrom_77 rfl hex hnn hzz hwp.1 ⟨_, rfl, hwp.1, hwp.2⟩
theorem lp_X1_readFrom_40 (G : GT) (d : Nat) (h0 hb : PH) (l0 : Nat) (l1 : Nat) (Q : Int32 → PH → Prop)  (hex : qEx h0 hb) (hnn : qn hb = qn h0 + 0) (hzz : qz hb = qz h0 + 0) (okl0 : qOK hb 1 l0) (okl1 : qOK hb 7 l1) {s : Int32 × Int32 × PH} (hwp : qLoop (wp_X1_readFrom_40 l0 l1 Q) s) : E_X1_readFrom_40 G d h0 hb l0 l1 Q s :=
  qLoop.use (E := E_X1_readFrom_40 G d h0 hb l0 l1 Q) (fun back s hbk hw hx => bd_X1_readFrom_40 G d h0 hb l0 l1 Q hex hnn hzz okl0 okl1 back hbk s.1 s.2.1 s.2.2 hw hx.1 hx.2.1 hx.2.2) hwp
def wp_X1_readFrom (l0 : Nat) (l1 : Nat) (h : PH) (Q : Int32 → PH → Prop) : Prop := (∀ h1, h1 = qsI h l0 1 0 → (∀ h2, h2 = qsI h1 l0 2 24 → (∀ h3, h3 = qsI h2 l0 3 0 → (wp_X7_isWord l1 (wd 0) h3 (fun r5 h4 => ((r5 = 0 → (qLoop (wp_X1_readFrom_40 l0 l1 Q) (0, 0, h4))) ∧ (¬ (r5 = 0) → (wp_X1_readTurn l0 l1 h4 (fun r8 h7 => ((¬ r8 = 0 → (qLoop (wp_X1_readFrom_40 l0 l1 Q) (0, 0, h7))) ∧ (r8 = 0 → Q 0 h7)))))))))))
set_option maxHeartbeats 4000000 in
set_option maxRecDepth 100000 in
theorem sn_X1_readFrom (G : GT) (d : Nat) (l0 : Nat) (l1 : Nat) (h : PH) (Q : Int32 → PH → Prop) (okl0 : qOK h 1 l0) (okl1 : qOK h 7 l1) (hwp : wp_X1_readFrom l0 l1 h Q) : Mt G (6 + d) 0 0 mX1_readFrom [.ref l0, .ref l1] h (qqb Q) := by
  unfold wp_X1_readFrom at hwp
  refine Mt.of (by decide) rfl (Nat.le_of_ble_eq_true rfl) ?_
  have hex := qEx.rf h
  have hnn : qn h = qn h + 0 := rfl
  have hzz : qz h = qz h + 0 := rfl
  refine x_lvE (lv2 := [(0, .ref l0), (1, .ref l1)]) rfl ?_
  refine x_aload_n (pc := 0) dX1_readFrom_0 rfl ?_
  refine x_iconst (v := 0) (pc := 1) dX1_readFrom_1 (by decide) ?_
  refine y_putI (pc := 2) dX1_readFrom_2 qRX1_17 okl0 (fun h1 eh1 nxh1 => ?_)
  have hwp := hwp h1 eh1
  have hex := hex.tr nxh1.1
  have hnn := nxh1.2.1.trans hnn
  have hzz := nxh1.2.2.trans hzz
  have okl0 := okl0.ex nxh1.1
  have okl1 := okl1.ex nxh1.1
  refine x_aload_n (pc := 5) dX1_readFrom_5 rfl ?_
  refine x_bipush (v := 24) (pc := 6) dX1_readFrom_6 (by decide) ?_
  refine y_putI (pc := 8) dX1_readFrom_8 qRX1_21 okl0 (fun h2 eh2 nxh2 => ?_)
  have hwp := hwp h2 eh2
  have hex := hex.tr nxh2.1
  have hnn := nxh2.2.1.trans hnn
  have hzz := nxh2.2.2.trans hzz
  have okl0 := okl0.ex nxh2.1
  have okl1 := okl1.ex nxh2.1
  refine x_aload_n (pc := 11) dX1_readFrom_11 rfl ?_
  refine x_iconst (v := 0) (pc := 12) dX1_readFrom_12 (by decide) ?_
  refine y_putI (pc := 13) dX1_readFrom_13 qRX1_24 okl0 (fun h3 eh3 nxh3 => ?_)
  have hwp := hwp h3 eh3
  have hex := hex.tr nxh3.1
  have hnn := nxh3.2.1.trans hnn
  have hzz := nxh3.2.2.trans hzz
  have okl0 := okl0.ex nxh3.1
  have okl1 := okl1.ex nxh3.1
  refine x_aload_n (pc := 16) dX1_readFrom_16 rfl ?_
  refine x_gets (pc := 17) dX1_readFrom_17 (by decide) gRX1_28 ?_
  refine x_invV (As := [.ref (wd 0)]) (st := []) (pc := 20) dX1_readFrom_20 lRX1_34 fX7_isWord vX7_isWord okl1 rfl (Nat.le_of_ble_eq_true rfl) (q_R (by omega) (by decide)) (q_C hnn hzz (by decide) (by decide)) (sn_X7_isWord G (d + 5) l1 (wd 0) h3 _ okl1 hwp) (k_b (fun r5 h4 hwp zbr5 cxh4 => ?_))
  have hex := hex.tr cxh4.1
  have hnn : qn h4 = qn h + 0 := by have := cxh4.2.1; omega
  have hzz : qz h4 = qz h + 0 := by have := cxh4.2.2; omega
  have okl0 := okl0.ex cxh4.1
  have okl1 := okl1.ex cxh4.1
  refine x_if_eq (tgt := 36) (pc := 23) dX1_readFrom_23 (by decide) (fun c6 => ?_) (fun c6 => ?_)
  · have hwp := hwp.1 c6
    refine x_iconst (v := 0) (pc := 36) dX1_readFrom_36 (by decide) ?_
    refine x_istore_n (lv2 := [(2, .int 0), (0, .ref l0), (1, .ref l1)]) (pc := 37) dX1_readFrom_37 (by decide) rfl ?_
    refine x_iconst (v := 0) (pc := 38) dX1_readFrom_38 (by decide) ?_
    refine x_istore_n (lv2 := [(3, .int 0), (2, .int 0), (0, .ref l0), (1, .ref l1)]) (pc := 39) dX1_readFrom_39 (by decide) rfl ?_
    refine x_sub [2, 3, 1, 0] rfl ?_
    exact lp_X1_readFrom_40 G d h h4 l0 l1 Q hex hnn hzz okl0 okl1 hwp ⟨qEx.rf _, rfl, rfl⟩
  · have hwp := hwp.2 c6
    refine x_aload_n (pc := 26) dX1_readFrom_26 rfl ?_
    refine x_aload_n (pc := 27) dX1_readFrom_27 rfl ?_
    refine x_invV (As := [.ref l1]) (st := []) (pc := 28) dX1_readFrom_28 lRX1_40 fX1_readTurn vX1_readTurn okl0 rfl (Nat.le_of_ble_eq_true rfl) (q_R (by omega) (by decide)) (q_C hnn hzz (by decide) (by decide)) (sn_X1_readTurn G (d + 3) l0 l1 h4 _ okl0 okl1 hwp) (k_b (fun r8 h7 hwp zbr8 cxh7 => ?_))
    have hex := hex.tr cxh7.1
    have hnn : qn h7 = qn h + 0 := by have := cxh7.2.1; omega
    have hzz : qz h7 = qz h + 0 := by have := cxh7.2.2; omega
    have okl0 := okl0.ex cxh7.1
    have okl1 := okl1.ex cxh7.1
    refine x_if_ne (tgt := 36) (pc := 31) dX1_readFrom_31 (by decide) (fun c9 => ?_) (fun c9 => ?_)
    · have hwp := hwp.1 c9
      refine x_iconst (v := 0) (pc := 36) dX1_readFrom_36 (by decide) ?_
      refine x_istore_n (lv2 := [(2, .int 0), (0, .ref l0), (1, .ref l1)]) (pc := 37) dX1_readFrom_37 (by decide) rfl ?_
      refine x_iconst (v := 0) (pc := 38) dX1_readFrom_38 (by decide) ?_
      refine x_istore_n (lv2 := [(3, .int 0), (2, .int 0), (0, .ref l0), (1, .ref l1)]) (pc := 39) dX1_readFrom_39 (by decide) rfl ?_
      refine x_sub [2, 3, 1, 0] rfl ?_
      exact lp_X1_readFrom_40 G d h h7 l0 l1 Q hex hnn hzz okl0 okl1 hwp ⟨qEx.rf _, rfl, rfl⟩
    · have hwp := hwp.2 c9
      refine x_iconst (v := 0) (pc := 34) dX1_readFrom_34 (by decide) ?_
      exact x_zret (pc := 35) dX1_readFrom_35 rfl hex hnn hzz (by decide) ⟨_, rfl, by decide, hwp⟩

theorem dX1_copyFrom_0 : decode cX1_copyFrom 0 = .ok (.aload_n 0, 1) := by decide +kernel
theorem dX1_copyFrom_1 : decode cX1_copyFrom 1 = .ok (.aload_n 1, 1) := by decide +kernel
theorem dX1_copyFrom_2 : decode cX1_copyFrom 2 = .ok (.getfield 17, 3) := by decide +kernel
theorem dX1_copyFrom_5 : decode cX1_copyFrom 5 = .ok (.putfield 17, 3) := by decide +kernel
theorem dX1_copyFrom_8 : decode cX1_copyFrom 8 = .ok (.aload_n 0, 1) := by decide +kernel
theorem dX1_copyFrom_9 : decode cX1_copyFrom 9 = .ok (.aload_n 1, 1) := by decide +kernel
theorem dX1_copyFrom_10 : decode cX1_copyFrom 10 = .ok (.getfield 21, 3) := by decide +kernel
theorem dX1_copyFrom_13 : decode cX1_copyFrom 13 = .ok (.putfield 21, 3) := by decide +kernel
theorem dX1_copyFrom_16 : decode cX1_copyFrom 16 = .ok (.aload_n 0, 1) := by decide +kernel
theorem dX1_copyFrom_17 : decode cX1_copyFrom 17 = .ok (.aload_n 1, 1) := by decide +kernel
theorem dX1_copyFrom_18 : decode cX1_copyFrom 18 = .ok (.getfield 24, 3) := by decide +kernel
theorem dX1_copyFrom_21 : decode cX1_copyFrom 21 = .ok (.putfield 24, 3) := by decide +kernel
theorem dX1_copyFrom_24 : decode cX1_copyFrom 24 = .ok (.iconst 0, 1) := by decide +kernel
theorem dX1_copyFrom_25 : decode cX1_copyFrom 25 = .ok (.istore_n 2, 1) := by decide +kernel
theorem dX1_copyFrom_26 : decode cX1_copyFrom 26 = .ok (.iload_n 2, 1) := by decide +kernel
theorem dX1_copyFrom_27 : decode cX1_copyFrom 27 = .ok (.aload_n 0, 1) := by decide +kernel
theorem dX1_copyFrom_28 : decode cX1_copyFrom 28 = .ok (.getfield 17, 3) := by decide +kernel
theorem dX1_copyFrom_31 : decode cX1_copyFrom 31 = .ok (.if_icmp .ge 24, 3) := by decide +kernel
theorem dX1_copyFrom_34 : decode cX1_copyFrom 34 = .ok (.aload_n 0, 1) := by decide +kernel
theorem dX1_copyFrom_35 : decode cX1_copyFrom 35 = .ok (.getfield 11, 3) := by decide +kernel
theorem dX1_copyFrom_38 : decode cX1_copyFrom 38 = .ok (.iload_n 2, 1) := by decide +kernel
theorem dX1_copyFrom_39 : decode cX1_copyFrom 39 = .ok (.aaload, 1) := by decide +kernel
theorem dX1_copyFrom_40 : decode cX1_copyFrom 40 = .ok (.aload_n 1, 1) := by decide +kernel
theorem dX1_copyFrom_41 : decode cX1_copyFrom 41 = .ok (.getfield 11, 3) := by decide +kernel
theorem dX1_copyFrom_44 : decode cX1_copyFrom 44 = .ok (.iload_n 2, 1) := by decide +kernel
theorem dX1_copyFrom_45 : decode cX1_copyFrom 45 = .ok (.aaload, 1) := by decide +kernel
theorem dX1_copyFrom_46 : decode cX1_copyFrom 46 = .ok (.invokevirtual 171, 3) := by decide +kernel
theorem dX1_copyFrom_49 : decode cX1_copyFrom 49 = .ok (.iinc 2 1, 3) := by decide +kernel
theorem dX1_copyFrom_52 : decode cX1_copyFrom 52 = .ok (.goto (-26), 3) := by decide +kernel
theorem dX1_copyFrom_55 : decode cX1_copyFrom 55 = .ok (.return_, 1) := by decide +kernel
def E_X1_copyFrom_26 (G : GT) (d : Nat) (h0 hb : PH) (l0 : Nat) (l1 : Nat) (Q : PH → Prop) (s : Int32 × PH) : Prop := qEx hb s.2 ∧ qn s.2 = qn hb ∧ qz s.2 = qz hb → Ex G (qrm (1 + d) 0 0) mX1_copyFrom (qn h0) (qz h0) (ZN G h0 0 0 (qqv Q)) 26 [(0, .ref l0), (1, .ref l1), (2, .int s.1)] [] s.2
def wb_X1_copyFrom_26 (l0 : Nat) (l1 : Nat)  (Q : PH → Prop) (bk26 : Int32 × PH → Prop) (l2 : Int32) (h : PH) : Prop := (((qI h l0 1) ≤ l2 → Q h) ∧ (¬ ((qI h l0 1) ≤ l2) → (∃ b5, qR h l0 0 = some b5 ∧ (vp_in l2 (qL h b5) ∧ ∃ b8, qR h b5 l2.toNatClampNeg = some b8 ∧ (∃ b10, qR h l1 0 = some b10 ∧ (vp_in l2 (qL h b10) ∧ ∃ b13, qR h b10 l2.toNatClampNeg = some b13 ∧ (wp_X4_copyFrom b8 b13 h (fun h15 => ∀ v17 : Int32, v17 = l2 + 1 → bk26 (v17, h15)))))))))
def wp_X1_copyFrom_26 (l0 : Nat) (l1 : Nat)  (Q : PH → Prop) (bk26 : Int32 × PH → Prop) (s : Int32 × PH) : Prop := wb_X1_copyFrom_26 l0 l1 Q bk26 s.1 s.2
set_option maxHeartbeats 4000000 in
set_option maxRecDepth 100000 in
theorem bd_X1_copyFrom_26 (G : GT) (d : Nat) (h0 hb : PH) (l0 : Nat) (l1 : Nat) (Q : PH → Prop)  (hex : qEx h0 hb) (hnn : qn hb = qn h0 + 0) (hzz : qz hb = qz h0 + 0) (okl0 : qOK hb 1 l0) (okl1 : qOK hb 1 l1) (bk26 : Int32 × PH → Prop) (hbk26 : ∀ s2, bk26 s2 → E_X1_copyFrom_26 G d h0 hb l0 l1 Q s2) (l2 : Int32) (h : PH) (hwp : wb_X1_copyFrom_26 l0 l1 Q bk26 l2 h) (hx26 : qEx hb h) (hn26 : qn h = qn hb) (hz26 : qz h = qz hb) : Ex G (qrm (1 + d) 0 0) mX1_copyFrom (qn h0) (qz h0) (ZN G h0 0 0 (qqv Q)) 26 [(0, .ref l0), (1, .ref l1), (2, .int l2)] [] h := by
  unfold wb_X1_copyFrom_26 at hwp
  have hex := hex.tr hx26
  have hnn := hn26.trans hnn
  have hzz := hz26.trans hzz
  have okl0 := okl0.ex hx26
  have okl1 := okl1.ex hx26
  refine x_iload_n (pc := 26) dX1_copyFrom_26 rfl ?_
  refine x_aload_n (pc := 27) dX1_copyFrom_27 rfl ?_
  refine x_getI (pc := 28) dX1_copyFrom_28 qRX1_17 okl0 (by decide) ?_
  refine x_icmp_ge (tgt := 55) (pc := 31) dX1_copyFrom_31 (by decide) (fun c4 => ?_) (fun c4 => ?_)
  · have hwp := hwp.1 c4
    exact x_vret (pc := 55) dX1_copyFrom_55 rfl hex hnn hzz ⟨rfl, hwp⟩
  · have hwp := hwp.2 c4
    refine x_aload_n (pc := 34) dX1_copyFrom_34 rfl ?_
    obtain ⟨b5, e6, hwp⟩ := hwp
    refine x_getR (pc := 35) dX1_copyFrom_35 qRX1_11 okl0 e6 (fun okb5 => ?_)
    refine x_iload_n (pc := 38) dX1_copyFrom_38 rfl ?_
    obtain ⟨i7, b8, e9, hwp⟩ := hwp
    refine x_aaload (t := 18) (pc := 39) dX1_copyFrom_39 okb5 (by decide) i7 e9 (fun okb8 => ?_)
    refine x_aload_n (pc := 40) dX1_copyFrom_40 rfl ?_
    obtain ⟨b10, e11, hwp⟩ := hwp
    refine x_getR (pc := 41) dX1_copyFrom_41 qRX1_11 okl1 e11 (fun okb10 => ?_)
    refine x_iload_n (pc := 44) dX1_copyFrom_44 rfl ?_
    obtain ⟨i12, b13, e14, hwp⟩ := hwp
    refine x_aaload (t := 18) (pc := 45) dX1_copyFrom_45 okb10 (by decide) i12 e14 (fun okb13 => ?_)
    refine x_invV (As := [.ref b13]) (st := []) (pc := 46) dX1_copyFrom_46 lRX1_171 fX4_copyFrom vX4_copyFrom okb8 rfl (Nat.le_of_ble_eq_true rfl) (q_R (by omega) (by decide)) (q_C hnn hzz (by decide) (by decide)) (sn_X4_copyFrom G (d + 0) b8 b13 h _ okb8 okb13 hwp) (k_v (fun h15 hwp cxh15 => ?_))
    have hex := hex.tr cxh15.1
    have hnn : qn h15 = qn h0 + 0 := by have := cxh15.2.1; omega
    have hzz : qz h15 = qz h0 + 0 := by have := cxh15.2.2; omega
    have hx26 := hx26.tr cxh15.1
    have hn26 : qn h15 = qn hb := by have := cxh15.2.1; omega
    have hz26 : qz h15 = qz hb := by have := cxh15.2.2; omega
    have okl0 := okl0.ex cxh15.1
    have okl1 := okl1.ex cxh15.1
    have okb5 := okb5.ex cxh15.1
    have okb8 := okb8.ex cxh15.1
    have okb10 := okb10.ex cxh15.1
    have okb13 := okb13.ex cxh15.1
    refine y_iinc (c := 1) (pc := 49) dX1_copyFrom_49 rfl (by decide) (by decide) (fun v17 ev17 => ?_)
    have hwp := hwp v17 ev17
    refine x_lvE (lv2 := [(2, .int v17), (0, .ref l0), (1, .ref l1)]) rfl ?_
    refine x_goto (tgt := 26) (pc := 52) dX1_copyFrom_52 (by decide) ?_
    refine x_sub [1, 2, 0] rfl ?_
    exact hbk26 _ hwp ⟨hx26, hn26, hz26⟩
theorem lp_X1_copyFrom_26 (G : GT) (d : Nat) (h0 hb : PH) (l0 : Nat) (l1 : Nat) (Q : PH → Prop)  (hex : qEx h0 hb) (hnn : qn hb = qn h0 + 0) (hzz : qz hb = qz h0 + 0) (okl0 : qOK hb 1 l0) (okl1 : qOK hb 1 l1) {s : Int32 × PH} (hwp : qLoop (wp_X1_copyFrom_26 l0 l1 Q) s) : E_X1_copyFrom_26 G d h0 hb l0 l1 Q s :=
  qLoop.use (E := E_X1_copyFrom_26 G d h0 hb l0 l1 Q) (fun back s hbk hw hx => bd_X1_copyFrom_26 G d h0 hb l0 l1 Q hex hnn hzz okl0 okl1 back hbk s.1 s.2 hw hx.1 hx.2.1 hx.2.2) hwp
def wp_X1_copyFrom (l0 : Nat) (l1 : Nat) (h : PH) (Q : PH → Prop) : Prop := (∀ h1, h1 = qsI h l0 1 (qI h l1 1) → (∀ h2, h2 = qsI h1 l0 2 (qI h1 l1 2) → (∀ h3, h3 = qsI h2 l0 3 (qI h2 l1 3) → (qLoop (wp_X1_copyFrom_26 l0 l1 Q) (0, h3)))))
set_option maxHeartbeats 4000000 in
set_option maxRecDepth 100000 in
theorem sn_X1_copyFrom (G : GT) (d : Nat) (l0 : Nat) (l1 : Nat) (h : PH) (Q : PH → Prop) (okl0 : qOK h 1 l0) (okl1 : qOK h 1 l1) (hwp : wp_X1_copyFrom l0 l1 h Q) : Mt G (1 + d) 0 0 mX1_copyFrom [.ref l0, .ref l1] h (qqv Q) := by
  unfold wp_X1_copyFrom at hwp
  refine Mt.of (by decide) rfl (Nat.le_of_ble_eq_true rfl) ?_
  have hex := qEx.rf h
  have hnn : qn h = qn h + 0 := rfl
  have hzz : qz h = qz h + 0 := rfl
  refine x_lvE (lv2 := [(0, .ref l0), (1, .ref l1)]) rfl ?_
  refine x_aload_n (pc := 0) dX1_copyFrom_0 rfl ?_
  refine x_aload_n (pc := 1) dX1_copyFrom_1 rfl ?_
  refine x_getI (pc := 2) dX1_copyFrom_2 qRX1_17 okl1 (by decide) ?_
  refine y_putI (pc := 5) dX1_copyFrom_5 qRX1_17 okl0 (fun h1 eh1 nxh1 => ?_)
  have hwp := hwp h1 eh1
  have hex := hex.tr nxh1.1
  have hnn := nxh1.2.1.trans hnn
  have hzz := nxh1.2.2.trans hzz
  have okl0 := okl0.ex nxh1.1
  have okl1 := okl1.ex nxh1.1
  refine x_aload_n (pc := 8) dX1_copyFrom_8 rfl ?_
  refine x_aload_n (pc := 9) dX1_copyFrom_9 rfl ?_
  refine x_getI (pc := 10) dX1_copyFrom_10 qRX1_21 okl1 (by decide) ?_
  refine y_putI (pc := 13) dX1_copyFrom_13 qRX1_21 okl0 (fun h2 eh2 nxh2 => ?_)
  have hwp := hwp h2 eh2
  have hex := hex.tr nxh2.1
  have hnn := nxh2.2.1.trans hnn
  have hzz := nxh2.2.2.trans hzz
  have okl0 := okl0.ex nxh2.1
  have okl1 := okl1.ex nxh2.1
  refine x_aload_n (pc := 16) dX1_copyFrom_16 rfl ?_
  refine x_aload_n (pc := 17) dX1_copyFrom_17 rfl ?_
  refine x_getI (pc := 18) dX1_copyFrom_18 qRX1_24 okl1 (by decide) ?_
  refine y_putI (pc := 21) dX1_copyFrom_21 qRX1_24 okl0 (fun h3 eh3 nxh3 => ?_)
  have hwp := hwp h3 eh3
  have hex := hex.tr nxh3.1
  have hnn := nxh3.2.1.trans hnn
  have hzz := nxh3.2.2.trans hzz
  have okl0 := okl0.ex nxh3.1
  have okl1 := okl1.ex nxh3.1
  refine x_iconst (v := 0) (pc := 24) dX1_copyFrom_24 (by decide) ?_
  refine x_istore_n (lv2 := [(2, .int 0), (0, .ref l0), (1, .ref l1)]) (pc := 25) dX1_copyFrom_25 (by decide) rfl ?_
  refine x_sub [1, 2, 0] rfl ?_
  exact lp_X1_copyFrom_26 G d h h3 l0 l1 Q hex hnn hzz okl0 okl1 hwp ⟨qEx.rf _, rfl, rfl⟩

theorem dX1_freePartner_0 : decode cX1_freePartner 0 = .ok (.iconst 0, 1) := by decide +kernel
theorem dX1_freePartner_1 : decode cX1_freePartner 1 = .ok (.istore 5, 2) := by decide +kernel
theorem dX1_freePartner_3 : decode cX1_freePartner 3 = .ok (.iload 5, 2) := by decide +kernel
theorem dX1_freePartner_5 : decode cX1_freePartner 5 = .ok (.aload_n 0, 1) := by decide +kernel
theorem dX1_freePartner_6 : decode cX1_freePartner 6 = .ok (.getfield 17, 3) := by decide +kernel
theorem dX1_freePartner_9 : decode cX1_freePartner 9 = .ok (.if_icmp .ge 41, 3) := by decide +kernel
theorem dX1_freePartner_12 : decode cX1_freePartner 12 = .ok (.iload 4, 2) := by decide +kernel
theorem dX1_freePartner_14 : decode cX1_freePartner 14 = .ok (.iload 5, 2) := by decide +kernel
theorem dX1_freePartner_16 : decode cX1_freePartner 16 = .ok (.iushr, 1) := by decide +kernel
theorem dX1_freePartner_17 : decode cX1_freePartner 17 = .ok (.iconst 1, 1) := by decide +kernel
theorem dX1_freePartner_18 : decode cX1_freePartner 18 = .ok (.iand, 1) := by decide +kernel
theorem dX1_freePartner_19 : decode cX1_freePartner 19 = .ok (.ifCond .ne 25, 3) := by decide +kernel
theorem dX1_freePartner_22 : decode cX1_freePartner 22 = .ok (.aload_n 1, 1) := by decide +kernel
theorem dX1_freePartner_23 : decode cX1_freePartner 23 = .ok (.aload_n 2, 1) := by decide +kernel
theorem dX1_freePartner_24 : decode cX1_freePartner 24 = .ok (.getfield 11, 3) := by decide +kernel
theorem dX1_freePartner_27 : decode cX1_freePartner 27 = .ok (.iload 5, 2) := by decide +kernel
theorem dX1_freePartner_29 : decode cX1_freePartner 29 = .ok (.aaload, 1) := by decide +kernel
theorem dX1_freePartner_30 : decode cX1_freePartner 30 = .ok (.iload_n 3, 1) := by decide +kernel
theorem dX1_freePartner_31 : decode cX1_freePartner 31 = .ok (.aload_n 0, 1) := by decide +kernel
theorem dX1_freePartner_32 : decode cX1_freePartner 32 = .ok (.getfield 21, 3) := by decide +kernel
theorem dX1_freePartner_35 : decode cX1_freePartner 35 = .ok (.invokevirtual 183, 3) := by decide +kernel
theorem dX1_freePartner_38 : decode cX1_freePartner 38 = .ok (.ifCond .eq 6, 3) := by decide +kernel
theorem dX1_freePartner_41 : decode cX1_freePartner 41 = .ok (.iload 5, 2) := by decide +kernel
theorem dX1_freePartner_43 : decode cX1_freePartner 43 = .ok (.ireturn, 1) := by decide +kernel
theorem dX1_freePartner_44 : decode cX1_freePartner 44 = .ok (.iinc 5 1, 3) := by decide +kernel
theorem dX1_freePartner_47 : decode cX1_freePartner 47 = .ok (.goto (-44), 3) := by decide +kernel
theorem dX1_freePartner_50 : decode cX1_freePartner 50 = .ok (.iconst (-1), 1) := by decide +kernel
theorem dX1_freePartner_51 : decode cX1_freePartner 51 = .ok (.ireturn, 1) := by decide +kernel
def E_X1_freePartner_3 (G : GT) (d : Nat) (h0 hb : PH) (l0 : Nat) (l1 : Nat) (l2 : Nat) (l3 : Int32) (l4 : Int32) (Q : Int32 → PH → Prop) (s : Int32 × PH) : Prop := qEx hb s.2 ∧ qn s.2 = qn hb ∧ qz s.2 = qz hb → Ex G (qrm (2 + d) 0 0) mX1_freePartner (qn h0) (qz h0) (ZN G h0 0 0 (qqi Q)) 3 [(0, .ref l0), (1, .ref l1), (2, .ref l2), (3, .int l3), (4, .int l4), (5, .int s.1)] [] s.2
def wb_X1_freePartner_3 (l0 : Nat) (l1 : Nat) (l2 : Nat) (l3 : Int32) (l4 : Int32)  (Q : Int32 → PH → Prop) (bk3 : Int32 × PH → Prop) (l5 : Int32) (h : PH) : Prop := (((qI h l0 1) ≤ l5 → Q (-1) h) ∧ (¬ ((qI h l0 1) ≤ l5) → ((¬ ((q_ushr l4 l5) &&& 1) = 0 → ∀ v3 : Int32, v3 = l5 + 1 → bk3 (v3, h)) ∧ (((q_ushr l4 l5) &&& 1) = 0 → (∃ b4, qR h l2 0 = some b4 ∧ (vp_in l5 (qL h b4) ∧ ∃ b7, qR h b4 l5.toNatClampNeg = some b7 ∧ (wp_X4_isTurned l1 b7 l3 (qI h l0 2) h (fun r10 h9 => ((r10 = 0 → ∀ v12 : Int32, v12 = l5 + 1 → bk3 (v12, h9)) ∧ (¬ (r10 = 0) → Q l5 h9))))))))))
def wp_X1_freePartner_3 (l0 : Nat) (l1 : Nat) (l2 : Nat) (l3 : Int32) (l4 : Int32)  (Q : Int32 → PH → Prop) (bk3 : Int32 × PH → Prop) (s : Int32 × PH) : Prop := wb_X1_freePartner_3 l0 l1 l2 l3 l4 Q bk3 s.1 s.2
set_option maxHeartbeats 4000000 in
set_option maxRecDepth 100000 in
theorem bd_X1_freePartner_3 (G : GT) (d : Nat) (h0 hb : PH) (l0 : Nat) (l1 : Nat) (l2 : Nat) (l3 : Int32) (l4 : Int32) (Q : Int32 → PH → Prop)  (hex : qEx h0 hb) (hnn : qn hb = qn h0 + 0) (hzz : qz hb = qz h0 + 0) (okl0 : qOK hb 1 l0) (okl1 : qOK hb 4 l1) (okl2 : qOK hb 1 l2) (bk3 : Int32 × PH → Prop) (hbk3 : ∀ s2, bk3 s2 → E_X1_freePartner_3 G d h0 hb l0 l1 l2 l3 l4 Q s2) (l5 : Int32) (h : PH) (hwp : wb_X1_freePartner_3 l0 l1 l2 l3 l4 Q bk3 l5 h) (hx3 : qEx hb h) (hn3 : qn h = qn hb) (hz3 : qz h = qz hb) : Ex G (qrm (2 + d) 0 0) mX1_freePartner (qn h0) (qz h0) (ZN G h0 0 0 (qqi Q)) 3 [(0, .ref l0), (1, .ref l1), (2, .ref l2), (3, .int l3), (4, .int l4), (5, .int l5)] [] h := by
  unfold wb_X1_freePartner_3 at hwp
  have hex := hex.tr hx3
  have hnn := hn3.trans hnn
  have hzz := hz3.trans hzz
  have okl0 := okl0.ex hx3
  have okl1 := okl1.ex hx3
  have okl2 := okl2.ex hx3
  refine x_iload (pc := 3) dX1_freePartner_3 rfl ?_
  refine x_aload_n (pc := 5) dX1_freePartner_5 rfl ?_
  refine x_getI (pc := 6) dX1_freePartner_6 qRX1_17 okl0 (by decide) ?_
  refine x_icmp_ge (tgt := 50) (pc := 9) dX1_freePartner_9 (by decide) (fun c1 => ?_) (fun c1 => ?_)
  · have hwp := hwp.1 c1
    refine x_iconst (v := (-1)) (pc := 50) dX1_freePartner_50 (by decide) ?_
    exact x_iret (pc := 51) dX1_freePartner_51 rfl hex hnn hzz ⟨_, rfl, hwp⟩
  · have hwp := hwp.2 c1
    refine x_iload (pc := 12) dX1_freePartner_12 rfl ?_
    refine x_iload (pc := 14) dX1_freePartner_14 rfl ?_
    refine x_iushr (pc := 16) dX1_freePartner_16 ?_
    refine x_iconst (v := 1) (pc := 17) dX1_freePartner_17 (by decide) ?_
    refine x_iand (pc := 18) dX1_freePartner_18 ?_
    refine x_if_ne (tgt := 44) (pc := 19) dX1_freePartner_19 (by decide) (fun c2 => ?_) (fun c2 => ?_)
    · have hwp := hwp.1 c2
      refine y_iinc (c := 1) (pc := 44) dX1_freePartner_44 rfl (by decide) (by decide) (fun v3 ev3 => ?_)
      have hwp := hwp v3 ev3
      refine x_lvE (lv2 := [(5, .int v3), (0, .ref l0), (1, .ref l1), (2, .ref l2), (3, .int l3), (4, .int l4)]) rfl ?_
      refine x_goto (tgt := 3) (pc := 47) dX1_freePartner_47 (by decide) ?_
      refine x_sub [1, 2, 3, 4, 5, 0] rfl ?_
      exact hbk3 _ hwp ⟨hx3, hn3, hz3⟩
    · have hwp := hwp.2 c2
      refine x_aload_n (pc := 22) dX1_freePartner_22 rfl ?_
      refine x_aload_n (pc := 23) dX1_freePartner_23 rfl ?_
      obtain ⟨b4, e5, hwp⟩ := hwp
      refine x_getR (pc := 24) dX1_freePartner_24 qRX1_11 okl2 e5 (fun okb4 => ?_)
      refine x_iload (pc := 27) dX1_freePartner_27 rfl ?_
      obtain ⟨i6, b7, e8, hwp⟩ := hwp
      refine x_aaload (t := 18) (pc := 29) dX1_freePartner_29 okb4 (by decide) i6 e8 (fun okb7 => ?_)
      refine x_iload_n (pc := 30) dX1_freePartner_30 rfl ?_
      refine x_aload_n (pc := 31) dX1_freePartner_31 rfl ?_
      refine x_getI (pc := 32) dX1_freePartner_32 qRX1_21 okl0 (by decide) ?_
      refine x_invV (As := [.ref b7, .int l3, .int (qI h l0 2)]) (st := []) (pc := 35) dX1_freePartner_35 lRX1_183 fX4_isTurned vX4_isTurned okl1 rfl (Nat.le_of_ble_eq_true rfl) (q_R (by omega) (by decide)) (q_C hnn hzz (by decide) (by decide)) (sn_X4_isTurned G (d + 0) l1 b7 l3 (qI h l0 2) h _ okl1 okb7 hwp) (k_b (fun r10 h9 hwp zbr10 cxh9 => ?_))
      have hex := hex.tr cxh9.1
      have hnn : qn h9 = qn h0 + 0 := by have := cxh9.2.1; omega
      have hzz : qz h9 = qz h0 + 0 := by have := cxh9.2.2; omega
      have hx3 := hx3.tr cxh9.1
      have hn3 : qn h9 = qn hb := by have := cxh9.2.1; omega
      have hz3 : qz h9 = qz hb := by have := cxh9.2.2; omega
      have okl0 := okl0.ex cxh9.1
      have okl1 := okl1.ex cxh9.1
      have okl2 := okl2.ex cxh9.1
      have okb4 := okb4.ex cxh9.1
      have okb7 := okb7.ex cxh9.1
      refine x_if_eq (tgt := 44) (pc := 38) dX1_freePartner_38 (by decide) (fun c11 => ?_) (fun c11 => ?_)
      · have hwp := hwp.1 c11
        refine y_iinc (c := 1) (pc := 44) dX1_freePartner_44 rfl (by decide) (by decide) (fun v12 ev12 => ?_)
        have hwp := hwp v12 ev12
        refine x_lvE (lv2 := [(5, .int v12), (0, .ref l0), (1, .ref l1), (2, .ref l2), (3, .int l3), (4, .int l4)]) rfl ?_
        refine x_goto (tgt := 3) (pc := 47) dX1_freePartner_47 (by decide) ?_
        refine x_sub [1, 2, 3, 4, 5, 0] rfl ?_
        exact hbk3 _ hwp ⟨hx3, hn3, hz3⟩
      · have hwp := hwp.2 c11
        refine x_iload (pc := 41) dX1_freePartner_41 rfl ?_
        exact x_iret (pc := 43) dX1_freePartner_43 rfl hex hnn hzz ⟨_, rfl, hwp⟩
theorem lp_X1_freePartner_3 (G : GT) (d : Nat) (h0 hb : PH) (l0 : Nat) (l1 : Nat) (l2 : Nat) (l3 : Int32) (l4 : Int32) (Q : Int32 → PH → Prop)  (hex : qEx h0 hb) (hnn : qn hb = qn h0 + 0) (hzz : qz hb = qz h0 + 0) (okl0 : qOK hb 1 l0) (okl1 : qOK hb 4 l1) (okl2 : qOK hb 1 l2) {s : Int32 × PH} (hwp : qLoop (wp_X1_freePartner_3 l0 l1 l2 l3 l4 Q) s) : E_X1_freePartner_3 G d h0 hb l0 l1 l2 l3 l4 Q s :=
  qLoop.use (E := E_X1_freePartner_3 G d h0 hb l0 l1 l2 l3 l4 Q) (fun back s hbk hw hx => bd_X1_freePartner_3 G d h0 hb l0 l1 l2 l3 l4 Q hex hnn hzz okl0 okl1 okl2 back hbk s.1 s.2 hw hx.1 hx.2.1 hx.2.2) hwp
def wp_X1_freePartner (l0 : Nat) (l1 : Nat) (l2 : Nat) (l3 : Int32) (l4 : Int32) (h : PH) (Q : Int32 → PH → Prop) : Prop := (qLoop (wp_X1_freePartner_3 l0 l1 l2 l3 l4 Q) (0, h))
set_option maxHeartbeats 4000000 in
set_option maxRecDepth 100000 in
theorem sn_X1_freePartner (G : GT) (d : Nat) (l0 : Nat) (l1 : Nat) (l2 : Nat) (l3 : Int32) (l4 : Int32) (h : PH) (Q : Int32 → PH → Prop) (okl0 : qOK h 1 l0) (okl1 : qOK h 4 l1) (okl2 : qOK h 1 l2) (hwp : wp_X1_freePartner l0 l1 l2 l3 l4 h Q) : Mt G (2 + d) 0 0 mX1_freePartner [.ref l0, .ref l1, .ref l2, .int l3, .int l4] h (qqi Q) := by
  unfold wp_X1_freePartner at hwp
  refine Mt.of (by decide) rfl (Nat.le_of_ble_eq_true rfl) ?_
  have hex := qEx.rf h
  have hnn : qn h = qn h + 0 := rfl
  have hzz : qz h = qz h + 0 := rfl
  refine x_lvE (lv2 := [(0, .ref l0), (1, .ref l1), (2, .ref l2), (3, .int l3), (4, .int l4)]) rfl ?_
  refine x_iconst (v := 0) (pc := 0) dX1_freePartner_0 (by decide) ?_
  refine x_istore (lv2 := [(5, .int 0), (0, .ref l0), (1, .ref l1), (2, .ref l2), (3, .int l3), (4, .int l4)]) (pc := 1) dX1_freePartner_1 (by decide) rfl ?_
  refine x_sub [1, 2, 3, 4, 5, 0] rfl ?_
  exact lp_X1_freePartner_3 G d h h l0 l1 l2 l3 l4 Q hex hnn hzz okl0 okl1 okl2 hwp ⟨qEx.rf _, rfl, rfl⟩

theorem dX1_isTurned_0 : decode cX1_isTurned 0 = .ok (.iconst 0, 1) := by decide +kernel
theorem dX1_isTurned_1 : decode cX1_isTurned 1 = .ok (.istore_n 3, 1) := by decide +kernel
theorem dX1_isTurned_2 : decode cX1_isTurned 2 = .ok (.iconst 0, 1) := by decide +kernel
theorem dX1_isTurned_3 : decode cX1_isTurned 3 = .ok (.istore 4, 2) := by decide +kernel
theorem dX1_isTurned_5 : decode cX1_isTurned 5 = .ok (.iload 4, 2) := by decide +kernel
theorem dX1_isTurned_7 : decode cX1_isTurned 7 = .ok (.aload_n 0, 1) := by decide +kernel
theorem dX1_isTurned_8 : decode cX1_isTurned 8 = .ok (.getfield 17, 3) := by decide +kernel
theorem dX1_isTurned_11 : decode cX1_isTurned 11 = .ok (.if_icmp .ge 40, 3) := by decide +kernel
theorem dX1_isTurned_14 : decode cX1_isTurned 14 = .ok (.aload_n 0, 1) := by decide +kernel
theorem dX1_isTurned_15 : decode cX1_isTurned 15 = .ok (.aload_n 0, 1) := by decide +kernel
theorem dX1_isTurned_16 : decode cX1_isTurned 16 = .ok (.getfield 11, 3) := by decide +kernel
theorem dX1_isTurned_19 : decode cX1_isTurned 19 = .ok (.iload 4, 2) := by decide +kernel
theorem dX1_isTurned_21 : decode cX1_isTurned 21 = .ok (.aaload, 1) := by decide +kernel
theorem dX1_isTurned_22 : decode cX1_isTurned 22 = .ok (.aload_n 1, 1) := by decide +kernel
theorem dX1_isTurned_23 : decode cX1_isTurned 23 = .ok (.iload_n 2, 1) := by decide +kernel
theorem dX1_isTurned_24 : decode cX1_isTurned 24 = .ok (.iload_n 3, 1) := by decide +kernel
theorem dX1_isTurned_25 : decode cX1_isTurned 25 = .ok (.invokevirtual 179, 3) := by decide +kernel
theorem dX1_isTurned_28 : decode cX1_isTurned 28 = .ok (.istore 5, 2) := by decide +kernel
theorem dX1_isTurned_30 : decode cX1_isTurned 30 = .ok (.iload 5, 2) := by decide +kernel
theorem dX1_isTurned_32 : decode cX1_isTurned 32 = .ok (.iconst (-1), 1) := by decide +kernel
theorem dX1_isTurned_33 : decode cX1_isTurned 33 = .ok (.if_icmp .ne 5, 3) := by decide +kernel
theorem dX1_isTurned_36 : decode cX1_isTurned 36 = .ok (.iconst 0, 1) := by decide +kernel
theorem dX1_isTurned_37 : decode cX1_isTurned 37 = .ok (.ireturn, 1) := by decide +kernel
theorem dX1_isTurned_38 : decode cX1_isTurned 38 = .ok (.iload_n 3, 1) := by decide +kernel
theorem dX1_isTurned_39 : decode cX1_isTurned 39 = .ok (.iconst 1, 1) := by decide +kernel
theorem dX1_isTurned_40 : decode cX1_isTurned 40 = .ok (.iload 5, 2) := by decide +kernel
theorem dX1_isTurned_42 : decode cX1_isTurned 42 = .ok (.ishl, 1) := by decide +kernel
theorem dX1_isTurned_43 : decode cX1_isTurned 43 = .ok (.ior, 1) := by decide +kernel
theorem dX1_isTurned_44 : decode cX1_isTurned 44 = .ok (.istore_n 3, 1) := by decide +kernel
theorem dX1_isTurned_45 : decode cX1_isTurned 45 = .ok (.iinc 4 1, 3) := by decide +kernel
theorem dX1_isTurned_48 : decode cX1_isTurned 48 = .ok (.goto (-43), 3) := by decide +kernel
theorem dX1_isTurned_51 : decode cX1_isTurned 51 = .ok (.iconst 1, 1) := by decide +kernel
theorem dX1_isTurned_52 : decode cX1_isTurned 52 = .ok (.ireturn, 1) := by decide +kernel
def E_X1_isTurned_5 (G : GT) (d : Nat) (h0 hb : PH) (l0 : Nat) (l1 : Nat) (l2 : Int32) (Q : Int32 → PH → Prop) (s : Int32 × Int32 × PH) : Prop := qEx hb s.2.2 ∧ qn s.2.2 = qn hb ∧ qz s.2.2 = qz hb → Ex G (qrm (3 + d) 0 0) mX1_isTurned (qn h0) (qz h0) (ZN G h0 0 0 (qqb Q)) 5 [(0, .ref l0), (1, .ref l1), (2, .int l2), (3, .int s.1), (4, .int s.2.1)] [] s.2.2
def wb_X1_isTurned_5 (l0 : Nat) (l1 : Nat) (l2 : Int32)  (Q : Int32 → PH → Prop) (bk5 : Int32 × Int32 × PH → Prop) (l3 : Int32) (l4 : Int32) (h : PH) : Prop := (((qI h l0 1) ≤ l4 → Q 1 h) ∧ (¬ ((qI h l0 1) ≤ l4) → (∃ b2, qR h l0 0 = some b2 ∧ (vp_in l4 (qL h b2) ∧ ∃ b5, qR h b2 l4.toNatClampNeg = some b5 ∧ (wp_X1_freePartner l0 b5 l1 l2 l3 h (fun r8 h7 => ((¬ r8 = (-1) → ∀ v10 : Int32, v10 = l3 ||| (1 <<< (r8 &&& 31)) → ∀ v11 : Int32, v11 = l4 + 1 → bk5 (v10, v11, h7)) ∧ (r8 = (-1) → Q 0 h7))))))))
def wp_X1_isTurned_5 (l0 : Nat) (l1 : Nat) (l2 : Int32)  (Q : Int32 → PH → Prop) (bk5 : Int32 × Int32 × PH → Prop) (s : Int32 × Int32 × PH) : Prop := wb_X1_isTurned_5 l0 l1 l2 Q bk5 s.1 s.2.1 s.2.2
set_option maxHeartbeats 4000000 in
set_option maxRecDepth 100000 in
theorem bd_X1_isTurned_5 (G : GT) (d : Nat) (h0 hb : PH) (l0 : Nat) (l1 : Nat) (l2 : Int32) (Q : Int32 → PH → Prop)  (hex : qEx h0 hb) (hnn : qn hb = qn h0 + 0) (hzz : qz hb = qz h0 + 0) (okl0 : qOK hb 1 l0) (okl1 : qOK hb 1 l1) (bk5 : Int32 × Int32 × PH → Prop) (hbk5 : ∀ s2, bk5 s2 → E_X1_isTurned_5 G d h0 hb l0 l1 l2 Q s2) (l3 : Int32) (l4 : Int32) (h : PH) (hwp : wb_X1_isTurned_5 l0 l1 l2 Q bk5 l3 l4 h) (hx5 : qEx hb h) (hn5 : qn h = qn hb) (hz5 : qz h = qz hb) : Ex G (qrm (3 + d) 0 0) mX1_isTurned (qn h0) (qz h0) (ZN G h0 0 0 (qqb Q)) 5 [(0, .ref l0), (1, .ref l1), (2, .int l2), (3, .int l3), (4, .int l4)] [] h := by
  unfold wb_X1_isTurned_5 at hwp
  have hex := hex.tr hx5
  have hnn := hn5.trans hnn
  have hzz := hz5.trans hzz
  have okl0 := okl0.ex hx5
  have okl1 := okl1.ex hx5
  refine x_iload (pc := 5) dX1_isTurned_5 rfl ?_
  refine x_aload_n (pc := 7) dX1_isTurned_7 rfl ?_
  refine x_getI (pc := 8) dX1_isTurned_8 qRX1_17 okl0 (by decide) ?_
  refine x_icmp_ge (tgt := 51) (pc := 11) dX1_isTurned_11 (by decide) (fun c1 => ?_) (fun c1 => ?_)
  · have hwp := hwp.1 c1
    refine x_iconst (v := 1) (pc := 51) dX1_isTurned_51 (by decide) ?_
    exact x_zret (pc := 52) dX1_isTurned_52 rfl hex hnn hzz (by decide) ⟨_, rfl, by decide, hwp⟩
  · have hwp := hwp.2 c1
    refine x_aload_n (pc := 14) dX1_isTurned_14 rfl ?_
    refine x_aload_n (pc := 15) dX1_isTurned_15 rfl ?_
    obtain ⟨b2, e3, hwp⟩ := hwp
    refine x_getR (pc := 16) dX1_isTurned_16 qRX1_11 okl0 e3 (fun okb2 => ?_)
    refine x_iload (pc := 19) dX1_isTurned_19 rfl ?_
    obtain ⟨i4, b5, e6, hwp⟩ := hwp
    refine x_aaload (t := 18) (pc := 21) dX1_isTurned_21 okb2 (by decide) i4 e6 (fun okb5 => ?_)
    refine x_aload_n (pc := 22) dX1_isTurned_22 rfl ?_
    refine x_iload_n (pc := 23) dX1_isTurned_23 rfl ?_
    refine x_iload_n (pc := 24) dX1_isTurned_24 rfl ?_
    refine x_invV (As := [.ref b5, .ref l1, .int l2, .int l3]) (st := []) (pc := 25) dX1_isTurned_25 lRX1_179 fX1_freePartner vX1_freePartner okl0 rfl (Nat.le_of_ble_eq_true rfl) (q_R (by omega) (by decide)) (q_C hnn hzz (by decide) (by decide)) (sn_X1_freePartner G (d + 0) l0 b5 l1 l2 l3 h _ okl0 okb5 okl1 hwp) (k_i (fun r8 h7 hwp cxh7 => ?_))
    have hex := hex.tr cxh7.1
    have hnn : qn h7 = qn h0 + 0 := by have := cxh7.2.1; omega
    have hzz : qz h7 = qz h0 + 0 := by have := cxh7.2.2; omega
    have hx5 := hx5.tr cxh7.1
    have hn5 : qn h7 = qn hb := by have := cxh7.2.1; omega
    have hz5 : qz h7 = qz hb := by have := cxh7.2.2; omega
    have okl0 := okl0.ex cxh7.1
    have okl1 := okl1.ex cxh7.1
    have okb2 := okb2.ex cxh7.1
    have okb5 := okb5.ex cxh7.1
    refine x_istore (lv2 := [(5, .int r8), (0, .ref l0), (1, .ref l1), (2, .int l2), (3, .int l3), (4, .int l4)]) (pc := 28) dX1_isTurned_28 (by decide) rfl ?_
    refine x_iload (pc := 30) dX1_isTurned_30 rfl ?_
    refine x_iconst (v := (-1)) (pc := 32) dX1_isTurned_32 (by decide) ?_
    refine x_icmp_ne (tgt := 38) (pc := 33) dX1_isTurned_33 (by decide) (fun c9 => ?_) (fun c9 => ?_)
    · have hwp := hwp.1 c9
      refine x_iload_n (pc := 38) dX1_isTurned_38 rfl ?_
      refine x_iconst (v := 1) (pc := 39) dX1_isTurned_39 (by decide) ?_
      refine x_iload (pc := 40) dX1_isTurned_40 rfl ?_
      refine x_ishl (pc := 42) dX1_isTurned_42 ?_
      refine x_ior (pc := 43) dX1_isTurned_43 ?_
      refine x_nmI (fun v10 ev10 => ?_)
      have hwp := hwp v10 ev10
      refine x_istore_n (lv2 := [(3, .int v10), (5, .int r8), (0, .ref l0), (1, .ref l1), (2, .int l2), (4, .int l4)]) (pc := 44) dX1_isTurned_44 (by decide) rfl ?_
      refine y_iinc (c := 1) (pc := 45) dX1_isTurned_45 rfl (by decide) (by decide) (fun v11 ev11 => ?_)
      have hwp := hwp v11 ev11
      refine x_lvE (lv2 := [(4, .int v11), (3, .int v10), (5, .int r8), (0, .ref l0), (1, .ref l1), (2, .int l2)]) rfl ?_
      refine x_goto (tgt := 5) (pc := 48) dX1_isTurned_48 (by decide) ?_
      refine x_sub [3, 4, 5, 1, 0] rfl ?_
      exact hbk5 _ hwp ⟨hx5, hn5, hz5⟩
    · have hwp := hwp.2 c9
      refine x_iconst (v := 0) (pc := 36) dX1_isTurned_36 (by decide) ?_
      exact x_zret (pc := 37) dX1_isTurned_37 rfl hex hnn hzz (by decide) ⟨_, rfl, by decide, hwp⟩
theorem lp_X1_isTurned_5 (G : GT) (d : Nat) (h0 hb : PH) (l0 : Nat) (l1 : Nat) (l2 : Int32) (Q : Int32 → PH → Prop)  (hex : qEx h0 hb) (hnn : qn hb = qn h0 + 0) (hzz : qz hb = qz h0 + 0) (okl0 : qOK hb 1 l0) (okl1 : qOK hb 1 l1) {s : Int32 × Int32 × PH} (hwp : qLoop (wp_X1_isTurned_5 l0 l1 l2 Q) s) : E_X1_isTurned_5 G d h0 hb l0 l1 l2 Q s :=
  qLoop.use (E := E_X1_isTurned_5 G d h0 hb l0 l1 l2 Q) (fun back s hbk hw hx => bd_X1_isTurned_5 G d h0 hb l0 l1 l2 Q hex hnn hzz okl0 okl1 back hbk s.1 s.2.1 s.2.2 hw hx.1 hx.2.1 hx.2.2) hwp
def wp_X1_isTurned (l0 : Nat) (l1 : Nat) (l2 : Int32) (h : PH) (Q : Int32 → PH → Prop) : Prop := (qLoop (wp_X1_isTurned_5 l0 l1 l2 Q) (0, 0, h))
set_option maxHeartbeats 4000000 in
set_option maxRecDepth 100000 in
theorem sn_X1_isTurned (G : GT) (d : Nat) (l0 : Nat) (l1 : Nat) (l2 : Int32) (h : PH) (Q : Int32 → PH → Prop) (okl0 : qOK h 1 l0) (okl1 : qOK h 1 l1) (hwp : wp_X1_isTurned l0 l1 l2 h Q) : Mt G (3 + d) 0 0 mX1_isTurned [.ref l0, .ref l1, .int l2] h (qqb Q) := by
  unfold wp_X1_isTurned at hwp
  refine Mt.of (by decide) rfl (Nat.le_of_ble_eq_true rfl) ?_
  have hex := qEx.rf h
  have hnn : qn h = qn h + 0 := rfl
  have hzz : qz h = qz h + 0 := rfl
  refine x_lvE (lv2 := [(0, .ref l0), (1, .ref l1), (2, .int l2)]) rfl ?_
  refine x_iconst (v := 0) (pc := 0) dX1_isTurned_0 (by decide) ?_
  refine x_istore_n (lv2 := [(3, .int 0), (0, .ref l0), (1, .ref l1), (2, .int l2)]) (pc := 1) dX1_isTurned_1 (by decide) rfl ?_
  refine x_iconst (v := 0) (pc := 2) dX1_isTurned_2 (by decide) ?_
  refine x_istore (lv2 := [(4, .int 0), (3, .int 0), (0, .ref l0), (1, .ref l1), (2, .int l2)]) (pc := 3) dX1_isTurned_3 (by decide) rfl ?_
  refine x_sub [2, 3, 4, 1, 0] rfl ?_
  exact lp_X1_isTurned_5 G d h h l0 l1 l2 Q hex hnn hzz okl0 okl1 hwp ⟨qEx.rf _, rfl, rfl⟩

theorem dX1_turnTo_0 : decode cX1_turnTo 0 = .ok (.aload_n 0, 1) := by decide +kernel
theorem dX1_turnTo_1 : decode cX1_turnTo 1 = .ok (.getfield 17, 3) := by decide +kernel
theorem dX1_turnTo_4 : decode cX1_turnTo 4 = .ok (.aload_n 1, 1) := by decide +kernel
theorem dX1_turnTo_5 : decode cX1_turnTo 5 = .ok (.getfield 17, 3) := by decide +kernel
theorem dX1_turnTo_8 : decode cX1_turnTo 8 = .ok (.if_icmp .ne 25, 3) := by decide +kernel
theorem dX1_turnTo_11 : decode cX1_turnTo 11 = .ok (.aload_n 0, 1) := by decide +kernel
theorem dX1_turnTo_12 : decode cX1_turnTo 12 = .ok (.getfield 21, 3) := by decide +kernel
theorem dX1_turnTo_15 : decode cX1_turnTo 15 = .ok (.aload_n 1, 1) := by decide +kernel
theorem dX1_turnTo_16 : decode cX1_turnTo 16 = .ok (.getfield 21, 3) := by decide +kernel
theorem dX1_turnTo_19 : decode cX1_turnTo 19 = .ok (.if_icmp .ne 14, 3) := by decide +kernel
theorem dX1_turnTo_22 : decode cX1_turnTo 22 = .ok (.aload_n 0, 1) := by decide +kernel
theorem dX1_turnTo_23 : decode cX1_turnTo 23 = .ok (.getfield 24, 3) := by decide +kernel
theorem dX1_turnTo_26 : decode cX1_turnTo 26 = .ok (.aload_n 1, 1) := by decide +kernel
theorem dX1_turnTo_27 : decode cX1_turnTo 27 = .ok (.getfield 24, 3) := by decide +kernel
theorem dX1_turnTo_30 : decode cX1_turnTo 30 = .ok (.if_icmp .eq 5, 3) := by decide +kernel
theorem dX1_turnTo_33 : decode cX1_turnTo 33 = .ok (.iconst (-1), 1) := by decide +kernel
theorem dX1_turnTo_34 : decode cX1_turnTo 34 = .ok (.ireturn, 1) := by decide +kernel
theorem dX1_turnTo_35 : decode cX1_turnTo 35 = .ok (.iconst 0, 1) := by decide +kernel
theorem dX1_turnTo_36 : decode cX1_turnTo 36 = .ok (.istore_n 2, 1) := by decide +kernel
theorem dX1_turnTo_37 : decode cX1_turnTo 37 = .ok (.iload_n 2, 1) := by decide +kernel
theorem dX1_turnTo_38 : decode cX1_turnTo 38 = .ok (.aload_n 0, 1) := by decide +kernel
theorem dX1_turnTo_39 : decode cX1_turnTo 39 = .ok (.getfield 21, 3) := by decide +kernel
theorem dX1_turnTo_42 : decode cX1_turnTo 42 = .ok (.if_icmp .ge 20, 3) := by decide +kernel
theorem dX1_turnTo_45 : decode cX1_turnTo 45 = .ok (.aload_n 0, 1) := by decide +kernel
theorem dX1_turnTo_46 : decode cX1_turnTo 46 = .ok (.aload_n 1, 1) := by decide +kernel
theorem dX1_turnTo_47 : decode cX1_turnTo 47 = .ok (.iload_n 2, 1) := by decide +kernel
theorem dX1_turnTo_48 : decode cX1_turnTo 48 = .ok (.invokevirtual 175, 3) := by decide +kernel
theorem dX1_turnTo_51 : decode cX1_turnTo 51 = .ok (.ifCond .eq 5, 3) := by decide +kernel
theorem dX1_turnTo_54 : decode cX1_turnTo 54 = .ok (.iload_n 2, 1) := by decide +kernel
theorem dX1_turnTo_55 : decode cX1_turnTo 55 = .ok (.ireturn, 1) := by decide +kernel
theorem dX1_turnTo_56 : decode cX1_turnTo 56 = .ok (.iinc 2 1, 3) := by decide +kernel
theorem dX1_turnTo_59 : decode cX1_turnTo 59 = .ok (.goto (-22), 3) := by decide +kernel
theorem dX1_turnTo_62 : decode cX1_turnTo 62 = .ok (.iconst (-1), 1) := by decide +kernel
theorem dX1_turnTo_63 : decode cX1_turnTo 63 = .ok (.ireturn, 1) := by decide +kernel
def E_X1_turnTo_37 (G : GT) (d : Nat) (h0 hb : PH) (l0 : Nat) (l1 : Nat) (Q : Int32 → PH → Prop) (s : Int32 × PH) : Prop := qEx hb s.2 ∧ qn s.2 = qn hb ∧ qz s.2 = qz hb → Ex G (qrm (4 + d) 0 0) mX1_turnTo (qn h0) (qz h0) (ZN G h0 0 0 (qqi Q)) 37 [(0, .ref l0), (1, .ref l1), (2, .int s.1)] [] s.2
def wb_X1_turnTo_37 (l0 : Nat) (l1 : Nat)  (Q : Int32 → PH → Prop) (bk37 : Int32 × PH → Prop) (l2 : Int32) (h : PH) : Prop := (((qI h l0 2) ≤ l2 → Q (-1) h) ∧ (¬ ((qI h l0 2) ≤ l2) → (wp_X1_isTurned l0 l1 l2 h (fun r6 h5 => ((r6 = 0 → ∀ v8 : Int32, v8 = l2 + 1 → bk37 (v8, h5)) ∧ (¬ (r6 = 0) → Q l2 h5))))))
def wp_X1_turnTo_37 (l0 : Nat) (l1 : Nat)  (Q : Int32 → PH → Prop) (bk37 : Int32 × PH → Prop) (s : Int32 × PH) : Prop := wb_X1_turnTo_37 l0 l1 Q bk37 s.1 s.2
set_option maxHeartbeats 4000000 in
set_option maxRecDepth 100000 in
theorem bd_X1_turnTo_37 (G : GT) (d : Nat) (h0 hb : PH) (l0 : Nat) (l1 : Nat) (Q : Int32 → PH → Prop)  (hex : qEx h0 hb) (hnn : qn hb = qn h0 + 0) (hzz : qz hb = qz h0 + 0) (okl0 : qOK hb 1 l0) (okl1 : qOK hb 1 l1) (bk37 : Int32 × PH → Prop) (hbk37 : ∀ s2, bk37 s2 → E_X1_turnTo_37 G d h0 hb l0 l1 Q s2) (l2 : Int32) (h : PH) (hwp : wb_X1_turnTo_37 l0 l1 Q bk37 l2 h) (hx37 : qEx hb h) (hn37 : qn h = qn hb) (hz37 : qz h = qz hb) : Ex G (qrm (4 + d) 0 0) mX1_turnTo (qn h0) (qz h0) (ZN G h0 0 0 (qqi Q)) 37 [(0, .ref l0), (1, .ref l1), (2, .int l2)] [] h := by
  unfold wb_X1_turnTo_37 at hwp
  have hex := hex.tr hx37
  have hnn := hn37.trans hnn
  have hzz := hz37.trans hzz
  have okl0 := okl0.ex hx37
  have okl1 := okl1.ex hx37
  refine x_iload_n (pc := 37) dX1_turnTo_37 rfl ?_
  refine x_aload_n (pc := 38) dX1_turnTo_38 rfl ?_
  refine x_getI (pc := 39) dX1_turnTo_39 qRX1_21 okl0 (by decide) ?_
  refine x_icmp_ge (tgt := 62) (pc := 42) dX1_turnTo_42 (by decide) (fun c4 => ?_) (fun c4 => ?_)
  · have hwp := hwp.1 c4
    refine x_iconst (v := (-1)) (pc := 62) dX1_turnTo_62 (by decide) ?_
    exact x_iret (pc := 63) dX1_turnTo_63 rfl hex hnn hzz ⟨_, rfl, hwp⟩
  · have hwp := hwp.2 c4
    refine x_aload_n (pc := 45) dX1_turnTo_45 rfl ?_
    refine x_aload_n (pc := 46) dX1_turnTo_46 rfl ?_
    refine x_iload_n (pc := 47) dX1_turnTo_47 rfl ?_
    refine x_invV (As := [.ref l1, .int l2]) (st := []) (pc := 48) dX1_turnTo_48 lRX1_175 fX1_isTurned vX1_isTurned okl0 rfl (Nat.le_of_ble_eq_true rfl) (q_R (by omega) (by decide)) (q_C hnn hzz (by decide) (by decide)) (sn_X1_isTurned G (d + 0) l0 l1 l2 h _ okl0 okl1 hwp) (k_b (fun r6 h5 hwp zbr6 cxh5 => ?_))
    have hex := hex.tr cxh5.1
    have hnn : qn h5 = qn h0 + 0 := by have := cxh5.2.1; omega
    have hzz : qz h5 = qz h0 + 0 := by have := cxh5.2.2; omega
    have hx37 := hx37.tr cxh5.1
    have hn37 : qn h5 = qn hb := by have := cxh5.2.1; omega
    have hz37 : qz h5 = qz hb := by have := cxh5.2.2; omega
    have okl0 := okl0.ex cxh5.1
    have okl1 := okl1.ex cxh5.1
    refine x_if_eq (tgt := 56) (pc := 51) dX1_turnTo_51 (by decide) (fun c7 => ?_) (fun c7 => ?_)
    · have hwp := hwp.1 c7
      refine y_iinc (c := 1) (pc := 56) dX1_turnTo_56 rfl (by decide) (by decide) (fun v8 ev8 => ?_)
      have hwp := hwp v8 ev8
      refine x_lvE (lv2 := [(2, .int v8), (0, .ref l0), (1, .ref l1)]) rfl ?_
      refine x_goto (tgt := 37) (pc := 59) dX1_turnTo_59 (by decide) ?_
      refine x_sub [1, 2, 0] rfl ?_
      exact hbk37 _ hwp ⟨hx37, hn37, hz37⟩
    · have hwp := hwp.2 c7
      refine x_iload_n (pc := 54) dX1_turnTo_54 rfl ?_
      exact x_iret (pc := 55) dX1_turnTo_55 rfl hex hnn hzz ⟨_, rfl, hwp⟩
theorem lp_X1_turnTo_37 (G : GT) (d : Nat) (h0 hb : PH) (l0 : Nat) (l1 : Nat) (Q : Int32 → PH → Prop)  (hex : qEx h0 hb) (hnn : qn hb = qn h0 + 0) (hzz : qz hb = qz h0 + 0) (okl0 : qOK hb 1 l0) (okl1 : qOK hb 1 l1) {s : Int32 × PH} (hwp : qLoop (wp_X1_turnTo_37 l0 l1 Q) s) : E_X1_turnTo_37 G d h0 hb l0 l1 Q s :=
  qLoop.use (E := E_X1_turnTo_37 G d h0 hb l0 l1 Q) (fun back s hbk hw hx => bd_X1_turnTo_37 G d h0 hb l0 l1 Q hex hnn hzz okl0 okl1 back hbk s.1 s.2 hw hx.1 hx.2.1 hx.2.2) hwp
def wp_X1_turnTo (l0 : Nat) (l1 : Nat) (h : PH) (Q : Int32 → PH → Prop) : Prop := ((¬ (qI h l0 1) = (qI h l1 1) → Q (-1) h) ∧ ((qI h l0 1) = (qI h l1 1) → ((¬ (qI h l0 2) = (qI h l1 2) → Q (-1) h) ∧ ((qI h l0 2) = (qI h l1 2) → (((qI h l0 3) = (qI h l1 3) → (qLoop (wp_X1_turnTo_37 l0 l1 Q) (0, h))) ∧ (¬ ((qI h l0 3) = (qI h l1 3)) → Q (-1) h))))))
set_option maxHeartbeats 4000000 in
set_option maxRecDepth 100000 in
theorem sn_X1_turnTo (G : GT) (d : Nat) (l0 : Nat) (l1 : Nat) (h : PH) (Q : Int32 → PH → Prop) (okl0 : qOK h 1 l0) (okl1 : qOK h 1 l1) (hwp : wp_X1_turnTo l0 l1 h Q) : Mt G (4 + d) 0 0 mX1_turnTo [.ref l0, .ref l1] h (qqi Q) := by
  unfold wp_X1_turnTo at hwp
  refine Mt.of (by decide) rfl (Nat.le_of_ble_eq_true rfl) ?_
  have hex := qEx.rf h
  have hnn : qn h = qn h + 0 := rfl
  have hzz : qz h = qz h + 0 := rfl
  refine x_lvE (lv2 := [(0, .ref l0), (1, .ref l1)]) rfl ?_
  refine x_aload_n (pc := 0) dX1_turnTo_0 rfl ?_
  refine x_getI (pc := 1) dX1_turnTo_1 qRX1_17 okl0 (by decide) ?_
  refine x_aload_n (pc := 4) dX1_turnTo_4 rfl ?_
  refine x_getI (pc := 5) dX1_turnTo_5 qRX1_17 okl1 (by decide) ?_
  refine x_icmp_ne (tgt := 33) (pc := 8) dX1_turnTo_8 (by decide) (fun c1 => ?_) (fun c1 => ?_)
  · have hwp := hwp.1 c1
    refine x_iconst (v := (-1)) (pc := 33) dX1_turnTo_33 (by decide) ?_
    exact x_iret (pc := 34) dX1_turnTo_34 rfl hex hnn hzz ⟨_, rfl, hwp⟩
  · have hwp := hwp.2 c1
    refine x_aload_n (pc := 11) dX1_turnTo_11 rfl ?_
    refine x_getI (pc := 12) dX1_turnTo_12 qRX1_21 okl0 (by decide) ?_
    refine x_aload_n (pc := 15) dX1_turnTo_15 rfl ?_
    refine x_getI (pc := 16) dX1_turnTo_16 qRX1_21 okl1 (by decide) ?_
    refine x_icmp_ne (tgt := 33) (pc := 19) dX1_turnTo_19 (by decide) (fun c2 => ?_) (fun c2 => ?_)
    · have hwp := hwp.1 c2
      refine x_iconst (v := (-1)) (pc := 33) dX1_turnTo_33 (by decide) ?_
      exact x_iret (pc := 34) dX1_turnTo_34 rfl hex hnn hzz ⟨_, rfl, hwp⟩
    · have hwp := hwp.2 c2
      refine x_aload_n (pc := 22) dX1_turnTo_22 rfl ?_
      refine x_getI (pc := 23) dX1_turnTo_23 qRX1_24 okl0 (by decide) ?_
      refine x_aload_n (pc := 26) dX1_turnTo_26 rfl ?_
      refine x_getI (pc := 27) dX1_turnTo_27 qRX1_24 okl1 (by decide) ?_
      refine x_icmp_eq (tgt := 35) (pc := 30) dX1_turnTo_30 (by decide) (fun c3 => ?_) (fun c3 => ?_)
      · have hwp := hwp.1 c3
        refine x_iconst (v := 0) (pc := 35) dX1_turnTo_35 (by decide) ?_
        refine x_istore_n (lv2 := [(2, .int 0), (0, .ref l0), (1, .ref l1)]) (pc := 36) dX1_turnTo_36 (by decide) rfl ?_
        refine x_sub [1, 2, 0] rfl ?_
        exact lp_X1_turnTo_37 G d h h l0 l1 Q hex hnn hzz okl0 okl1 hwp ⟨qEx.rf _, rfl, rfl⟩
      · have hwp := hwp.2 c3
        refine x_iconst (v := (-1)) (pc := 33) dX1_turnTo_33 (by decide) ?_
        exact x_iret (pc := 34) dX1_turnTo_34 rfl hex hnn hzz ⟨_, rfl, hwp⟩

theorem dX2_init_0 : decode cX2_init 0 = .ok (.aload_n 0, 1) := by decide +kernel
theorem dX2_init_1 : decode cX2_init 1 = .ok (.invokespecial 3, 3) := by decide +kernel
theorem dX2_init_4 : decode cX2_init 4 = .ok (.aload_n 0, 1) := by decide +kernel
theorem dX2_init_5 : decode cX2_init 5 = .ok (.bipush 60, 2) := by decide +kernel
theorem dX2_init_7 : decode cX2_init 7 = .ok (.newarray .int, 2) := by decide +kernel
theorem dX2_init_9 : decode cX2_init 9 = .ok (.putfield 11, 3) := by decide +kernel
theorem dX2_init_12 : decode cX2_init 12 = .ok (.aload_n 0, 1) := by decide +kernel
theorem dX2_init_13 : decode cX2_init 13 = .ok (.sipush 200, 3) := by decide +kernel
theorem dX2_init_16 : decode cX2_init 16 = .ok (.newarray .int, 2) := by decide +kernel
theorem dX2_init_18 : decode cX2_init 18 = .ok (.putfield 15, 3) := by decide +kernel
theorem dX2_init_21 : decode cX2_init 21 = .ok (.aload_n 0, 1) := by decide +kernel
theorem dX2_init_22 : decode cX2_init 22 = .ok (.sipush 200, 3) := by decide +kernel
theorem dX2_init_25 : decode cX2_init 25 = .ok (.newarray .int, 2) := by decide +kernel
theorem dX2_init_27 : decode cX2_init 27 = .ok (.putfield 18, 3) := by decide +kernel
theorem dX2_init_30 : decode cX2_init 30 = .ok (.aload_n 0, 1) := by decide +kernel
theorem dX2_init_31 : decode cX2_init 31 = .ok (.iconst 0, 1) := by decide +kernel
theorem dX2_init_32 : decode cX2_init 32 = .ok (.putfield 21, 3) := by decide +kernel
theorem dX2_init_35 : decode cX2_init 35 = .ok (.aload_n 0, 1) := by decide +kernel
theorem dX2_init_36 : decode cX2_init 36 = .ok (.iconst 0, 1) := by decide +kernel
theorem dX2_init_37 : decode cX2_init 37 = .ok (.putfield 25, 3) := by decide +kernel
theorem dX2_init_40 : decode cX2_init 40 = .ok (.aload_n 0, 1) := by decide +kernel
theorem dX2_init_41 : decode cX2_init 41 = .ok (.iconst 0, 1) := by decide +kernel
theorem dX2_init_42 : decode cX2_init 42 = .ok (.putfield 29, 3) := by decide +kernel
theorem dX2_init_45 : decode cX2_init 45 = .ok (.aload_n 0, 1) := by decide +kernel
theorem dX2_init_46 : decode cX2_init 46 = .ok (.lconst 0, 1) := by decide +kernel
theorem dX2_init_47 : decode cX2_init 47 = .ok (.putfield 32, 3) := by decide +kernel
theorem dX2_init_50 : decode cX2_init 50 = .ok (.aload_n 0, 1) := by decide +kernel
theorem dX2_init_51 : decode cX2_init 51 = .ok (.bipush 10, 2) := by decide +kernel
theorem dX2_init_53 : decode cX2_init 53 = .ok (.newarray .long, 2) := by decide +kernel
theorem dX2_init_55 : decode cX2_init 55 = .ok (.putfield 36, 3) := by decide +kernel
theorem dX2_init_58 : decode cX2_init 58 = .ok (.aload_n 0, 1) := by decide +kernel
theorem dX2_init_59 : decode cX2_init 59 = .ok (.iconst 0, 1) := by decide +kernel
theorem dX2_init_60 : decode cX2_init 60 = .ok (.putfield 40, 3) := by decide +kernel
theorem dX2_init_63 : decode cX2_init 63 = .ok (.aload_n 0, 1) := by decide +kernel
theorem dX2_init_64 : decode cX2_init 64 = .ok (.iconst 0, 1) := by decide +kernel
theorem dX2_init_65 : decode cX2_init 65 = .ok (.putfield 43, 3) := by decide +kernel
theorem dX2_init_68 : decode cX2_init 68 = .ok (.return_, 1) := by decide +kernel
def wp_X2_init (l0 : Nat) (h : PH) (Q : PH → Prop) : Prop := (qn h + 1 ≤ 1000000 ∧ ∀ h1, h1 = qnew h 14 60 60 → (∀ h3, h3 = qsR h1 l0 0 (some (qn h)) → (qn h3 + 1 ≤ 1000000 ∧ ∀ h4, h4 = qnew h3 14 200 200 → (∀ h6, h6 = qsR h4 l0 1 (some (qn h3)) → (qn h6 + 1 ≤ 1000000 ∧ ∀ h7, h7 = qnew h6 14 200 200 → (∀ h9, h9 = qsR h7 l0 2 (some (qn h6)) → (∀ h10, h10 = qsI h9 l0 3 0 → (∀ h11, h11 = qsI h10 l0 4 0 → (∀ h12, h12 = qsI h11 l0 5 0 → (∀ h13, h13 = qsJ h12 l0 6 0 → (qn h13 + 1 ≤ 1000000 ∧ ∀ h14, h14 = qnew h13 15 10 10 → (∀ h16, h16 = qsR h14 l0 7 (some (qn h13)) → (∀ h17, h17 = qsI h16 l0 8 0 → (∀ h18, h18 = qsI h17 l0 9 0 → Q h18))))))))))))))
set_option maxHeartbeats 4000000 in
set_option maxRecDepth 100000 in
theorem sn_X2_init (G : GT) (d : Nat) (l0 : Nat) (h : PH) (Q : PH → Prop) (okl0 : qOK h 2 l0) (hwp : wp_X2_init l0 h Q) : Mt G (1 + d) 4 470 mX2_init [.ref l0] h (qqv Q) := by
  unfold wp_X2_init at hwp
  refine Mt.of (by decide) rfl (Nat.le_of_ble_eq_true rfl) ?_
  have hex := qEx.rf h
  have hnn : qn h = qn h + 0 := rfl
  have hzz : qz h = qz h + 0 := rfl
  refine x_lvE (lv2 := [(0, .ref l0)]) rfl ?_
  refine x_aload_n (pc := 0) dX2_init_0 rfl ?_
  refine x_objInit (pc := 1) dX2_init_1 lRX2_3 wk_oi wk_oc (q_R1 (by omega)) (Nat.le_of_ble_eq_true rfl) ?_
  refine x_aload_n (pc := 4) dX2_init_4 rfl ?_
  refine x_bipush (v := 60) (pc := 5) dX2_init_5 (by decide) ?_
  obtain ⟨m2, hwp⟩ := hwp
  refine y_newa (t := 14) (N := 60) (t0 := 1) (ty := .int) (pc := 7) dX2_init_7 rfl (by decide) wk_ac_int (by decide) (by decide) (by decide) (q_C hnn hzz (by decide) (by decide)) m2 (fun h1 eh1 nwh1 okbh1 => ?_)
  have hwp := hwp h1 eh1
  have hex := hex.tr nwh1.1
  have hnn : qn h1 = qn h + 1 := by have := nwh1.2.1; omega
  have hzz : qz h1 = qz h + 60 := by have := nwh1.2.2; omega
  have okl0 := okl0.ex nwh1.1
  refine y_putF rfl (pc := 9) dX2_init_9 FRX2_11 okl0 okbh1 (fun h3 eh3 nxh3 => ?_)
  have hwp := hwp h3 eh3
  have hex := hex.tr nxh3.1
  have hnn := nxh3.2.1.trans hnn
  have hzz := nxh3.2.2.trans hzz
  have okl0 := okl0.ex nxh3.1
  have okbh1 := okbh1.ex nxh3.1
  refine x_aload_n (pc := 12) dX2_init_12 rfl ?_
  refine x_sipush (v := 200) (pc := 13) dX2_init_13 (by decide) ?_
  obtain ⟨m5, hwp⟩ := hwp
  refine y_newa (t := 14) (N := 200) (t0 := 1) (ty := .int) (pc := 16) dX2_init_16 rfl (by decide) wk_ac_int (by decide) (by decide) (by decide) (q_C hnn hzz (by decide) (by decide)) m5 (fun h4 eh4 nwh4 okbh4 => ?_)
  have hwp := hwp h4 eh4
  have hex := hex.tr nwh4.1
  have hnn : qn h4 = qn h + 2 := by have := nwh4.2.1; omega
  have hzz : qz h4 = qz h + 260 := by have := nwh4.2.2; omega
  have okl0 := okl0.ex nwh4.1
  have okbh1 := okbh1.ex nwh4.1
  refine y_putF rfl (pc := 18) dX2_init_18 FRX2_15 okl0 okbh4 (fun h6 eh6 nxh6 => ?_)
  have hwp := hwp h6 eh6
  have hex := hex.tr nxh6.1
  have hnn := nxh6.2.1.trans hnn
  have hzz := nxh6.2.2.trans hzz
  have okl0 := okl0.ex nxh6.1
  have okbh1 := okbh1.ex nxh6.1
  have okbh4 := okbh4.ex nxh6.1
  refine x_aload_n (pc := 21) dX2_init_21 rfl ?_
  refine x_sipush (v := 200) (pc := 22) dX2_init_22 (by decide) ?_
  obtain ⟨m8, hwp⟩ := hwp
  refine y_newa (t := 14) (N := 200) (t0 := 1) (ty := .int) (pc := 25) dX2_init_25 rfl (by decide) wk_ac_int (by decide) (by decide) (by decide) (q_C hnn hzz (by decide) (by decide)) m8 (fun h7 eh7 nwh7 okbh7 => ?_)
  have hwp := hwp h7 eh7
  have hex := hex.tr nwh7.1
  have hnn : qn h7 = qn h + 3 := by have := nwh7.2.1; omega
  have hzz : qz h7 = qz h + 460 := by have := nwh7.2.2; omega
  have okl0 := okl0.ex nwh7.1
  have okbh1 := okbh1.ex nwh7.1
  have okbh4 := okbh4.ex nwh7.1
  refine y_putF rfl (pc := 27) dX2_init_27 FRX2_18 okl0 okbh7 (fun h9 eh9 nxh9 => ?_)
  have hwp := hwp h9 eh9
  have hex := hex.tr nxh9.1
  have hnn := nxh9.2.1.trans hnn
  have hzz := nxh9.2.2.trans hzz
  have okl0 := okl0.ex nxh9.1
  have okbh1 := okbh1.ex nxh9.1
  have okbh4 := okbh4.ex nxh9.1
  have okbh7 := okbh7.ex nxh9.1
  refine x_aload_n (pc := 30) dX2_init_30 rfl ?_
  refine x_iconst (v := 0) (pc := 31) dX2_init_31 (by decide) ?_
  refine y_putI (pc := 32) dX2_init_32 qRX2_21 okl0 (fun h10 eh10 nxh10 => ?_)
  have hwp := hwp h10 eh10
  have hex := hex.tr nxh10.1
  have hnn := nxh10.2.1.trans hnn
  have hzz := nxh10.2.2.trans hzz
  have okl0 := okl0.ex nxh10.1
  have okbh1 := okbh1.ex nxh10.1
  have okbh4 := okbh4.ex nxh10.1
  have okbh7 := okbh7.ex nxh10.1
  refine x_aload_n (pc := 35) dX2_init_35 rfl ?_
  refine x_iconst (v := 0) (pc := 36) dX2_init_36 (by decide) ?_
  refine y_putZ (pc := 37) dX2_init_37 qRX2_25 okl0 (by decide) (fun h11 eh11 nxh11 => ?_)
  have hwp := hwp h11 eh11
  have hex := hex.tr nxh11.1
  have hnn := nxh11.2.1.trans hnn
  have hzz := nxh11.2.2.trans hzz
  have okl0 := okl0.ex nxh11.1
  have okbh1 := okbh1.ex nxh11.1
  have okbh4 := okbh4.ex nxh11.1
  have okbh7 := okbh7.ex nxh11.1
  refine x_aload_n (pc := 40) dX2_init_40 rfl ?_
  refine x_iconst (v := 0) (pc := 41) dX2_init_41 (by decide) ?_
  refine y_putI (pc := 42) dX2_init_42 qRX2_29 okl0 (fun h12 eh12 nxh12 => ?_)
  have hwp := hwp h12 eh12
  have hex := hex.tr nxh12.1
  have hnn := nxh12.2.1.trans hnn
  have hzz := nxh12.2.2.trans hzz
  have okl0 := okl0.ex nxh12.1
  have okbh1 := okbh1.ex nxh12.1
  have okbh4 := okbh4.ex nxh12.1
  have okbh7 := okbh7.ex nxh12.1
  refine x_aload_n (pc := 45) dX2_init_45 rfl ?_
  refine x_lconst (v := 0) (pc := 46) dX2_init_46 (by decide) ?_
  refine y_putJ (pc := 47) dX2_init_47 qRX2_32 okl0 (fun h13 eh13 nxh13 => ?_)
  have hwp := hwp h13 eh13
  have hex := hex.tr nxh13.1
  have hnn := nxh13.2.1.trans hnn
  have hzz := nxh13.2.2.trans hzz
  have okl0 := okl0.ex nxh13.1
  have okbh1 := okbh1.ex nxh13.1
  have okbh4 := okbh4.ex nxh13.1
  have okbh7 := okbh7.ex nxh13.1
  refine x_aload_n (pc := 50) dX2_init_50 rfl ?_
  refine x_bipush (v := 10) (pc := 51) dX2_init_51 (by decide) ?_
  obtain ⟨m15, hwp⟩ := hwp
  refine y_newa (t := 15) (N := 10) (t0 := 2) (ty := .long) (pc := 53) dX2_init_53 rfl (by decide) wk_ac_long (by decide) (by decide) (by decide) (q_C hnn hzz (by decide) (by decide)) m15 (fun h14 eh14 nwh14 okbh14 => ?_)
  have hwp := hwp h14 eh14
  have hex := hex.tr nwh14.1
  have hnn : qn h14 = qn h + 4 := by have := nwh14.2.1; omega
  have hzz : qz h14 = qz h + 470 := by have := nwh14.2.2; omega
  have okl0 := okl0.ex nwh14.1
  have okbh1 := okbh1.ex nwh14.1
  have okbh4 := okbh4.ex nwh14.1
  have okbh7 := okbh7.ex nwh14.1
  refine y_putF rfl (pc := 55) dX2_init_55 FRX2_36 okl0 okbh14 (fun h16 eh16 nxh16 => ?_)
  have hwp := hwp h16 eh16
  have hex := hex.tr nxh16.1
  have hnn := nxh16.2.1.trans hnn
  have hzz := nxh16.2.2.trans hzz
  have okl0 := okl0.ex nxh16.1
  have okbh1 := okbh1.ex nxh16.1
  have okbh4 := okbh4.ex nxh16.1
  have okbh7 := okbh7.ex nxh16.1
  have okbh14 := okbh14.ex nxh16.1
  refine x_aload_n (pc := 58) dX2_init_58 rfl ?_
  refine x_iconst (v := 0) (pc := 59) dX2_init_59 (by decide) ?_
  refine y_putI (pc := 60) dX2_init_60 qRX2_40 okl0 (fun h17 eh17 nxh17 => ?_)
  have hwp := hwp h17 eh17
  have hex := hex.tr nxh17.1
  have hnn := nxh17.2.1.trans hnn
  have hzz := nxh17.2.2.trans hzz
  have okl0 := okl0.ex nxh17.1
  have okbh1 := okbh1.ex nxh17.1
  have okbh4 := okbh4.ex nxh17.1
  have okbh7 := okbh7.ex nxh17.1
  have okbh14 := okbh14.ex nxh17.1
  refine x_aload_n (pc := 63) dX2_init_63 rfl ?_
  refine x_iconst (v := 0) (pc := 64) dX2_init_64 (by decide) ?_
  refine y_putI (pc := 65) dX2_init_65 qRX2_43 okl0 (fun h18 eh18 nxh18 => ?_)
  have hwp := hwp h18 eh18
  have hex := hex.tr nxh18.1
  have hnn := nxh18.2.1.trans hnn
  have hzz := nxh18.2.2.trans hzz
  have okl0 := okl0.ex nxh18.1
  have okbh1 := okbh1.ex nxh18.1
  have okbh4 := okbh4.ex nxh18.1
  have okbh7 := okbh7.ex nxh18.1
  have okbh14 := okbh14.ex nxh18.1
  exact x_vret (pc := 68) dX2_init_68 rfl hex hnn hzz ⟨rfl, hwp⟩

theorem dX2_show_0 : decode cX2_show 0 = .ok (.aload_n 0, 1) := by decide +kernel
theorem dX2_show_1 : decode cX2_show 1 = .ok (.iload_n 2, 1) := by decide +kernel
theorem dX2_show_2 : decode cX2_show 2 = .ok (.bipush 60, 2) := by decide +kernel
theorem dX2_show_4 : decode cX2_show 4 = .ok (.invokestatic 46, 3) := by decide +kernel
theorem dX2_show_7 : decode cX2_show 7 = .ok (.putfield 21, 3) := by decide +kernel
theorem dX2_show_10 : decode cX2_show 10 = .ok (.iconst 0, 1) := by decide +kernel
theorem dX2_show_11 : decode cX2_show 11 = .ok (.istore_n 3, 1) := by decide +kernel
theorem dX2_show_12 : decode cX2_show 12 = .ok (.iload_n 3, 1) := by decide +kernel
theorem dX2_show_13 : decode cX2_show 13 = .ok (.aload_n 0, 1) := by decide +kernel
theorem dX2_show_14 : decode cX2_show 14 = .ok (.getfield 21, 3) := by decide +kernel
theorem dX2_show_17 : decode cX2_show 17 = .ok (.if_icmp .ge 36, 3) := by decide +kernel
theorem dX2_show_20 : decode cX2_show 20 = .ok (.aload_n 0, 1) := by decide +kernel
theorem dX2_show_21 : decode cX2_show 21 = .ok (.getfield 11, 3) := by decide +kernel
theorem dX2_show_24 : decode cX2_show 24 = .ok (.iload_n 3, 1) := by decide +kernel
theorem dX2_show_25 : decode cX2_show 25 = .ok (.aload_n 1, 1) := by decide +kernel
theorem dX2_show_26 : decode cX2_show 26 = .ok (.iconst 2, 1) := by decide +kernel
theorem dX2_show_27 : decode cX2_show 27 = .ok (.iload_n 3, 1) := by decide +kernel
theorem dX2_show_28 : decode cX2_show 28 = .ok (.imul, 1) := by decide +kernel
theorem dX2_show_29 : decode cX2_show 29 = .ok (.invokevirtual 52, 3) := by decide +kernel
theorem dX2_show_32 : decode cX2_show 32 = .ok (.sipush 256, 3) := by decide +kernel
theorem dX2_show_35 : decode cX2_show 35 = .ok (.imul, 1) := by decide +kernel
theorem dX2_show_36 : decode cX2_show 36 = .ok (.aload_n 1, 1) := by decide +kernel
theorem dX2_show_37 : decode cX2_show 37 = .ok (.iconst 2, 1) := by decide +kernel
theorem dX2_show_38 : decode cX2_show 38 = .ok (.iload_n 3, 1) := by decide +kernel
theorem dX2_show_39 : decode cX2_show 39 = .ok (.imul, 1) := by decide +kernel
theorem dX2_show_40 : decode cX2_show 40 = .ok (.iconst 1, 1) := by decide +kernel
theorem dX2_show_41 : decode cX2_show 41 = .ok (.iadd, 1) := by decide +kernel
theorem dX2_show_42 : decode cX2_show 42 = .ok (.invokevirtual 52, 3) := by decide +kernel
theorem dX2_show_45 : decode cX2_show 45 = .ok (.iadd, 1) := by decide +kernel
theorem dX2_show_46 : decode cX2_show 46 = .ok (.iastore, 1) := by decide +kernel
theorem dX2_show_47 : decode cX2_show 47 = .ok (.iinc 3 1, 3) := by decide +kernel
theorem dX2_show_50 : decode cX2_show 50 = .ok (.goto (-38), 3) := by decide +kernel
theorem dX2_show_53 : decode cX2_show 53 = .ok (.return_, 1) := by decide +kernel
def E_X2_show_12 (G : GT) (d : Nat) (h0 hb : PH) (l0 : Nat) (l1 : Nat) (Q : PH → Prop) (s : Int32 × PH) : Prop := qEx hb s.2 ∧ qn s.2 = qn hb ∧ qz s.2 = qz hb → Ex G (qrm (1 + d) 0 0) mX2_show (qn h0) (qz h0) (ZN G h0 0 0 (qqv Q)) 12 [(0, .ref l0), (1, .ref l1), (3, .int s.1)] [] s.2
def wb_X2_show_12 (l0 : Nat) (l1 : Nat)  (Q : PH → Prop) (bk12 : Int32 × PH → Prop) (l3 : Int32) (h : PH) : Prop := (((qI h l0 3) ≤ l3 → Q h) ∧ (¬ ((qI h l0 3) ≤ l3) → (∃ b5, qR h l0 0 = some b5 ∧ (wp_X6_byteAt l1 (2 * l3) h (fun r8 h7 => (wp_X6_byteAt l1 ((2 * l3) + 1) h7 (fun r10 h9 => (vp_in l3 (qL h9 b5) ∧ ∀ h11, h11 = qsI h9 b5 l3.toNatClampNeg ((r8 * 256) + r10) → ∀ v13 : Int32, v13 = l3 + 1 → bk12 (v13, h11)))))))))
def wp_X2_show_12 (l0 : Nat) (l1 : Nat)  (Q : PH → Prop) (bk12 : Int32 × PH → Prop) (s : Int32 × PH) : Prop := wb_X2_show_12 l0 l1 Q bk12 s.1 s.2
set_option maxHeartbeats 4000000 in
set_option maxRecDepth 100000 in
theorem bd_X2_show_12 (G : GT) (d : Nat) (h0 hb : PH) (l0 : Nat) (l1 : Nat) (Q : PH → Prop)  (hex : qEx h0 hb) (hnn : qn hb = qn h0 + 0) (hzz : qz hb = qz h0 + 0) (okl0 : qOK hb 2 l0) (okl1 : qOK hb 6 l1) (bk12 : Int32 × PH → Prop) (hbk12 : ∀ s2, bk12 s2 → E_X2_show_12 G d h0 hb l0 l1 Q s2) (l3 : Int32) (h : PH) (hwp : wb_X2_show_12 l0 l1 Q bk12 l3 h) (hx12 : qEx hb h) (hn12 : qn h = qn hb) (hz12 : qz h = qz hb) : Ex G (qrm (1 + d) 0 0) mX2_show (qn h0) (qz h0) (ZN G h0 0 0 (qqv Q)) 12 [(0, .ref l0), (1, .ref l1), (3, .int l3)] [] h := by
  unfold wb_X2_show_12 at hwp
  have hex := hex.tr hx12
  have hnn := hn12.trans hnn
  have hzz := hz12.trans hzz
  have okl0 := okl0.ex hx12
  have okl1 := okl1.ex hx12
  refine x_iload_n (pc := 12) dX2_show_12 rfl ?_
  refine x_aload_n (pc := 13) dX2_show_13 rfl ?_
  refine x_getI (pc := 14) dX2_show_14 qRX2_21 okl0 (by decide) ?_
  refine x_icmp_ge (tgt := 53) (pc := 17) dX2_show_17 (by decide) (fun c4 => ?_) (fun c4 => ?_)
  · have hwp := hwp.1 c4
    exact x_vret (pc := 53) dX2_show_53 rfl hex hnn hzz ⟨rfl, hwp⟩
  · have hwp := hwp.2 c4
    refine x_aload_n (pc := 20) dX2_show_20 rfl ?_
    obtain ⟨b5, e6, hwp⟩ := hwp
    refine x_getR (pc := 21) dX2_show_21 qRX2_11 okl0 e6 (fun okb5 => ?_)
    refine x_iload_n (pc := 24) dX2_show_24 rfl ?_
    refine x_aload_n (pc := 25) dX2_show_25 rfl ?_
    refine x_iconst (v := 2) (pc := 26) dX2_show_26 (by decide) ?_
    refine x_iload_n (pc := 27) dX2_show_27 rfl ?_
    refine x_imul (pc := 28) dX2_show_28 ?_
    refine x_invV (As := [.int (2 * l3)]) (st := [.int l3, .ref b5]) (pc := 29) dX2_show_29 lRX2_52 fX6_byteAt vX6_byteAt okl1 rfl (Nat.le_of_ble_eq_true rfl) (q_R (by omega) (by decide)) (q_C hnn hzz (by decide) (by decide)) (sn_X6_byteAt G (d + 0) l1 (2 * l3) h _ okl1 hwp) (k_i (fun r8 h7 hwp cxh7 => ?_))
    have hex := hex.tr cxh7.1
    have hnn : qn h7 = qn h0 + 0 := by have := cxh7.2.1; omega
    have hzz : qz h7 = qz h0 + 0 := by have := cxh7.2.2; omega
    have hx12 := hx12.tr cxh7.1
    have hn12 : qn h7 = qn hb := by have := cxh7.2.1; omega
    have hz12 : qz h7 = qz hb := by have := cxh7.2.2; omega
    have okl0 := okl0.ex cxh7.1
    have okl1 := okl1.ex cxh7.1
    have okb5 := okb5.ex cxh7.1
    refine x_sipush (v := 256) (pc := 32) dX2_show_32 (by decide) ?_
    refine x_imul (pc := 35) dX2_show_35 ?_
    refine x_aload_n (pc := 36) dX2_show_36 rfl ?_
    refine x_iconst (v := 2) (pc := 37) dX2_show_37 (by decide) ?_
    refine x_iload_n (pc := 38) dX2_show_38 rfl ?_
    refine x_imul (pc := 39) dX2_show_39 ?_
    refine x_iconst (v := 1) (pc := 40) dX2_show_40 (by decide) ?_
    refine x_iadd (pc := 41) dX2_show_41 ?_
    refine x_invV (As := [.int ((2 * l3) + 1)]) (st := [.int (r8 * 256), .int l3, .ref b5]) (pc := 42) dX2_show_42 lRX2_52 fX6_byteAt vX6_byteAt okl1 rfl (Nat.le_of_ble_eq_true rfl) (q_R (by omega) (by decide)) (q_C hnn hzz (by decide) (by decide)) (sn_X6_byteAt G (d + 0) l1 ((2 * l3) + 1) h7 _ okl1 hwp) (k_i (fun r10 h9 hwp cxh9 => ?_))
    have hex := hex.tr cxh9.1
    have hnn : qn h9 = qn h0 + 0 := by have := cxh9.2.1; omega
    have hzz : qz h9 = qz h0 + 0 := by have := cxh9.2.2; omega
    have hx12 := hx12.tr cxh9.1
    have hn12 : qn h9 = qn hb := by have := cxh9.2.1; omega
    have hz12 : qz h9 = qz hb := by have := cxh9.2.2; omega
    have okl0 := okl0.ex cxh9.1
    have okl1 := okl1.ex cxh9.1
    have okb5 := okb5.ex cxh9.1
    refine x_iadd (pc := 45) dX2_show_45 ?_
    obtain ⟨i12, hwp⟩ := hwp
    refine y_iastore (pc := 46) dX2_show_46 okb5 i12 (fun h11 eh11 nxh11 => ?_)
    have hwp := hwp h11 eh11
    have hex := hex.tr nxh11.1
    have hnn := nxh11.2.1.trans hnn
    have hzz := nxh11.2.2.trans hzz
    have hx12 := hx12.tr nxh11.1
    have hn12 := nxh11.2.1.trans hn12
    have hz12 := nxh11.2.2.trans hz12
    have okl0 := okl0.ex nxh11.1
    have okl1 := okl1.ex nxh11.1
    have okb5 := okb5.ex nxh11.1
    refine y_iinc (c := 1) (pc := 47) dX2_show_47 rfl (by decide) (by decide) (fun v13 ev13 => ?_)
    have hwp := hwp v13 ev13
    refine x_lvE (lv2 := [(3, .int v13), (0, .ref l0), (1, .ref l1)]) rfl ?_
    refine x_goto (tgt := 12) (pc := 50) dX2_show_50 (by decide) ?_
    refine x_sub [1, 2, 0] rfl ?_
    exact hbk12 _ hwp ⟨hx12, hn12, hz12⟩
theorem lp_X2_show_12 (G : GT) (d : Nat) (h0 hb : PH) (l0 : Nat) (l1 : Nat) (Q : PH → Prop)  (hex : qEx h0 hb) (hnn : qn hb = qn h0 + 0) (hzz : qz hb = qz h0 + 0) (okl0 : qOK hb 2 l0) (okl1 : qOK hb 6 l1) {s : Int32 × PH} (hwp : qLoop (wp_X2_show_12 l0 l1 Q) s) : E_X2_show_12 G d h0 hb l0 l1 Q s :=
  qLoop.use (E := E_X2_show_12 G d h0 hb l0 l1 Q) (fun back s hbk hw hx => bd_X2_show_12 G d h0 hb l0 l1 Q hex hnn hzz okl0 okl1 back hbk s.1 s.2 hw hx.1 hx.2.1 hx.2.2) hwp
def wp_X2_show (l0 : Nat) (l1 : Nat) (l2 : Int32) (h : PH) (Q : PH → Prop) : Prop := (wp_J9_min_7cf53 l2 60 h (fun r2 h1 => (∀ h3, h3 = qsI h1 l0 3 r2 → (qLoop (wp_X2_show_12 l0 l1 Q) (0, h3)))))
set_option maxHeartbeats 4000000 in
set_option maxRecDepth 100000 in
theorem sn_X2_show (G : GT) (d : Nat) (l0 : Nat) (l1 : Nat) (l2 : Int32) (h : PH) (Q : PH → Prop) (okl0 : qOK h 2 l0) (okl1 : qOK h 6 l1) (hwp : wp_X2_show l0 l1 l2 h Q) : Mt G (1 + d) 0 0 mX2_show [.ref l0, .ref l1, .int l2] h (qqv Q) := by
  unfold wp_X2_show at hwp
  refine Mt.of (by decide) rfl (Nat.le_of_ble_eq_true rfl) ?_
  have hex := qEx.rf h
  have hnn : qn h = qn h + 0 := rfl
  have hzz : qz h = qz h + 0 := rfl
  refine x_lvE (lv2 := [(0, .ref l0), (1, .ref l1), (2, .int l2)]) rfl ?_
  refine x_aload_n (pc := 0) dX2_show_0 rfl ?_
  refine x_iload_n (pc := 1) dX2_show_1 rfl ?_
  refine x_bipush (v := 60) (pc := 2) dX2_show_2 (by decide) ?_
  refine x_invS (As := [.int l2, .int 60]) (st := [.ref l0]) (pc := 4) dX2_show_4 lRX2_46 fJ9_min_7cf53 sJ9_min_7cf53 rfl (Nat.le_of_ble_eq_true rfl) (q_R (by omega) (by decide)) (q_C hnn hzz (by decide) (by decide)) (sn_J9_min_7cf53 G (d + 0) l2 60 h _  hwp) (k_i (fun r2 h1 hwp cxh1 => ?_))
  have hex := hex.tr cxh1.1
  have hnn : qn h1 = qn h + 0 := by have := cxh1.2.1; omega
  have hzz : qz h1 = qz h + 0 := by have := cxh1.2.2; omega
  have okl0 := okl0.ex cxh1.1
  have okl1 := okl1.ex cxh1.1
  refine y_putI (pc := 7) dX2_show_7 qRX2_21 okl0 (fun h3 eh3 nxh3 => ?_)
  have hwp := hwp h3 eh3
  have hex := hex.tr nxh3.1
  have hnn := nxh3.2.1.trans hnn
  have hzz := nxh3.2.2.trans hzz
  have okl0 := okl0.ex nxh3.1
  have okl1 := okl1.ex nxh3.1
  refine x_iconst (v := 0) (pc := 10) dX2_show_10 (by decide) ?_
  refine x_istore_n (lv2 := [(3, .int 0), (0, .ref l0), (1, .ref l1), (2, .int l2)]) (pc := 11) dX2_show_11 (by decide) rfl ?_
  refine x_sub [1, 2, 0] rfl ?_
  exact lp_X2_show_12 G d h h3 l0 l1 Q hex hnn hzz okl0 okl1 hwp ⟨qEx.rf _, rfl, rfl⟩

theorem dX2_comesWithout_0 : decode cX2_comesWithout 0 = .ok (.iload_n 3, 1) := by decide +kernel
theorem dX2_comesWithout_1 : decode cX2_comesWithout 1 = .ok (.istore 4, 2) := by decide +kernel
theorem dX2_comesWithout_3 : decode cX2_comesWithout 3 = .ok (.iload_n 2, 1) := by decide +kernel
theorem dX2_comesWithout_4 : decode cX2_comesWithout 4 = .ok (.istore 5, 2) := by decide +kernel
theorem dX2_comesWithout_6 : decode cX2_comesWithout 6 = .ok (.iconst 0, 1) := by decide +kernel
theorem dX2_comesWithout_7 : decode cX2_comesWithout 7 = .ok (.istore 6, 2) := by decide +kernel
theorem dX2_comesWithout_9 : decode cX2_comesWithout 9 = .ok (.iload 6, 2) := by decide +kernel
theorem dX2_comesWithout_11 : decode cX2_comesWithout 11 = .ok (.aload_n 0, 1) := by decide +kernel
theorem dX2_comesWithout_12 : decode cX2_comesWithout 12 = .ok (.getfield 21, 3) := by decide +kernel
theorem dX2_comesWithout_15 : decode cX2_comesWithout 15 = .ok (.if_icmp .ge 51, 3) := by decide +kernel
theorem dX2_comesWithout_18 : decode cX2_comesWithout 18 = .ok (.iload 4, 2) := by decide +kernel
theorem dX2_comesWithout_20 : decode cX2_comesWithout 20 = .ok (.aload_n 1, 1) := by decide +kernel
theorem dX2_comesWithout_21 : decode cX2_comesWithout 21 = .ok (.getfield 58, 3) := by decide +kernel
theorem dX2_comesWithout_24 : decode cX2_comesWithout 24 = .ok (.iload 5, 2) := by decide +kernel
theorem dX2_comesWithout_26 : decode cX2_comesWithout 26 = .ok (.iaload, 1) := by decide +kernel
theorem dX2_comesWithout_27 : decode cX2_comesWithout 27 = .ok (.iadd, 1) := by decide +kernel
theorem dX2_comesWithout_28 : decode cX2_comesWithout 28 = .ok (.istore 4, 2) := by decide +kernel
theorem dX2_comesWithout_30 : decode cX2_comesWithout 30 = .ok (.iload 4, 2) := by decide +kernel
theorem dX2_comesWithout_32 : decode cX2_comesWithout 32 = .ok (.ifCond .lt 18, 3) := by decide +kernel
theorem dX2_comesWithout_35 : decode cX2_comesWithout 35 = .ok (.iload 4, 2) := by decide +kernel
theorem dX2_comesWithout_37 : decode cX2_comesWithout 37 = .ok (.bipush 10, 2) := by decide +kernel
theorem dX2_comesWithout_39 : decode cX2_comesWithout 39 = .ok (.idiv, 1) := by decide +kernel
theorem dX2_comesWithout_40 : decode cX2_comesWithout 40 = .ok (.aload_n 0, 1) := by decide +kernel
theorem dX2_comesWithout_41 : decode cX2_comesWithout 41 = .ok (.getfield 11, 3) := by decide +kernel
theorem dX2_comesWithout_44 : decode cX2_comesWithout 44 = .ok (.iload 6, 2) := by decide +kernel
theorem dX2_comesWithout_46 : decode cX2_comesWithout 46 = .ok (.iaload, 1) := by decide +kernel
theorem dX2_comesWithout_47 : decode cX2_comesWithout 47 = .ok (.if_icmp .eq 5, 3) := by decide +kernel
theorem dX2_comesWithout_50 : decode cX2_comesWithout 50 = .ok (.iconst 0, 1) := by decide +kernel
theorem dX2_comesWithout_51 : decode cX2_comesWithout 51 = .ok (.ireturn, 1) := by decide +kernel
theorem dX2_comesWithout_52 : decode cX2_comesWithout 52 = .ok (.aload_n 1, 1) := by decide +kernel
theorem dX2_comesWithout_53 : decode cX2_comesWithout 53 = .ok (.iload 5, 2) := by decide +kernel
theorem dX2_comesWithout_55 : decode cX2_comesWithout 55 = .ok (.invokevirtual 63, 3) := by decide +kernel
theorem dX2_comesWithout_58 : decode cX2_comesWithout 58 = .ok (.istore 5, 2) := by decide +kernel
theorem dX2_comesWithout_60 : decode cX2_comesWithout 60 = .ok (.iinc 6 1, 3) := by decide +kernel
theorem dX2_comesWithout_63 : decode cX2_comesWithout 63 = .ok (.goto (-54), 3) := by decide +kernel
theorem dX2_comesWithout_66 : decode cX2_comesWithout 66 = .ok (.iconst 1, 1) := by decide +kernel
theorem dX2_comesWithout_67 : decode cX2_comesWithout 67 = .ok (.ireturn, 1) := by decide +kernel
def E_X2_comesWithout_9 (G : GT) (d : Nat) (h0 hb : PH) (l0 : Nat) (l1 : Nat) (Q : Int32 → PH → Prop) (s : Int32 × Int32 × Int32 × PH) : Prop := qEx hb s.2.2.2 ∧ qn s.2.2.2 = qn hb ∧ qz s.2.2.2 = qz hb → Ex G (qrm (1 + d) 0 0) mX2_comesWithout (qn h0) (qz h0) (ZN G h0 0 0 (qqb Q)) 9 [(0, .ref l0), (1, .ref l1), (4, .int s.1), (5, .int s.2.1), (6, .int s.2.2.1)] [] s.2.2.2
def wb_X2_comesWithout_9 (l0 : Nat) (l1 : Nat)  (Q : Int32 → PH → Prop) (bk9 : Int32 × Int32 × Int32 × PH → Prop) (l4 : Int32) (l5 : Int32) (l6 : Int32) (h : PH) : Prop := (((qI h l0 3) ≤ l6 → Q 1 h) ∧ (¬ ((qI h l0 3) ≤ l6) → (∃ b2, qR h l1 0 = some b2 ∧ (vp_in l5 (qL h b2) ∧ ∀ v5 : Int32, v5 = l4 + (qI h b2 l5.toNatClampNeg) → ((v5 < 0 → Q 0 h) ∧ (¬ (v5 < 0) → (∃ b7, qR h l0 0 = some b7 ∧ (vp_in l6 (qL h b7) ∧ (((v5 / 10) = (qI h b7 l6.toNatClampNeg) → (wp_X10_after l1 l5 h (fun r12 h11 => ∀ v13 : Int32, v13 = l6 + 1 → bk9 (v5, r12, v13, h11)))) ∧ (¬ ((v5 / 10) = (qI h b7 l6.toNatClampNeg)) → Q 0 h))))))))))
def wp_X2_comesWithout_9 (l0 : Nat) (l1 : Nat)  (Q : Int32 → PH → Prop) (bk9 : Int32 × Int32 × Int32 × PH → Prop) (s : Int32 × Int32 × Int32 × PH) : Prop := wb_X2_comesWithout_9 l0 l1 Q bk9 s.1 s.2.1 s.2.2.1 s.2.2.2
set_option maxHeartbeats 4000000 in
set_option maxRecDepth 100000 in
theorem bd_X2_comesWithout_9 (G : GT) (d : Nat) (h0 hb : PH) (l0 : Nat) (l1 : Nat) (Q : Int32 → PH → Prop)  (hex : qEx h0 hb) (hnn : qn hb = qn h0 + 0) (hzz : qz hb = qz h0 + 0) (okl0 : qOK hb 2 l0) (okl1 : qOK hb 9 l1) (bk9 : Int32 × Int32 × Int32 × PH → Prop) (hbk9 : ∀ s2, bk9 s2 → E_X2_comesWithout_9 G d h0 hb l0 l1 Q s2) (l4 : Int32) (l5 : Int32) (l6 : Int32) (h : PH) (hwp : wb_X2_comesWithout_9 l0 l1 Q bk9 l4 l5 l6 h) (hx9 : qEx hb h) (hn9 : qn h = qn hb) (hz9 : qz h = qz hb) : Ex G (qrm (1 + d) 0 0) mX2_comesWithout (qn h0) (qz h0) (ZN G h0 0 0 (qqb Q)) 9 [(0, .ref l0), (1, .ref l1), (4, .int l4), (5, .int l5), (6, .int l6)] [] h := by
  unfold wb_X2_comesWithout_9 at hwp
  have hex := hex.tr hx9
  have hnn := hn9.trans hnn
  have hzz := hz9.trans hzz
  have okl0 := okl0.ex hx9
  have okl1 := okl1.ex hx9
  refine x_iload (pc := 9) dX2_comesWithout_9 rfl ?_
  refine x_aload_n (pc := 11) dX2_comesWithout_11 rfl ?_
  refine x_getI (pc := 12) dX2_comesWithout_12 qRX2_21 okl0 (by decide) ?_
  refine x_icmp_ge (tgt := 66) (pc := 15) dX2_comesWithout_15 (by decide) (fun c1 => ?_) (fun c1 => ?_)
  · have hwp := hwp.1 c1
    refine x_iconst (v := 1) (pc := 66) dX2_comesWithout_66 (by decide) ?_
    exact x_zret (pc := 67) dX2_comesWithout_67 rfl hex hnn hzz (by decide) ⟨_, rfl, by decide, hwp⟩
  · have hwp := hwp.2 c1
    refine x_iload (pc := 18) dX2_comesWithout_18 rfl ?_
    refine x_aload_n (pc := 20) dX2_comesWithout_20 rfl ?_
    obtain ⟨b2, e3, hwp⟩ := hwp
    refine x_getR (pc := 21) dX2_comesWithout_21 qRX2_58 okl1 e3 (fun okb2 => ?_)
    refine x_iload (pc := 24) dX2_comesWithout_24 rfl ?_
    obtain ⟨i4, hwp⟩ := hwp
    refine x_iaload (pc := 26) dX2_comesWithout_26 okb2 i4 ?_
    refine x_iadd (pc := 27) dX2_comesWithout_27 ?_
    refine x_nmI (fun v5 ev5 => ?_)
    have hwp := hwp v5 ev5
    refine x_istore (lv2 := [(4, .int v5), (0, .ref l0), (1, .ref l1), (5, .int l5), (6, .int l6)]) (pc := 28) dX2_comesWithout_28 (by decide) rfl ?_
    refine x_iload (pc := 30) dX2_comesWithout_30 rfl ?_
    refine x_if_lt (tgt := 50) (pc := 32) dX2_comesWithout_32 (by decide) (fun c6 => ?_) (fun c6 => ?_)
    · have hwp := hwp.1 c6
      refine x_iconst (v := 0) (pc := 50) dX2_comesWithout_50 (by decide) ?_
      exact x_zret (pc := 51) dX2_comesWithout_51 rfl hex hnn hzz (by decide) ⟨_, rfl, by decide, hwp⟩
    · have hwp := hwp.2 c6
      refine x_iload (pc := 35) dX2_comesWithout_35 rfl ?_
      refine x_bipush (v := 10) (pc := 37) dX2_comesWithout_37 (by decide) ?_
      refine x_idiv (pc := 39) dX2_comesWithout_39 (by decide) ?_
      refine x_aload_n (pc := 40) dX2_comesWithout_40 rfl ?_
      obtain ⟨b7, e8, hwp⟩ := hwp
      refine x_getR (pc := 41) dX2_comesWithout_41 qRX2_11 okl0 e8 (fun okb7 => ?_)
      refine x_iload (pc := 44) dX2_comesWithout_44 rfl ?_
      obtain ⟨i9, hwp⟩ := hwp
      refine x_iaload (pc := 46) dX2_comesWithout_46 okb7 i9 ?_
      refine x_icmp_eq (tgt := 52) (pc := 47) dX2_comesWithout_47 (by decide) (fun c10 => ?_) (fun c10 => ?_)
      · have hwp := hwp.1 c10
        refine x_aload_n (pc := 52) dX2_comesWithout_52 rfl ?_
        refine x_iload (pc := 53) dX2_comesWithout_53 rfl ?_
        refine x_invV (As := [.int l5]) (st := []) (pc := 55) dX2_comesWithout_55 lRX2_63 fX10_after vX10_after okl1 rfl (Nat.le_of_ble_eq_true rfl) (q_R (by omega) (by decide)) (q_C hnn hzz (by decide) (by decide)) (sn_X10_after G (d + 0) l1 l5 h _ okl1 hwp) (k_i (fun r12 h11 hwp cxh11 => ?_))
        have hex := hex.tr cxh11.1
        have hnn : qn h11 = qn h0 + 0 := by have := cxh11.2.1; omega
        have hzz : qz h11 = qz h0 + 0 := by have := cxh11.2.2; omega
        have hx9 := hx9.tr cxh11.1
        have hn9 : qn h11 = qn hb := by have := cxh11.2.1; omega
        have hz9 : qz h11 = qz hb := by have := cxh11.2.2; omega
        have okl0 := okl0.ex cxh11.1
        have okl1 := okl1.ex cxh11.1
        have okb2 := okb2.ex cxh11.1
        have okb7 := okb7.ex cxh11.1
        refine x_istore (lv2 := [(5, .int r12), (4, .int v5), (0, .ref l0), (1, .ref l1), (6, .int l6)]) (pc := 58) dX2_comesWithout_58 (by decide) rfl ?_
        refine y_iinc (c := 1) (pc := 60) dX2_comesWithout_60 rfl (by decide) (by decide) (fun v13 ev13 => ?_)
        have hwp := hwp v13 ev13
        refine x_lvE (lv2 := [(6, .int v13), (5, .int r12), (4, .int v5), (0, .ref l0), (1, .ref l1)]) rfl ?_
        refine x_goto (tgt := 9) (pc := 63) dX2_comesWithout_63 (by decide) ?_
        refine x_sub [3, 4, 2, 1, 0] rfl ?_
        exact hbk9 _ hwp ⟨hx9, hn9, hz9⟩
      · have hwp := hwp.2 c10
        refine x_iconst (v := 0) (pc := 50) dX2_comesWithout_50 (by decide) ?_
        exact x_zret (pc := 51) dX2_comesWithout_51 rfl hex hnn hzz (by decide) ⟨_, rfl, by decide, hwp⟩
theorem lp_X2_comesWithout_9 (G : GT) (d : Nat) (h0 hb : PH) (l0 : Nat) (l1 : Nat) (Q : Int32 → PH → Prop)  (hex : qEx h0 hb) (hnn : qn hb = qn h0 + 0) (hzz : qz hb = qz h0 + 0) (okl0 : qOK hb 2 l0) (okl1 : qOK hb 9 l1) {s : Int32 × Int32 × Int32 × PH} (hwp : qLoop (wp_X2_comesWithout_9 l0 l1 Q) s) : E_X2_comesWithout_9 G d h0 hb l0 l1 Q s :=
  qLoop.use (E := E_X2_comesWithout_9 G d h0 hb l0 l1 Q) (fun back s hbk hw hx => bd_X2_comesWithout_9 G d h0 hb l0 l1 Q hex hnn hzz okl0 okl1 back hbk s.1 s.2.1 s.2.2.1 s.2.2.2 hw hx.1 hx.2.1 hx.2.2) hwp
def wp_X2_comesWithout (l0 : Nat) (l1 : Nat) (l2 : Int32) (l3 : Int32) (h : PH) (Q : Int32 → PH → Prop) : Prop := (qLoop (wp_X2_comesWithout_9 l0 l1 Q) (l3, l2, 0, h))
set_option maxHeartbeats 4000000 in
set_option maxRecDepth 100000 in
theorem sn_X2_comesWithout (G : GT) (d : Nat) (l0 : Nat) (l1 : Nat) (l2 : Int32) (l3 : Int32) (h : PH) (Q : Int32 → PH → Prop) (okl0 : qOK h 2 l0) (okl1 : qOK h 9 l1) (hwp : wp_X2_comesWithout l0 l1 l2 l3 h Q) : Mt G (1 + d) 0 0 mX2_comesWithout [.ref l0, .ref l1, .int l2, .int l3] h (qqb Q) := by
  unfold wp_X2_comesWithout at hwp
  refine Mt.of (by decide) rfl (Nat.le_of_ble_eq_true rfl) ?_
  have hex := qEx.rf h
  have hnn : qn h = qn h + 0 := rfl
  have hzz : qz h = qz h + 0 := rfl
  refine x_lvE (lv2 := [(0, .ref l0), (1, .ref l1), (2, .int l2), (3, .int l3)]) rfl ?_
  refine x_iload_n (pc := 0) dX2_comesWithout_0 rfl ?_
  refine x_istore (lv2 := [(4, .int l3), (0, .ref l0), (1, .ref l1), (2, .int l2), (3, .int l3)]) (pc := 1) dX2_comesWithout_1 (by decide) rfl ?_
  refine x_iload_n (pc := 3) dX2_comesWithout_3 rfl ?_
  refine x_istore (lv2 := [(5, .int l2), (4, .int l3), (0, .ref l0), (1, .ref l1), (2, .int l2), (3, .int l3)]) (pc := 4) dX2_comesWithout_4 (by decide) rfl ?_
  refine x_iconst (v := 0) (pc := 6) dX2_comesWithout_6 (by decide) ?_
  refine x_istore (lv2 := [(6, .int 0), (5, .int l2), (4, .int l3), (0, .ref l0), (1, .ref l1), (2, .int l2), (3, .int l3)]) (pc := 7) dX2_comesWithout_7 (by decide) rfl ?_
  refine x_sub [3, 4, 2, 1, 0] rfl ?_
  exact lp_X2_comesWithout_9 G d h h l0 l1 Q hex hnn hzz okl0 okl1 hwp ⟨qEx.rf _, rfl, rfl⟩

theorem dX2_add_0 : decode cX2_add 0 = .ok (.aload_n 0, 1) := by decide +kernel
theorem dX2_add_1 : decode cX2_add 1 = .ok (.getfield 29, 3) := by decide +kernel
theorem dX2_add_4 : decode cX2_add 4 = .ok (.ifCond .lt 33, 3) := by decide +kernel
theorem dX2_add_7 : decode cX2_add 7 = .ok (.aload_n 0, 1) := by decide +kernel
theorem dX2_add_8 : decode cX2_add 8 = .ok (.getfield 29, 3) := by decide +kernel
theorem dX2_add_11 : decode cX2_add 11 = .ok (.sipush 200, 3) := by decide +kernel
theorem dX2_add_14 : decode cX2_add 14 = .ok (.if_icmp .ge 23, 3) := by decide +kernel
theorem dX2_add_17 : decode cX2_add 17 = .ok (.aload_n 0, 1) := by decide +kernel
theorem dX2_add_18 : decode cX2_add 18 = .ok (.getfield 15, 3) := by decide +kernel
theorem dX2_add_21 : decode cX2_add 21 = .ok (.aload_n 0, 1) := by decide +kernel
theorem dX2_add_22 : decode cX2_add 22 = .ok (.getfield 29, 3) := by decide +kernel
theorem dX2_add_25 : decode cX2_add 25 = .ok (.iload_n 1, 1) := by decide +kernel
theorem dX2_add_26 : decode cX2_add 26 = .ok (.iastore, 1) := by decide +kernel
theorem dX2_add_27 : decode cX2_add 27 = .ok (.aload_n 0, 1) := by decide +kernel
theorem dX2_add_28 : decode cX2_add 28 = .ok (.getfield 18, 3) := by decide +kernel
theorem dX2_add_31 : decode cX2_add 31 = .ok (.aload_n 0, 1) := by decide +kernel
theorem dX2_add_32 : decode cX2_add 32 = .ok (.getfield 29, 3) := by decide +kernel
theorem dX2_add_35 : decode cX2_add 35 = .ok (.iload_n 2, 1) := by decide +kernel
theorem dX2_add_36 : decode cX2_add 36 = .ok (.iastore, 1) := by decide +kernel
theorem dX2_add_37 : decode cX2_add 37 = .ok (.aload_n 0, 1) := by decide +kernel
theorem dX2_add_38 : decode cX2_add 38 = .ok (.dup, 1) := by decide +kernel
theorem dX2_add_39 : decode cX2_add 39 = .ok (.getfield 29, 3) := by decide +kernel
theorem dX2_add_42 : decode cX2_add 42 = .ok (.iconst 1, 1) := by decide +kernel
theorem dX2_add_43 : decode cX2_add 43 = .ok (.iadd, 1) := by decide +kernel
theorem dX2_add_44 : decode cX2_add 44 = .ok (.putfield 29, 3) := by decide +kernel
theorem dX2_add_47 : decode cX2_add 47 = .ok (.aload_n 0, 1) := by decide +kernel
theorem dX2_add_48 : decode cX2_add 48 = .ok (.dup, 1) := by decide +kernel
theorem dX2_add_49 : decode cX2_add 49 = .ok (.getfield 32, 3) := by decide +kernel
theorem dX2_add_52 : decode cX2_add 52 = .ok (.lconst 1, 1) := by decide +kernel
theorem dX2_add_53 : decode cX2_add 53 = .ok (.iload_n 1, 1) := by decide +kernel
theorem dX2_add_54 : decode cX2_add 54 = .ok (.lshl, 1) := by decide +kernel
theorem dX2_add_55 : decode cX2_add 55 = .ok (.lor, 1) := by decide +kernel
theorem dX2_add_56 : decode cX2_add 56 = .ok (.putfield 32, 3) := by decide +kernel
theorem dX2_add_59 : decode cX2_add 59 = .ok (.return_, 1) := by decide +kernel
def wp_X2_add_37 (l0 : Nat) (l1 : Int32)  (h : PH) (Q : PH → Prop) : Prop := (∀ h11, h11 = qsI h l0 5 ((qI h l0 5) + 1) → (∀ h12, h12 = qsJ h11 l0 6 ((qJ h11 l0 6) ||| (1 <<< (l1.toInt64 &&& 63))) → Q h12))
set_option maxHeartbeats 4000000 in
set_option maxRecDepth 100000 in
theorem sg_X2_add_37 (G : GT) (d : Nat) (h0 : PH) (l0 : Nat) (l1 : Int32) (h : PH) (Q : PH → Prop) (hex : qEx h0 h) (hnn : qn h = qn h0 + 0) (hzz : qz h = qz h0 + 0) (okl0 : qOK h 2 l0) (hwp : wp_X2_add_37 l0 l1 h Q) : Ex G (qrm (0 + d) 0 0) mX2_add (qn h0) (qz h0) (ZN G h0 0 0 (qqv Q)) 37 [(0, .ref l0), (1, .int l1)] [] h := by
  unfold wp_X2_add_37 at hwp
  refine x_aload_n (pc := 37) dX2_add_37 rfl ?_
  refine x_dup (pc := 38) dX2_add_38 rfl ?_
  refine x_getI (pc := 39) dX2_add_39 qRX2_29 okl0 (by decide) ?_
  refine x_iconst (v := 1) (pc := 42) dX2_add_42 (by decide) ?_
  refine x_iadd (pc := 43) dX2_add_43 ?_
  refine y_putI (pc := 44) dX2_add_44 qRX2_29 okl0 (fun h11 eh11 nxh11 => ?_)
  have hwp := hwp h11 eh11
  have hex := hex.tr nxh11.1
  have hnn := nxh11.2.1.trans hnn
  have hzz := nxh11.2.2.trans hzz
  have okl0 := okl0.ex nxh11.1
  refine x_aload_n (pc := 47) dX2_add_47 rfl ?_
  refine x_dup (pc := 48) dX2_add_48 rfl ?_
  refine x_getJ (pc := 49) dX2_add_49 qRX2_32 okl0 ?_
  refine x_lconst (v := 1) (pc := 52) dX2_add_52 (by decide) ?_
  refine x_iload_n (pc := 53) dX2_add_53 rfl ?_
  refine x_lshl (pc := 54) dX2_add_54 ?_
  refine x_lor (pc := 55) dX2_add_55 ?_
  refine y_putJ (pc := 56) dX2_add_56 qRX2_32 okl0 (fun h12 eh12 nxh12 => ?_)
  have hwp := hwp h12 eh12
  have hex := hex.tr nxh12.1
  have hnn := nxh12.2.1.trans hnn
  have hzz := nxh12.2.2.trans hzz
  have okl0 := okl0.ex nxh12.1
  exact x_vret (pc := 59) dX2_add_59 rfl hex hnn hzz ⟨rfl, hwp⟩
def wp_X2_add (l0 : Nat) (l1 : Int32) (l2 : Int32) (h : PH) (Q : PH → Prop) : Prop := (((qI h l0 5) < 0 → (wp_X2_add_37 l0 l1 h Q)) ∧ (¬ ((qI h l0 5) < 0) → ((200 ≤ (qI h l0 5) → (wp_X2_add_37 l0 l1 h Q)) ∧ (¬ (200 ≤ (qI h l0 5)) → (∃ b3, qR h l0 1 = some b3 ∧ (vp_in (qI h l0 5) (qL h b3) ∧ ∀ h5, h5 = qsI h b3 (qI h l0 5).toNatClampNeg l1 → (∃ b7, qR h5 l0 2 = some b7 ∧ (vp_in (qI h5 l0 5) (qL h5 b7) ∧ ∀ h9, h9 = qsI h5 b7 (qI h5 l0 5).toNatClampNeg l2 → (wp_X2_add_37 l0 l1 h9 Q)))))))))
set_option maxHeartbeats 4000000 in
set_option maxRecDepth 100000 in
theorem sn_X2_add (G : GT) (d : Nat) (l0 : Nat) (l1 : Int32) (l2 : Int32) (h : PH) (Q : PH → Prop) (okl0 : qOK h 2 l0) (hwp : wp_X2_add l0 l1 l2 h Q) : Mt G (0 + d) 0 0 mX2_add [.ref l0, .int l1, .int l2] h (qqv Q) := by
  unfold wp_X2_add at hwp
  refine Mt.of (by decide) rfl (Nat.le_of_ble_eq_true rfl) ?_
  have hex := qEx.rf h
  have hnn : qn h = qn h + 0 := rfl
  have hzz : qz h = qz h + 0 := rfl
  refine x_lvE (lv2 := [(0, .ref l0), (1, .int l1), (2, .int l2)]) rfl ?_
  refine x_aload_n (pc := 0) dX2_add_0 rfl ?_
  refine x_getI (pc := 1) dX2_add_1 qRX2_29 okl0 (by decide) ?_
  refine x_if_lt (tgt := 37) (pc := 4) dX2_add_4 (by decide) (fun c1 => ?_) (fun c1 => ?_)
  · have hwp := hwp.1 c1
    refine x_sub [0, 1] rfl ?_
    exact sg_X2_add_37 G d h l0 l1 h Q hex hnn hzz okl0 hwp
  · have hwp := hwp.2 c1
    refine x_aload_n (pc := 7) dX2_add_7 rfl ?_
    refine x_getI (pc := 8) dX2_add_8 qRX2_29 okl0 (by decide) ?_
    refine x_sipush (v := 200) (pc := 11) dX2_add_11 (by decide) ?_
    refine x_icmp_ge (tgt := 37) (pc := 14) dX2_add_14 (by decide) (fun c2 => ?_) (fun c2 => ?_)
    · have hwp := hwp.1 c2
      refine x_sub [0, 1] rfl ?_
      exact sg_X2_add_37 G d h l0 l1 h Q hex hnn hzz okl0 hwp
    · have hwp := hwp.2 c2
      refine x_aload_n (pc := 17) dX2_add_17 rfl ?_
      obtain ⟨b3, e4, hwp⟩ := hwp
      refine x_getR (pc := 18) dX2_add_18 qRX2_15 okl0 e4 (fun okb3 => ?_)
      refine x_aload_n (pc := 21) dX2_add_21 rfl ?_
      refine x_getI (pc := 22) dX2_add_22 qRX2_29 okl0 (by decide) ?_
      refine x_iload_n (pc := 25) dX2_add_25 rfl ?_
      obtain ⟨i6, hwp⟩ := hwp
      refine y_iastore (pc := 26) dX2_add_26 okb3 i6 (fun h5 eh5 nxh5 => ?_)
      have hwp := hwp h5 eh5
      have hex := hex.tr nxh5.1
      have hnn := nxh5.2.1.trans hnn
      have hzz := nxh5.2.2.trans hzz
      have okl0 := okl0.ex nxh5.1
      have okb3 := okb3.ex nxh5.1
      refine x_aload_n (pc := 27) dX2_add_27 rfl ?_
      obtain ⟨b7, e8, hwp⟩ := hwp
      refine x_getR (pc := 28) dX2_add_28 qRX2_18 okl0 e8 (fun okb7 => ?_)
      refine x_aload_n (pc := 31) dX2_add_31 rfl ?_
      refine x_getI (pc := 32) dX2_add_32 qRX2_29 okl0 (by decide) ?_
      refine x_iload_n (pc := 35) dX2_add_35 rfl ?_
      obtain ⟨i10, hwp⟩ := hwp
      refine y_iastore (pc := 36) dX2_add_36 okb7 i10 (fun h9 eh9 nxh9 => ?_)
      have hwp := hwp h9 eh9
      have hex := hex.tr nxh9.1
      have hnn := nxh9.2.1.trans hnn
      have hzz := nxh9.2.2.trans hzz
      have okl0 := okl0.ex nxh9.1
      have okb3 := okb3.ex nxh9.1
      have okb7 := okb7.ex nxh9.1
      refine x_sub [0, 1] rfl ?_
      exact sg_X2_add_37 G d h l0 l1 h9 Q hex hnn hzz okl0 hwp

theorem dX2_searchAt_0 : decode cX2_searchAt 0 = .ok (.iconst 1, 1) := by decide +kernel
theorem dX2_searchAt_1 : decode cX2_searchAt 1 = .ok (.istore 5, 2) := by decide +kernel
theorem dX2_searchAt_3 : decode cX2_searchAt 3 = .ok (.sipush 999, 3) := by decide +kernel
theorem dX2_searchAt_6 : decode cX2_searchAt 6 = .ok (.istore 6, 2) := by decide +kernel
theorem dX2_searchAt_8 : decode cX2_searchAt 8 = .ok (.iload 4, 2) := by decide +kernel
theorem dX2_searchAt_10 : decode cX2_searchAt 10 = .ok (.istore 7, 2) := by decide +kernel
theorem dX2_searchAt_12 : decode cX2_searchAt 12 = .ok (.iconst 0, 1) := by decide +kernel
theorem dX2_searchAt_13 : decode cX2_searchAt 13 = .ok (.istore 8, 2) := by decide +kernel
theorem dX2_searchAt_15 : decode cX2_searchAt 15 = .ok (.iload_n 3, 1) := by decide +kernel
theorem dX2_searchAt_16 : decode cX2_searchAt 16 = .ok (.istore 9, 2) := by decide +kernel
theorem dX2_searchAt_18 : decode cX2_searchAt 18 = .ok (.iconst 0, 1) := by decide +kernel
theorem dX2_searchAt_19 : decode cX2_searchAt 19 = .ok (.istore 10, 2) := by decide +kernel
theorem dX2_searchAt_21 : decode cX2_searchAt 21 = .ok (.iload 10, 2) := by decide +kernel
theorem dX2_searchAt_23 : decode cX2_searchAt 23 = .ok (.aload_n 0, 1) := by decide +kernel
theorem dX2_searchAt_24 : decode cX2_searchAt 24 = .ok (.getfield 21, 3) := by decide +kernel
theorem dX2_searchAt_27 : decode cX2_searchAt 27 = .ok (.if_icmp .ge 124, 3) := by decide +kernel
theorem dX2_searchAt_30 : decode cX2_searchAt 30 = .ok (.iload 5, 2) := by decide +kernel
theorem dX2_searchAt_32 : decode cX2_searchAt 32 = .ok (.iload 6, 2) := by decide +kernel
theorem dX2_searchAt_34 : decode cX2_searchAt 34 = .ok (.if_icmp .gt 117, 3) := by decide +kernel
theorem dX2_searchAt_37 : decode cX2_searchAt 37 = .ok (.iload 7, 2) := by decide +kernel
theorem dX2_searchAt_39 : decode cX2_searchAt 39 = .ok (.aload_n 2, 1) := by decide +kernel
theorem dX2_searchAt_40 : decode cX2_searchAt 40 = .ok (.getfield 58, 3) := by decide +kernel
theorem dX2_searchAt_43 : decode cX2_searchAt 43 = .ok (.iload 9, 2) := by decide +kernel
theorem dX2_searchAt_45 : decode cX2_searchAt 45 = .ok (.iaload, 1) := by decide +kernel
theorem dX2_searchAt_46 : decode cX2_searchAt 46 = .ok (.iadd, 1) := by decide +kernel
theorem dX2_searchAt_47 : decode cX2_searchAt 47 = .ok (.istore 7, 2) := by decide +kernel
theorem dX2_searchAt_49 : decode cX2_searchAt 49 = .ok (.iload 8, 2) := by decide +kernel
theorem dX2_searchAt_51 : decode cX2_searchAt 51 = .ok (.iload 9, 2) := by decide +kernel
theorem dX2_searchAt_53 : decode cX2_searchAt 53 = .ok (.iload_n 1, 1) := by decide +kernel
theorem dX2_searchAt_54 : decode cX2_searchAt 54 = .ok (.if_icmp .ne 7, 3) := by decide +kernel
theorem dX2_searchAt_57 : decode cX2_searchAt 57 = .ok (.iconst 1, 1) := by decide +kernel
theorem dX2_searchAt_58 : decode cX2_searchAt 58 = .ok (.goto 4, 3) := by decide +kernel
theorem dX2_searchAt_61 : decode cX2_searchAt 61 = .ok (.iconst 0, 1) := by decide +kernel
theorem dX2_searchAt_62 : decode cX2_searchAt 62 = .ok (.iadd, 1) := by decide +kernel
theorem dX2_searchAt_63 : decode cX2_searchAt 63 = .ok (.istore 8, 2) := by decide +kernel
theorem dX2_searchAt_65 : decode cX2_searchAt 65 = .ok (.bipush 10, 2) := by decide +kernel
theorem dX2_searchAt_67 : decode cX2_searchAt 67 = .ok (.aload_n 0, 1) := by decide +kernel
theorem dX2_searchAt_68 : decode cX2_searchAt 68 = .ok (.getfield 11, 3) := by decide +kernel
theorem dX2_searchAt_71 : decode cX2_searchAt 71 = .ok (.iload 10, 2) := by decide +kernel
theorem dX2_searchAt_73 : decode cX2_searchAt 73 = .ok (.iaload, 1) := by decide +kernel
theorem dX2_searchAt_74 : decode cX2_searchAt 74 = .ok (.imul, 1) := by decide +kernel
theorem dX2_searchAt_75 : decode cX2_searchAt 75 = .ok (.iload 7, 2) := by decide +kernel
theorem dX2_searchAt_77 : decode cX2_searchAt 77 = .ok (.isub, 1) := by decide +kernel
theorem dX2_searchAt_78 : decode cX2_searchAt 78 = .ok (.istore 11, 2) := by decide +kernel
theorem dX2_searchAt_80 : decode cX2_searchAt 80 = .ok (.iload 8, 2) := by decide +kernel
theorem dX2_searchAt_82 : decode cX2_searchAt 82 = .ok (.ifCond .le 39, 3) := by decide +kernel
theorem dX2_searchAt_85 : decode cX2_searchAt 85 = .ok (.iload 5, 2) := by decide +kernel
theorem dX2_searchAt_87 : decode cX2_searchAt 87 = .ok (.iload 11, 2) := by decide +kernel
theorem dX2_searchAt_89 : decode cX2_searchAt 89 = .ok (.ineg, 1) := by decide +kernel
theorem dX2_searchAt_90 : decode cX2_searchAt 90 = .ok (.iload 8, 2) := by decide +kernel
theorem dX2_searchAt_92 : decode cX2_searchAt 92 = .ok (.invokestatic 72, 3) := by decide +kernel
theorem dX2_searchAt_95 : decode cX2_searchAt 95 = .ok (.ineg, 1) := by decide +kernel
theorem dX2_searchAt_96 : decode cX2_searchAt 96 = .ok (.invokestatic 75, 3) := by decide +kernel
theorem dX2_searchAt_99 : decode cX2_searchAt 99 = .ok (.istore 5, 2) := by decide +kernel
theorem dX2_searchAt_101 : decode cX2_searchAt 101 = .ok (.iload 6, 2) := by decide +kernel
theorem dX2_searchAt_103 : decode cX2_searchAt 103 = .ok (.iload 11, 2) := by decide +kernel
theorem dX2_searchAt_105 : decode cX2_searchAt 105 = .ok (.bipush 9, 2) := by decide +kernel
theorem dX2_searchAt_107 : decode cX2_searchAt 107 = .ok (.iadd, 1) := by decide +kernel
theorem dX2_searchAt_108 : decode cX2_searchAt 108 = .ok (.iload 8, 2) := by decide +kernel
theorem dX2_searchAt_110 : decode cX2_searchAt 110 = .ok (.invokestatic 72, 3) := by decide +kernel
theorem dX2_searchAt_113 : decode cX2_searchAt 113 = .ok (.invokestatic 46, 3) := by decide +kernel
theorem dX2_searchAt_116 : decode cX2_searchAt 116 = .ok (.istore 6, 2) := by decide +kernel
theorem dX2_searchAt_118 : decode cX2_searchAt 118 = .ok (.goto 19, 3) := by decide +kernel
theorem dX2_searchAt_121 : decode cX2_searchAt 121 = .ok (.iload 11, 2) := by decide +kernel
theorem dX2_searchAt_123 : decode cX2_searchAt 123 = .ok (.ifCond .gt 11, 3) := by decide +kernel
theorem dX2_searchAt_126 : decode cX2_searchAt 126 = .ok (.iload 11, 2) := by decide +kernel
theorem dX2_searchAt_128 : decode cX2_searchAt 128 = .ok (.bipush 9, 2) := by decide +kernel
theorem dX2_searchAt_130 : decode cX2_searchAt 130 = .ok (.iadd, 1) := by decide +kernel
theorem dX2_searchAt_131 : decode cX2_searchAt 131 = .ok (.ifCond .ge 6, 3) := by decide +kernel
theorem dX2_searchAt_134 : decode cX2_searchAt 134 = .ok (.iconst 0, 1) := by decide +kernel
theorem dX2_searchAt_135 : decode cX2_searchAt 135 = .ok (.istore 6, 2) := by decide +kernel
theorem dX2_searchAt_137 : decode cX2_searchAt 137 = .ok (.aload_n 2, 1) := by decide +kernel
theorem dX2_searchAt_138 : decode cX2_searchAt 138 = .ok (.iload 9, 2) := by decide +kernel
theorem dX2_searchAt_140 : decode cX2_searchAt 140 = .ok (.invokevirtual 63, 3) := by decide +kernel
theorem dX2_searchAt_143 : decode cX2_searchAt 143 = .ok (.istore 9, 2) := by decide +kernel
theorem dX2_searchAt_145 : decode cX2_searchAt 145 = .ok (.iinc 10 1, 3) := by decide +kernel
theorem dX2_searchAt_148 : decode cX2_searchAt 148 = .ok (.goto (-127), 3) := by decide +kernel
theorem dX2_searchAt_151 : decode cX2_searchAt 151 = .ok (.iload 5, 2) := by decide +kernel
theorem dX2_searchAt_153 : decode cX2_searchAt 153 = .ok (.istore 10, 2) := by decide +kernel
theorem dX2_searchAt_155 : decode cX2_searchAt 155 = .ok (.iload 10, 2) := by decide +kernel
theorem dX2_searchAt_157 : decode cX2_searchAt 157 = .ok (.iload 6, 2) := by decide +kernel
theorem dX2_searchAt_159 : decode cX2_searchAt 159 = .ok (.if_icmp .gt 16, 3) := by decide +kernel
theorem dX2_searchAt_162 : decode cX2_searchAt 162 = .ok (.aload_n 0, 1) := by decide +kernel
theorem dX2_searchAt_163 : decode cX2_searchAt 163 = .ok (.iload_n 1, 1) := by decide +kernel
theorem dX2_searchAt_164 : decode cX2_searchAt 164 = .ok (.iload 10, 2) := by decide +kernel
theorem dX2_searchAt_166 : decode cX2_searchAt 166 = .ok (.invokevirtual 78, 3) := by decide +kernel
theorem dX2_searchAt_169 : decode cX2_searchAt 169 = .ok (.iinc 10 1, 3) := by decide +kernel
theorem dX2_searchAt_172 : decode cX2_searchAt 172 = .ok (.goto (-17), 3) := by decide +kernel
theorem dX2_searchAt_175 : decode cX2_searchAt 175 = .ok (.return_, 1) := by decide +kernel
def E_X2_searchAt_21 (G : GT) (d : Nat) (h0 hb : PH) (l0 : Nat) (l1 : Int32) (l2 : Nat) (Q : PH → Prop) (s : Int32 × Int32 × Int32 × Int32 × Int32 × Int32 × PH) : Prop := qEx hb s.2.2.2.2.2.2 ∧ qn s.2.2.2.2.2.2 = qn hb ∧ qz s.2.2.2.2.2.2 = qz hb → Ex G (qrm (1 + d) 0 0) mX2_searchAt (qn h0) (qz h0) (ZN G h0 0 0 (qqv Q)) 21 [(0, .ref l0), (1, .int l1), (2, .ref l2), (5, .int s.1), (6, .int s.2.1), (7, .int s.2.2.1), (8, .int s.2.2.2.1), (9, .int s.2.2.2.2.1), (10, .int s.2.2.2.2.2.1)] [] s.2.2.2.2.2.2
def E_X2_searchAt_155 (G : GT) (d : Nat) (h0 hb : PH) (l0 : Nat) (l1 : Int32) (l6 : Int32) (Q : PH → Prop) (s : Int32 × PH) : Prop := qEx hb s.2 ∧ qn s.2 = qn hb ∧ qz s.2 = qz hb → Ex G (qrm (1 + d) 0 0) mX2_searchAt (qn h0) (qz h0) (ZN G h0 0 0 (qqv Q)) 155 [(0, .ref l0), (1, .int l1), (6, .int l6), (10, .int s.1)] [] s.2
def wp_X2_searchAt_62 (l0 : Nat) (l1 : Int32) (l2 : Nat) (l5 : Int32) (l6 : Int32) (l7 : Int32) (l9 : Int32) (l10 : Int32) (s0 : Int32) (s1 : Int32) (bk21 : Int32 × Int32 × Int32 × Int32 × Int32 × Int32 × PH → Prop) (h : PH) (Q : PH → Prop) : Prop := ∀ v12 : Int32, v12 = s1 + s0 → (∃ b13, qR h l0 0 = some b13 ∧ (vp_in l10 (qL h b13) ∧ ∀ v16 : Int32, v16 = (10 * (qI h b13 l10.toNatClampNeg)) - l7 → ((v12 ≤ 0 → ((0 < v16 → (wp_X10_after l2 l9 h (fun r20 h19 => ∀ v21 : Int32, v21 = l10 + 1 → bk21 (l5, 0, l7, v12, r20, v21, h19)))) ∧ (¬ (0 < v16) → ((0 ≤ (v16 + 9) → (wp_X10_after l2 l9 h (fun r24 h23 => ∀ v25 : Int32, v25 = l10 + 1 → bk21 (l5, l6, l7, v12, r24, v25, h23)))) ∧ (¬ (0 ≤ (v16 + 9)) → (wp_X10_after l2 l9 h (fun r27 h26 => ∀ v28 : Int32, v28 = l10 + 1 → bk21 (l5, 0, l7, v12, r27, v28, h26)))))))) ∧ (¬ (v12 ≤ 0) → (wp_J9_floorDiv_7cf53 (-v16) v12 h (fun r30 h29 => (wp_J9_max_7cf53 l5 (-r30) h29 (fun r32 h31 => (wp_J9_floorDiv_7cf53 (v16 + 9) v12 h31 (fun r34 h33 => (wp_J9_min_7cf53 l6 r34 h33 (fun r36 h35 => (wp_X10_after l2 l9 h35 (fun r38 h37 => ∀ v39 : Int32, v39 = l10 + 1 → bk21 (r32, r36, l7, v12, r38, v39, h37)))))))))))))))
set_option maxHeartbeats 4000000 in
set_option maxRecDepth 100000 in
theorem sg_X2_searchAt_62 (G : GT) (d : Nat) (h0 : PH) (l0 : Nat) (l1 : Int32) (l2 : Nat) (l5 : Int32) (l6 : Int32) (l7 : Int32) (l9 : Int32) (l10 : Int32) (s0 : Int32) (s1 : Int32) (h : PH) (Q : PH → Prop) (hb21 : PH) (bk21 : Int32 × Int32 × Int32 × Int32 × Int32 × Int32 × PH → Prop) (hbk21 : ∀ s2, bk21 s2 → E_X2_searchAt_21 G d h0 hb21 l0 l1 l2 Q s2) (hx21 : qEx hb21 h) (hn21 : qn h = qn hb21) (hz21 : qz h = qz hb21) (hex : qEx h0 h) (hnn : qn h = qn h0 + 0) (hzz : qz h = qz h0 + 0) (okl0 : qOK h 2 l0) (okl2 : qOK h 9 l2) (hwp : wp_X2_searchAt_62 l0 l1 l2 l5 l6 l7 l9 l10 s0 s1 bk21 h Q) : Ex G (qrm (1 + d) 0 0) mX2_searchAt (qn h0) (qz h0) (ZN G h0 0 0 (qqv Q)) 62 [(0, .ref l0), (1, .int l1), (2, .ref l2), (5, .int l5), (6, .int l6), (7, .int l7), (9, .int l9), (10, .int l10)] [.int s0, .int s1] h := by
  unfold wp_X2_searchAt_62 at hwp
  refine x_iadd (pc := 62) dX2_searchAt_62 ?_
  refine x_nmI (fun v12 ev12 => ?_)
  have hwp := hwp v12 ev12
  refine x_istore (lv2 := [(8, .int v12), (0, .ref l0), (1, .int l1), (2, .ref l2), (5, .int l5), (6, .int l6), (7, .int l7), (9, .int l9), (10, .int l10)]) (pc := 63) dX2_searchAt_63 (by decide) rfl ?_
  refine x_bipush (v := 10) (pc := 65) dX2_searchAt_65 (by decide) ?_
  refine x_aload_n (pc := 67) dX2_searchAt_67 rfl ?_
  obtain ⟨b13, e14, hwp⟩ := hwp
  refine x_getR (pc := 68) dX2_searchAt_68 qRX2_11 okl0 e14 (fun okb13 => ?_)
  refine x_iload (pc := 71) dX2_searchAt_71 rfl ?_
  obtain ⟨i15, hwp⟩ := hwp
  refine x_iaload (pc := 73) dX2_searchAt_73 okb13 i15 ?_
  refine x_imul (pc := 74) dX2_searchAt_74 ?_
  refine x_iload (pc := 75) dX2_searchAt_75 rfl ?_
  refine x_isub (pc := 77) dX2_searchAt_77 ?_
  refine x_nmI (fun v16 ev16 => ?_)
  have hwp := hwp v16 ev16
  refine x_istore (lv2 := [(11, .int v16), (8, .int v12), (0, .ref l0), (1, .int l1), (2, .ref l2), (5, .int l5), (6, .int l6), (7, .int l7), (9, .int l9), (10, .int l10)]) (pc := 78) dX2_searchAt_78 (by decide) rfl ?_
  refine x_iload (pc := 80) dX2_searchAt_80 rfl ?_
  refine x_if_le (tgt := 121) (pc := 82) dX2_searchAt_82 (by decide) (fun c17 => ?_) (fun c17 => ?_)
  · have hwp := hwp.1 c17
    refine x_iload (pc := 121) dX2_searchAt_121 rfl ?_
    refine x_if_gt (tgt := 134) (pc := 123) dX2_searchAt_123 (by decide) (fun c18 => ?_) (fun c18 => ?_)
    · have hwp := hwp.1 c18
      refine x_iconst (v := 0) (pc := 134) dX2_searchAt_134 (by decide) ?_
      refine x_istore (lv2 := [(6, .int 0), (11, .int v16), (8, .int v12), (0, .ref l0), (1, .int l1), (2, .ref l2), (5, .int l5), (7, .int l7), (9, .int l9), (10, .int l10)]) (pc := 135) dX2_searchAt_135 (by decide) rfl ?_
      refine x_aload_n (pc := 137) dX2_searchAt_137 rfl ?_
      refine x_iload (pc := 138) dX2_searchAt_138 rfl ?_
      refine x_invV (As := [.int l9]) (st := []) (pc := 140) dX2_searchAt_140 lRX2_63 fX10_after vX10_after okl2 rfl (Nat.le_of_ble_eq_true rfl) (q_R (by omega) (by decide)) (q_C hnn hzz (by decide) (by decide)) (sn_X10_after G (d + 0) l2 l9 h _ okl2 hwp) (k_i (fun r20 h19 hwp cxh19 => ?_))
      have hex := hex.tr cxh19.1
      have hnn : qn h19 = qn h0 + 0 := by have := cxh19.2.1; omega
      have hzz : qz h19 = qz h0 + 0 := by have := cxh19.2.2; omega
      have hx21 := hx21.tr cxh19.1
      have hn21 : qn h19 = qn hb21 := by have := cxh19.2.1; omega
      have hz21 : qz h19 = qz hb21 := by have := cxh19.2.2; omega
      have okl0 := okl0.ex cxh19.1
      have okl2 := okl2.ex cxh19.1
      have okb13 := okb13.ex cxh19.1
      refine x_istore (lv2 := [(9, .int r20), (6, .int 0), (11, .int v16), (8, .int v12), (0, .ref l0), (1, .int l1), (2, .ref l2), (5, .int l5), (7, .int l7), (10, .int l10)]) (pc := 143) dX2_searchAt_143 (by decide) rfl ?_
      refine y_iinc (c := 1) (pc := 145) dX2_searchAt_145 rfl (by decide) (by decide) (fun v21 ev21 => ?_)
      have hwp := hwp v21 ev21
      refine x_lvE (lv2 := [(10, .int v21), (9, .int r20), (6, .int 0), (11, .int v16), (8, .int v12), (0, .ref l0), (1, .int l1), (2, .ref l2), (5, .int l5), (7, .int l7)]) rfl ?_
      refine x_goto (tgt := 21) (pc := 148) dX2_searchAt_148 (by decide) ?_
      refine x_sub [5, 6, 7, 8, 2, 9, 4, 1, 0] rfl ?_
      exact hbk21 _ hwp ⟨hx21, hn21, hz21⟩
    · have hwp := hwp.2 c18
      refine x_iload (pc := 126) dX2_searchAt_126 rfl ?_
      refine x_bipush (v := 9) (pc := 128) dX2_searchAt_128 (by decide) ?_
      refine x_iadd (pc := 130) dX2_searchAt_130 ?_
      refine x_if_ge (tgt := 137) (pc := 131) dX2_searchAt_131 (by decide) (fun c22 => ?_) (fun c22 => ?_)
      · have hwp := hwp.1 c22
        refine x_aload_n (pc := 137) dX2_searchAt_137 rfl ?_
        refine x_iload (pc := 138) dX2_searchAt_138 rfl ?_
        refine x_invV (As := [.int l9]) (st := []) (pc := 140) dX2_searchAt_140 lRX2_63 fX10_after vX10_after okl2 rfl (Nat.le_of_ble_eq_true rfl) (q_R (by omega) (by decide)) (q_C hnn hzz (by decide) (by decide)) (sn_X10_after G (d + 0) l2 l9 h _ okl2 hwp) (k_i (fun r24 h23 hwp cxh23 => ?_))
        have hex := hex.tr cxh23.1
        have hnn : qn h23 = qn h0 + 0 := by have := cxh23.2.1; omega
        have hzz : qz h23 = qz h0 + 0 := by have := cxh23.2.2; omega
        have hx21 := hx21.tr cxh23.1
        have hn21 : qn h23 = qn hb21 := by have := cxh23.2.1; omega
        have hz21 : qz h23 = qz hb21 := by have := cxh23.2.2; omega
        have okl0 := okl0.ex cxh23.1
        have okl2 := okl2.ex cxh23.1
        have okb13 := okb13.ex cxh23.1
        refine x_istore (lv2 := [(9, .int r24), (11, .int v16), (8, .int v12), (0, .ref l0), (1, .int l1), (2, .ref l2), (5, .int l5), (6, .int l6), (7, .int l7), (10, .int l10)]) (pc := 143) dX2_searchAt_143 (by decide) rfl ?_
        refine y_iinc (c := 1) (pc := 145) dX2_searchAt_145 rfl (by decide) (by decide) (fun v25 ev25 => ?_)
        have hwp := hwp v25 ev25
        refine x_lvE (lv2 := [(10, .int v25), (9, .int r24), (11, .int v16), (8, .int v12), (0, .ref l0), (1, .int l1), (2, .ref l2), (5, .int l5), (6, .int l6), (7, .int l7)]) rfl ?_
        refine x_goto (tgt := 21) (pc := 148) dX2_searchAt_148 (by decide) ?_
        refine x_sub [4, 5, 6, 7, 8, 9, 3, 1, 0] rfl ?_
        exact hbk21 _ hwp ⟨hx21, hn21, hz21⟩
      · have hwp := hwp.2 c22
        refine x_iconst (v := 0) (pc := 134) dX2_searchAt_134 (by decide) ?_
        refine x_istore (lv2 := [(6, .int 0), (11, .int v16), (8, .int v12), (0, .ref l0), (1, .int l1), (2, .ref l2), (5, .int l5), (7, .int l7), (9, .int l9), (10, .int l10)]) (pc := 135) dX2_searchAt_135 (by decide) rfl ?_
        refine x_aload_n (pc := 137) dX2_searchAt_137 rfl ?_
        refine x_iload (pc := 138) dX2_searchAt_138 rfl ?_
        refine x_invV (As := [.int l9]) (st := []) (pc := 140) dX2_searchAt_140 lRX2_63 fX10_after vX10_after okl2 rfl (Nat.le_of_ble_eq_true rfl) (q_R (by omega) (by decide)) (q_C hnn hzz (by decide) (by decide)) (sn_X10_after G (d + 0) l2 l9 h _ okl2 hwp) (k_i (fun r27 h26 hwp cxh26 => ?_))
        have hex := hex.tr cxh26.1
        have hnn : qn h26 = qn h0 + 0 := by have := cxh26.2.1; omega
        have hzz : qz h26 = qz h0 + 0 := by have := cxh26.2.2; omega
        have hx21 := hx21.tr cxh26.1
        have hn21 : qn h26 = qn hb21 := by have := cxh26.2.1; omega
        have hz21 : qz h26 = qz hb21 := by have := cxh26.2.2; omega
        have okl0 := okl0.ex cxh26.1
        have okl2 := okl2.ex cxh26.1
        have okb13 := okb13.ex cxh26.1
        refine x_istore (lv2 := [(9, .int r27), (6, .int 0), (11, .int v16), (8, .int v12), (0, .ref l0), (1, .int l1), (2, .ref l2), (5, .int l5), (7, .int l7), (10, .int l10)]) (pc := 143) dX2_searchAt_143 (by decide) rfl ?_
        refine y_iinc (c := 1) (pc := 145) dX2_searchAt_145 rfl (by decide) (by decide) (fun v28 ev28 => ?_)
        have hwp := hwp v28 ev28
        refine x_lvE (lv2 := [(10, .int v28), (9, .int r27), (6, .int 0), (11, .int v16), (8, .int v12), (0, .ref l0), (1, .int l1), (2, .ref l2), (5, .int l5), (7, .int l7)]) rfl ?_
        refine x_goto (tgt := 21) (pc := 148) dX2_searchAt_148 (by decide) ?_
        refine x_sub [5, 6, 7, 8, 2, 9, 4, 1, 0] rfl ?_
        exact hbk21 _ hwp ⟨hx21, hn21, hz21⟩
  · have hwp := hwp.2 c17
    refine x_iload (pc := 85) dX2_searchAt_85 rfl ?_
    refine x_iload (pc := 87) dX2_searchAt_87 rfl ?_
    refine x_ineg (pc := 89) dX2_searchAt_89 ?_
    refine x_iload (pc := 90) dX2_searchAt_90 rfl ?_
    refine x_invS (As := [.int (-v16), .int v12]) (st := [.int l5]) (pc := 92) dX2_searchAt_92 lRX2_72 fJ9_floorDiv_7cf53 sJ9_floorDiv_7cf53 rfl (Nat.le_of_ble_eq_true rfl) (q_R (by omega) (by decide)) (q_C hnn hzz (by decide) (by decide)) (sn_J9_floorDiv_7cf53 G (d + 0) (-v16) v12 h _  hwp) (k_i (fun r30 h29 hwp cxh29 => ?_))
    have hex := hex.tr cxh29.1
    have hnn : qn h29 = qn h0 + 0 := by have := cxh29.2.1; omega
    have hzz : qz h29 = qz h0 + 0 := by have := cxh29.2.2; omega
    have hx21 := hx21.tr cxh29.1
    have hn21 : qn h29 = qn hb21 := by have := cxh29.2.1; omega
    have hz21 : qz h29 = qz hb21 := by have := cxh29.2.2; omega
    have okl0 := okl0.ex cxh29.1
    have okl2 := okl2.ex cxh29.1
    have okb13 := okb13.ex cxh29.1
    refine x_ineg (pc := 95) dX2_searchAt_95 ?_
    refine x_invS (As := [.int l5, .int (-r30)]) (st := []) (pc := 96) dX2_searchAt_96 lRX2_75 fJ9_max_7cf53 sJ9_max_7cf53 rfl (Nat.le_of_ble_eq_true rfl) (q_R (by omega) (by decide)) (q_C hnn hzz (by decide) (by decide)) (sn_J9_max_7cf53 G (d + 0) l5 (-r30) h29 _  hwp) (k_i (fun r32 h31 hwp cxh31 => ?_))
    have hex := hex.tr cxh31.1
    have hnn : qn h31 = qn h0 + 0 := by have := cxh31.2.1; omega
    have hzz : qz h31 = qz h0 + 0 := by have := cxh31.2.2; omega
    have hx21 := hx21.tr cxh31.1
    have hn21 : qn h31 = qn hb21 := by have := cxh31.2.1; omega
    have hz21 : qz h31 = qz hb21 := by have := cxh31.2.2; omega
    have okl0 := okl0.ex cxh31.1
    have okl2 := okl2.ex cxh31.1
    have okb13 := okb13.ex cxh31.1
    refine x_istore (lv2 := [(5, .int r32), (11, .int v16), (8, .int v12), (0, .ref l0), (1, .int l1), (2, .ref l2), (6, .int l6), (7, .int l7), (9, .int l9), (10, .int l10)]) (pc := 99) dX2_searchAt_99 (by decide) rfl ?_
    refine x_iload (pc := 101) dX2_searchAt_101 rfl ?_
    refine x_iload (pc := 103) dX2_searchAt_103 rfl ?_
    refine x_bipush (v := 9) (pc := 105) dX2_searchAt_105 (by decide) ?_
    refine x_iadd (pc := 107) dX2_searchAt_107 ?_
    refine x_iload (pc := 108) dX2_searchAt_108 rfl ?_
    refine x_invS (As := [.int (v16 + 9), .int v12]) (st := [.int l6]) (pc := 110) dX2_searchAt_110 lRX2_72 fJ9_floorDiv_7cf53 sJ9_floorDiv_7cf53 rfl (Nat.le_of_ble_eq_true rfl) (q_R (by omega) (by decide)) (q_C hnn hzz (by decide) (by decide)) (sn_J9_floorDiv_7cf53 G (d + 0) (v16 + 9) v12 h31 _  hwp) (k_i (fun r34 h33 hwp cxh33 => ?_))
    have hex := hex.tr cxh33.1
    have hnn : qn h33 = qn h0 + 0 := by have := cxh33.2.1; omega
    have hzz : qz h33 = qz h0 + 0 := by have := cxh33.2.2; omega
    have hx21 := hx21.tr cxh33.1
    have hn21 : qn h33 = qn hb21 := by have := cxh33.2.1; omega
    have hz21 : qz h33 = qz hb21 := by have := cxh33.2.2; omega
    have okl0 := okl0.ex cxh33.1
    have okl2 := okl2.ex cxh33.1
    have okb13 := okb13.ex cxh33.1
    refine x_invS (As := [.int l6, .int r34]) (st := []) (pc := 113) dX2_searchAt_113 lRX2_46 fJ9_min_7cf53 sJ9_min_7cf53 rfl (Nat.le_of_ble_eq_true rfl) (q_R (by omega) (by decide)) (q_C hnn hzz (by decide) (by decide)) (sn_J9_min_7cf53 G (d + 0) l6 r34 h33 _  hwp) (k_i (fun r36 h35 hwp cxh35 => ?_))
    have hex := hex.tr cxh35.1
    have hnn : qn h35 = qn h0 + 0 := by have := cxh35.2.1; omega
    have hzz : qz h35 = qz h0 + 0 := by have := cxh35.2.2; omega
    have hx21 := hx21.tr cxh35.1
    have hn21 : qn h35 = qn hb21 := by have := cxh35.2.1; omega
    have hz21 : qz h35 = qz hb21 := by have := cxh35.2.2; omega
    have okl0 := okl0.ex cxh35.1
    have okl2 := okl2.ex cxh35.1
    have okb13 := okb13.ex cxh35.1
    refine x_istore (lv2 := [(6, .int r36), (5, .int r32), (11, .int v16), (8, .int v12), (0, .ref l0), (1, .int l1), (2, .ref l2), (7, .int l7), (9, .int l9), (10, .int l10)]) (pc := 116) dX2_searchAt_116 (by decide) rfl ?_
    refine x_goto (tgt := 137) (pc := 118) dX2_searchAt_118 (by decide) ?_
    refine x_aload_n (pc := 137) dX2_searchAt_137 rfl ?_
    refine x_iload (pc := 138) dX2_searchAt_138 rfl ?_
    refine x_invV (As := [.int l9]) (st := []) (pc := 140) dX2_searchAt_140 lRX2_63 fX10_after vX10_after okl2 rfl (Nat.le_of_ble_eq_true rfl) (q_R (by omega) (by decide)) (q_C hnn hzz (by decide) (by decide)) (sn_X10_after G (d + 0) l2 l9 h35 _ okl2 hwp) (k_i (fun r38 h37 hwp cxh37 => ?_))
    have hex := hex.tr cxh37.1
    have hnn : qn h37 = qn h0 + 0 := by have := cxh37.2.1; omega
    have hzz : qz h37 = qz h0 + 0 := by have := cxh37.2.2; omega
    have hx21 := hx21.tr cxh37.1
    have hn21 : qn h37 = qn hb21 := by have := cxh37.2.1; omega
    have hz21 : qz h37 = qz hb21 := by have := cxh37.2.2; omega
    have okl0 := okl0.ex cxh37.1
    have okl2 := okl2.ex cxh37.1
    have okb13 := okb13.ex cxh37.1
    refine x_istore (lv2 := [(9, .int r38), (6, .int r36), (5, .int r32), (11, .int v16), (8, .int v12), (0, .ref l0), (1, .int l1), (2, .ref l2), (7, .int l7), (10, .int l10)]) (pc := 143) dX2_searchAt_143 (by decide) rfl ?_
    refine y_iinc (c := 1) (pc := 145) dX2_searchAt_145 rfl (by decide) (by decide) (fun v39 ev39 => ?_)
    have hwp := hwp v39 ev39
    refine x_lvE (lv2 := [(10, .int v39), (9, .int r38), (6, .int r36), (5, .int r32), (11, .int v16), (8, .int v12), (0, .ref l0), (1, .int l1), (2, .ref l2), (7, .int l7)]) rfl ?_
    refine x_goto (tgt := 21) (pc := 148) dX2_searchAt_148 (by decide) ?_
    refine x_sub [6, 7, 8, 3, 2, 9, 5, 1, 0] rfl ?_
    exact hbk21 _ hwp ⟨hx21, hn21, hz21⟩
def wb_X2_searchAt_155 (l0 : Nat) (l1 : Int32) (l6 : Int32)  (Q : PH → Prop) (bk155 : Int32 × PH → Prop) (l10 : Int32) (h : PH) : Prop := ((l6 < l10 → Q h) ∧ (¬ (l6 < l10) → (wp_X2_add l0 l1 l10 h (fun h9 => ∀ v11 : Int32, v11 = l10 + 1 → bk155 (v11, h9)))))
def wp_X2_searchAt_155 (l0 : Nat) (l1 : Int32) (l6 : Int32)  (Q : PH → Prop) (bk155 : Int32 × PH → Prop) (s : Int32 × PH) : Prop := wb_X2_searchAt_155 l0 l1 l6 Q bk155 s.1 s.2
set_option maxHeartbeats 4000000 in
set_option maxRecDepth 100000 in
theorem bd_X2_searchAt_155 (G : GT) (d : Nat) (h0 hb : PH) (l0 : Nat) (l1 : Int32) (l6 : Int32) (Q : PH → Prop)  (hex : qEx h0 hb) (hnn : qn hb = qn h0 + 0) (hzz : qz hb = qz h0 + 0) (okl0 : qOK hb 2 l0) (bk155 : Int32 × PH → Prop) (hbk155 : ∀ s2, bk155 s2 → E_X2_searchAt_155 G d h0 hb l0 l1 l6 Q s2) (l10 : Int32) (h : PH) (hwp : wb_X2_searchAt_155 l0 l1 l6 Q bk155 l10 h) (hx155 : qEx hb h) (hn155 : qn h = qn hb) (hz155 : qz h = qz hb) : Ex G (qrm (1 + d) 0 0) mX2_searchAt (qn h0) (qz h0) (ZN G h0 0 0 (qqv Q)) 155 [(0, .ref l0), (1, .int l1), (6, .int l6), (10, .int l10)] [] h := by
  unfold wb_X2_searchAt_155 at hwp
  have hex := hex.tr hx155
  have hnn := hn155.trans hnn
  have hzz := hz155.trans hzz
  have okl0 := okl0.ex hx155
  refine x_iload (pc := 155) dX2_searchAt_155 rfl ?_
  refine x_iload (pc := 157) dX2_searchAt_157 rfl ?_
  refine x_icmp_gt (tgt := 175) (pc := 159) dX2_searchAt_159 (by decide) (fun c8 => ?_) (fun c8 => ?_)
  · have hwp := hwp.1 c8
    exact x_vret (pc := 175) dX2_searchAt_175 rfl hex hnn hzz ⟨rfl, hwp⟩
  · have hwp := hwp.2 c8
    refine x_aload_n (pc := 162) dX2_searchAt_162 rfl ?_
    refine x_iload_n (pc := 163) dX2_searchAt_163 rfl ?_
    refine x_iload (pc := 164) dX2_searchAt_164 rfl ?_
    refine x_invV (As := [.int l1, .int l10]) (st := []) (pc := 166) dX2_searchAt_166 lRX2_78 fX2_add vX2_add okl0 rfl (Nat.le_of_ble_eq_true rfl) (q_R (by omega) (by decide)) (q_C hnn hzz (by decide) (by decide)) (sn_X2_add G (d + 0) l0 l1 l10 h _ okl0 hwp) (k_v (fun h9 hwp cxh9 => ?_))
    have hex := hex.tr cxh9.1
    have hnn : qn h9 = qn h0 + 0 := by have := cxh9.2.1; omega
    have hzz : qz h9 = qz h0 + 0 := by have := cxh9.2.2; omega
    have hx155 := hx155.tr cxh9.1
    have hn155 : qn h9 = qn hb := by have := cxh9.2.1; omega
    have hz155 : qz h9 = qz hb := by have := cxh9.2.2; omega
    have okl0 := okl0.ex cxh9.1
    refine y_iinc (c := 1) (pc := 169) dX2_searchAt_169 rfl (by decide) (by decide) (fun v11 ev11 => ?_)
    have hwp := hwp v11 ev11
    refine x_lvE (lv2 := [(10, .int v11), (0, .ref l0), (1, .int l1), (6, .int l6)]) rfl ?_
    refine x_goto (tgt := 155) (pc := 172) dX2_searchAt_172 (by decide) ?_
    refine x_sub [1, 2, 3, 0] rfl ?_
    exact hbk155 _ hwp ⟨hx155, hn155, hz155⟩
theorem lp_X2_searchAt_155 (G : GT) (d : Nat) (h0 hb : PH) (l0 : Nat) (l1 : Int32) (l6 : Int32) (Q : PH → Prop)  (hex : qEx h0 hb) (hnn : qn hb = qn h0 + 0) (hzz : qz hb = qz h0 + 0) (okl0 : qOK hb 2 l0) {s : Int32 × PH} (hwp : qLoop (wp_X2_searchAt_155 l0 l1 l6 Q) s) : E_X2_searchAt_155 G d h0 hb l0 l1 l6 Q s :=
  qLoop.use (E := E_X2_searchAt_155 G d h0 hb l0 l1 l6 Q) (fun back s hbk hw hx => bd_X2_searchAt_155 G d h0 hb l0 l1 l6 Q hex hnn hzz okl0 back hbk s.1 s.2 hw hx.1 hx.2.1 hx.2.2) hwp
def wb_X2_searchAt_21 (l0 : Nat) (l1 : Int32) (l2 : Nat)  (Q : PH → Prop) (bk21 : Int32 × Int32 × Int32 × Int32 × Int32 × Int32 × PH → Prop) (l5 : Int32) (l6 : Int32) (l7 : Int32) (l8 : Int32) (l9 : Int32) (l10 : Int32) (h : PH) : Prop := (((qI h l0 3) ≤ l10 → (qLoop (wp_X2_searchAt_155 l0 l1 l6 Q) (l5, h))) ∧ (¬ ((qI h l0 3) ≤ l10) → ((l6 < l5 → (qLoop (wp_X2_searchAt_155 l0 l1 l6 Q) (l5, h))) ∧ (¬ (l6 < l5) → (∃ b3, qR h l2 0 = some b3 ∧ (vp_in l9 (qL h b3) ∧ ∀ v6 : Int32, v6 = l7 + (qI h b3 l9.toNatClampNeg) → ((¬ l9 = l1 → (wp_X2_searchAt_62 l0 l1 l2 l5 l6 v6 l9 l10 0 l8 bk21 h Q)) ∧ (l9 = l1 → (wp_X2_searchAt_62 l0 l1 l2 l5 l6 v6 l9 l10 1 l8 bk21 h Q)))))))))
def wp_X2_searchAt_21 (l0 : Nat) (l1 : Int32) (l2 : Nat)  (Q : PH → Prop) (bk21 : Int32 × Int32 × Int32 × Int32 × Int32 × Int32 × PH → Prop) (s : Int32 × Int32 × Int32 × Int32 × Int32 × Int32 × PH) : Prop := wb_X2_searchAt_21 l0 l1 l2 Q bk21 s.1 s.2.1 s.2.2.1 s.2.2.2.1 s.2.2.2.2.1 s.2.2.2.2.2.1 s.2.2.2.2.2.2
set_option maxHeartbeats 4000000 in
set_option maxRecDepth 100000 in
theorem bd_X2_searchAt_21 (G : GT) (d : Nat) (h0 hb : PH) (l0 : Nat) (l1 : Int32) (l2 : Nat) (Q : PH → Prop)  (hex : qEx h0 hb) (hnn : qn hb = qn h0 + 0) (hzz : qz hb = qz h0 + 0) (okl0 : qOK hb 2 l0) (okl2 : qOK hb 9 l2) (bk21 : Int32 × Int32 × Int32 × Int32 × Int32 × Int32 × PH → Prop) (hbk21 : ∀ s2, bk21 s2 → E_X2_searchAt_21 G d h0 hb l0 l1 l2 Q s2) (l5 : Int32) (l6 : Int32) (l7 : Int32) (l8 : Int32) (l9 : Int32) (l10 : Int32) (h : PH) (hwp : wb_X2_searchAt_21 l0 l1 l2 Q bk21 l5 l6 l7 l8 l9 l10 h) (hx21 : qEx hb h) (hn21 : qn h = qn hb) (hz21 : qz h = qz hb) : Ex G (qrm (1 + d) 0 0) mX2_searchAt (qn h0) (qz h0) (ZN G h0 0 0 (qqv Q)) 21 [(0, .ref l0), (1, .int l1), (2, .ref l2), (5, .int l5), (6, .int l6), (7, .int l7), (8, .int l8), (9, .int l9), (10, .int l10)] [] h := by
  unfold wb_X2_searchAt_21 at hwp
  have hex := hex.tr hx21
  have hnn := hn21.trans hnn
  have hzz := hz21.trans hzz
  have okl0 := okl0.ex hx21
  have okl2 := okl2.ex hx21
  refine x_iload (pc := 21) dX2_searchAt_21 rfl ?_
  refine x_aload_n (pc := 23) dX2_searchAt_23 rfl ?_
  refine x_getI (pc := 24) dX2_searchAt_24 qRX2_21 okl0 (by decide) ?_
  refine x_icmp_ge (tgt := 151) (pc := 27) dX2_searchAt_27 (by decide) (fun c1 => ?_) (fun c1 => ?_)
  · have hwp := hwp.1 c1
    refine x_iload (pc := 151) dX2_searchAt_151 rfl ?_
    refine x_istore (lv2 := [(10, .int l5), (0, .ref l0), (1, .int l1), (2, .ref l2), (5, .int l5), (6, .int l6), (7, .int l7), (8, .int l8), (9, .int l9)]) (pc := 153) dX2_searchAt_153 (by decide) rfl ?_
    refine x_sub [1, 2, 5, 0] rfl ?_
    exact lp_X2_searchAt_155 G d h0 h l0 l1 l6 Q hex hnn hzz okl0 hwp ⟨qEx.rf _, rfl, rfl⟩
  · have hwp := hwp.2 c1
    refine x_iload (pc := 30) dX2_searchAt_30 rfl ?_
    refine x_iload (pc := 32) dX2_searchAt_32 rfl ?_
    refine x_icmp_gt (tgt := 151) (pc := 34) dX2_searchAt_34 (by decide) (fun c2 => ?_) (fun c2 => ?_)
    · have hwp := hwp.1 c2
      refine x_iload (pc := 151) dX2_searchAt_151 rfl ?_
      refine x_istore (lv2 := [(10, .int l5), (0, .ref l0), (1, .int l1), (2, .ref l2), (5, .int l5), (6, .int l6), (7, .int l7), (8, .int l8), (9, .int l9)]) (pc := 153) dX2_searchAt_153 (by decide) rfl ?_
      refine x_sub [1, 2, 5, 0] rfl ?_
      exact lp_X2_searchAt_155 G d h0 h l0 l1 l6 Q hex hnn hzz okl0 hwp ⟨qEx.rf _, rfl, rfl⟩
    · have hwp := hwp.2 c2
      refine x_iload (pc := 37) dX2_searchAt_37 rfl ?_
      refine x_aload_n (pc := 39) dX2_searchAt_39 rfl ?_
      obtain ⟨b3, e4, hwp⟩ := hwp
      refine x_getR (pc := 40) dX2_searchAt_40 qRX2_58 okl2 e4 (fun okb3 => ?_)
      refine x_iload (pc := 43) dX2_searchAt_43 rfl ?_
      obtain ⟨i5, hwp⟩ := hwp
      refine x_iaload (pc := 45) dX2_searchAt_45 okb3 i5 ?_
      refine x_iadd (pc := 46) dX2_searchAt_46 ?_
      refine x_nmI (fun v6 ev6 => ?_)
      have hwp := hwp v6 ev6
      refine x_istore (lv2 := [(7, .int v6), (0, .ref l0), (1, .int l1), (2, .ref l2), (5, .int l5), (6, .int l6), (8, .int l8), (9, .int l9), (10, .int l10)]) (pc := 47) dX2_searchAt_47 (by decide) rfl ?_
      refine x_iload (pc := 49) dX2_searchAt_49 rfl ?_
      refine x_iload (pc := 51) dX2_searchAt_51 rfl ?_
      refine x_iload_n (pc := 53) dX2_searchAt_53 rfl ?_
      refine x_icmp_ne (tgt := 61) (pc := 54) dX2_searchAt_54 (by decide) (fun c7 => ?_) (fun c7 => ?_)
      · have hwp := hwp.1 c7
        refine x_iconst (v := 0) (pc := 61) dX2_searchAt_61 (by decide) ?_
        refine x_sub [1, 2, 3, 4, 5, 0, 7, 8] rfl ?_
        exact sg_X2_searchAt_62 G d h0 l0 l1 l2 l5 l6 v6 l9 l10 0 l8 h Q hb bk21 hbk21 hx21 hn21 hz21 hex hnn hzz okl0 okl2 hwp
      · have hwp := hwp.2 c7
        refine x_iconst (v := 1) (pc := 57) dX2_searchAt_57 (by decide) ?_
        refine x_goto (tgt := 62) (pc := 58) dX2_searchAt_58 (by decide) ?_
        refine x_sub [1, 2, 3, 4, 5, 0, 7, 8] rfl ?_
        exact sg_X2_searchAt_62 G d h0 l0 l1 l2 l5 l6 v6 l9 l10 1 l8 h Q hb bk21 hbk21 hx21 hn21 hz21 hex hnn hzz okl0 okl2 hwp
theorem lp_X2_searchAt_21 (G : GT) (d : Nat) (h0 hb : PH) (l0 : Nat) (l1 : Int32) (l2 : Nat) (Q : PH → Prop)  (hex : qEx h0 hb) (hnn : qn hb = qn h0 + 0) (hzz : qz hb = qz h0 + 0) (okl0 : qOK hb 2 l0) (okl2 : qOK hb 9 l2) {s : Int32 × Int32 × Int32 × Int32 × Int32 × Int32 × PH} (hwp : qLoop (wp_X2_searchAt_21 l0 l1 l2 Q) s) : E_X2_searchAt_21 G d h0 hb l0 l1 l2 Q s :=
  qLoop.use (E := E_X2_searchAt_21 G d h0 hb l0 l1 l2 Q) (fun back s hbk hw hx => bd_X2_searchAt_21 G d h0 hb l0 l1 l2 Q hex hnn hzz okl0 okl2 back hbk s.1 s.2.1 s.2.2.1 s.2.2.2.1 s.2.2.2.2.1 s.2.2.2.2.2.1 s.2.2.2.2.2.2 hw hx.1 hx.2.1 hx.2.2) hwp
def wp_X2_searchAt (l0 : Nat) (l1 : Int32) (l2 : Nat) (l3 : Int32) (l4 : Int32) (h : PH) (Q : PH → Prop) : Prop := (qLoop (wp_X2_searchAt_21 l0 l1 l2 Q) (1, 999, l4, 0, l3, 0, h))
set_option maxHeartbeats 4000000 in
set_option maxRecDepth 100000 in
theorem sn_X2_searchAt (G : GT) (d : Nat) (l0 : Nat) (l1 : Int32) (l2 : Nat) (l3 : Int32) (l4 : Int32) (h : PH) (Q : PH → Prop) (okl0 : qOK h 2 l0) (okl2 : qOK h 9 l2) (hwp : wp_X2_searchAt l0 l1 l2 l3 l4 h Q) : Mt G (1 + d) 0 0 mX2_searchAt [.ref l0, .int l1, .ref l2, .int l3, .int l4] h (qqv Q) := by
  unfold wp_X2_searchAt at hwp
  refine Mt.of (by decide) rfl (Nat.le_of_ble_eq_true rfl) ?_
  have hex := qEx.rf h
  have hnn : qn h = qn h + 0 := rfl
  have hzz : qz h = qz h + 0 := rfl
  refine x_lvE (lv2 := [(0, .ref l0), (1, .int l1), (2, .ref l2), (3, .int l3), (4, .int l4)]) rfl ?_
  refine x_iconst (v := 1) (pc := 0) dX2_searchAt_0 (by decide) ?_
  refine x_istore (lv2 := [(5, .int 1), (0, .ref l0), (1, .int l1), (2, .ref l2), (3, .int l3), (4, .int l4)]) (pc := 1) dX2_searchAt_1 (by decide) rfl ?_
  refine x_sipush (v := 999) (pc := 3) dX2_searchAt_3 (by decide) ?_
  refine x_istore (lv2 := [(6, .int 999), (5, .int 1), (0, .ref l0), (1, .int l1), (2, .ref l2), (3, .int l3), (4, .int l4)]) (pc := 6) dX2_searchAt_6 (by decide) rfl ?_
  refine x_iload (pc := 8) dX2_searchAt_8 rfl ?_
  refine x_istore (lv2 := [(7, .int l4), (6, .int 999), (5, .int 1), (0, .ref l0), (1, .int l1), (2, .ref l2), (3, .int l3), (4, .int l4)]) (pc := 10) dX2_searchAt_10 (by decide) rfl ?_
  refine x_iconst (v := 0) (pc := 12) dX2_searchAt_12 (by decide) ?_
  refine x_istore (lv2 := [(8, .int 0), (7, .int l4), (6, .int 999), (5, .int 1), (0, .ref l0), (1, .int l1), (2, .ref l2), (3, .int l3), (4, .int l4)]) (pc := 13) dX2_searchAt_13 (by decide) rfl ?_
  refine x_iload_n (pc := 15) dX2_searchAt_15 rfl ?_
  refine x_istore (lv2 := [(9, .int l3), (8, .int 0), (7, .int l4), (6, .int 999), (5, .int 1), (0, .ref l0), (1, .int l1), (2, .ref l2), (3, .int l3), (4, .int l4)]) (pc := 16) dX2_searchAt_16 (by decide) rfl ?_
  refine x_iconst (v := 0) (pc := 18) dX2_searchAt_18 (by decide) ?_
  refine x_istore (lv2 := [(10, .int 0), (9, .int l3), (8, .int 0), (7, .int l4), (6, .int 999), (5, .int 1), (0, .ref l0), (1, .int l1), (2, .ref l2), (3, .int l3), (4, .int l4)]) (pc := 19) dX2_searchAt_19 (by decide) rfl ?_
  refine x_sub [6, 7, 8, 5, 4, 3, 2, 1, 0] rfl ?_
  exact lp_X2_searchAt_21 G d h h l0 l1 l2 Q hex hnn hzz okl0 okl2 hwp ⟨qEx.rf _, rfl, rfl⟩

theorem dX2_search_0 : decode cX2_search 0 = .ok (.aload_n 0, 1) := by decide +kernel
theorem dX2_search_1 : decode cX2_search 1 = .ok (.iconst 1, 1) := by decide +kernel
theorem dX2_search_2 : decode cX2_search 2 = .ok (.putfield 25, 3) := by decide +kernel
theorem dX2_search_5 : decode cX2_search 5 = .ok (.aload_n 0, 1) := by decide +kernel
theorem dX2_search_6 : decode cX2_search 6 = .ok (.iconst 0, 1) := by decide +kernel
theorem dX2_search_7 : decode cX2_search 7 = .ok (.putfield 29, 3) := by decide +kernel
theorem dX2_search_10 : decode cX2_search 10 = .ok (.aload_n 0, 1) := by decide +kernel
theorem dX2_search_11 : decode cX2_search 11 = .ok (.lconst 0, 1) := by decide +kernel
theorem dX2_search_12 : decode cX2_search 12 = .ok (.putfield 32, 3) := by decide +kernel
theorem dX2_search_15 : decode cX2_search 15 = .ok (.iconst 0, 1) := by decide +kernel
theorem dX2_search_16 : decode cX2_search 16 = .ok (.istore 4, 2) := by decide +kernel
theorem dX2_search_18 : decode cX2_search 18 = .ok (.iload 4, 2) := by decide +kernel
theorem dX2_search_20 : decode cX2_search 20 = .ok (.aload_n 1, 1) := by decide +kernel
theorem dX2_search_21 : decode cX2_search 21 = .ok (.getfield 66, 3) := by decide +kernel
theorem dX2_search_24 : decode cX2_search 24 = .ok (.if_icmp .ge 18, 3) := by decide +kernel
theorem dX2_search_27 : decode cX2_search 27 = .ok (.aload_n 0, 1) := by decide +kernel
theorem dX2_search_28 : decode cX2_search 28 = .ok (.iload 4, 2) := by decide +kernel
theorem dX2_search_30 : decode cX2_search 30 = .ok (.aload_n 1, 1) := by decide +kernel
theorem dX2_search_31 : decode cX2_search 31 = .ok (.iload_n 2, 1) := by decide +kernel
theorem dX2_search_32 : decode cX2_search 32 = .ok (.iload_n 3, 1) := by decide +kernel
theorem dX2_search_33 : decode cX2_search 33 = .ok (.invokevirtual 68, 3) := by decide +kernel
theorem dX2_search_36 : decode cX2_search 36 = .ok (.iinc 4 1, 3) := by decide +kernel
theorem dX2_search_39 : decode cX2_search 39 = .ok (.goto (-21), 3) := by decide +kernel
theorem dX2_search_42 : decode cX2_search 42 = .ok (.return_, 1) := by decide +kernel
def E_X2_search_18 (G : GT) (d : Nat) (h0 hb : PH) (l0 : Nat) (l1 : Nat) (l2 : Int32) (l3 : Int32) (Q : PH → Prop) (s : Int32 × PH) : Prop := qEx hb s.2 ∧ qn s.2 = qn hb ∧ qz s.2 = qz hb → Ex G (qrm (2 + d) 0 0) mX2_search (qn h0) (qz h0) (ZN G h0 0 0 (qqv Q)) 18 [(0, .ref l0), (1, .ref l1), (2, .int l2), (3, .int l3), (4, .int s.1)] [] s.2
def wb_X2_search_18 (l0 : Nat) (l1 : Nat) (l2 : Int32) (l3 : Int32)  (Q : PH → Prop) (bk18 : Int32 × PH → Prop) (l4 : Int32) (h : PH) : Prop := (((qI h l1 2) ≤ l4 → Q h) ∧ (¬ ((qI h l1 2) ≤ l4) → (wp_X2_searchAt l0 l4 l1 l2 l3 h (fun h5 => ∀ v7 : Int32, v7 = l4 + 1 → bk18 (v7, h5)))))
def wp_X2_search_18 (l0 : Nat) (l1 : Nat) (l2 : Int32) (l3 : Int32)  (Q : PH → Prop) (bk18 : Int32 × PH → Prop) (s : Int32 × PH) : Prop := wb_X2_search_18 l0 l1 l2 l3 Q bk18 s.1 s.2
set_option maxHeartbeats 4000000 in
set_option maxRecDepth 100000 in
theorem bd_X2_search_18 (G : GT) (d : Nat) (h0 hb : PH) (l0 : Nat) (l1 : Nat) (l2 : Int32) (l3 : Int32) (Q : PH → Prop)  (hex : qEx h0 hb) (hnn : qn hb = qn h0 + 0) (hzz : qz hb = qz h0 + 0) (okl0 : qOK hb 2 l0) (okl1 : qOK hb 9 l1) (bk18 : Int32 × PH → Prop) (hbk18 : ∀ s2, bk18 s2 → E_X2_search_18 G d h0 hb l0 l1 l2 l3 Q s2) (l4 : Int32) (h : PH) (hwp : wb_X2_search_18 l0 l1 l2 l3 Q bk18 l4 h) (hx18 : qEx hb h) (hn18 : qn h = qn hb) (hz18 : qz h = qz hb) : Ex G (qrm (2 + d) 0 0) mX2_search (qn h0) (qz h0) (ZN G h0 0 0 (qqv Q)) 18 [(0, .ref l0), (1, .ref l1), (2, .int l2), (3, .int l3), (4, .int l4)] [] h := by
  unfold wb_X2_search_18 at hwp
  have hex := hex.tr hx18
  have hnn := hn18.trans hnn
  have hzz := hz18.trans hzz
  have okl0 := okl0.ex hx18
  have okl1 := okl1.ex hx18
  refine x_iload (pc := 18) dX2_search_18 rfl ?_
  refine x_aload_n (pc := 20) dX2_search_20 rfl ?_
  refine x_getI (pc := 21) dX2_search_21 qRX2_66 okl1 (by decide) ?_
  refine x_icmp_ge (tgt := 42) (pc := 24) dX2_search_24 (by decide) (fun c4 => ?_) (fun c4 => ?_)
  · have hwp := hwp.1 c4
    exact x_vret (pc := 42) dX2_search_42 rfl hex hnn hzz ⟨rfl, hwp⟩
  · have hwp := hwp.2 c4
    refine x_aload_n (pc := 27) dX2_search_27 rfl ?_
    refine x_iload (pc := 28) dX2_search_28 rfl ?_
    refine x_aload_n (pc := 30) dX2_search_30 rfl ?_
    refine x_iload_n (pc := 31) dX2_search_31 rfl ?_
    refine x_iload_n (pc := 32) dX2_search_32 rfl ?_
    refine x_invV (As := [.int l4, .ref l1, .int l2, .int l3]) (st := []) (pc := 33) dX2_search_33 lRX2_68 fX2_searchAt vX2_searchAt okl0 rfl (Nat.le_of_ble_eq_true rfl) (q_R (by omega) (by decide)) (q_C hnn hzz (by decide) (by decide)) (sn_X2_searchAt G (d + 0) l0 l4 l1 l2 l3 h _ okl0 okl1 hwp) (k_v (fun h5 hwp cxh5 => ?_))
    have hex := hex.tr cxh5.1
    have hnn : qn h5 = qn h0 + 0 := by have := cxh5.2.1; omega
    have hzz : qz h5 = qz h0 + 0 := by have := cxh5.2.2; omega
    have hx18 := hx18.tr cxh5.1
    have hn18 : qn h5 = qn hb := by have := cxh5.2.1; omega
    have hz18 : qz h5 = qz hb := by have := cxh5.2.2; omega
    have okl0 := okl0.ex cxh5.1
    have okl1 := okl1.ex cxh5.1
    refine y_iinc (c := 1) (pc := 36) dX2_search_36 rfl (by decide) (by decide) (fun v7 ev7 => ?_)
    have hwp := hwp v7 ev7
    refine x_lvE (lv2 := [(4, .int v7), (0, .ref l0), (1, .ref l1), (2, .int l2), (3, .int l3)]) rfl ?_
    refine x_goto (tgt := 18) (pc := 39) dX2_search_39 (by decide) ?_
    refine x_sub [1, 2, 3, 4, 0] rfl ?_
    exact hbk18 _ hwp ⟨hx18, hn18, hz18⟩
theorem lp_X2_search_18 (G : GT) (d : Nat) (h0 hb : PH) (l0 : Nat) (l1 : Nat) (l2 : Int32) (l3 : Int32) (Q : PH → Prop)  (hex : qEx h0 hb) (hnn : qn hb = qn h0 + 0) (hzz : qz hb = qz h0 + 0) (okl0 : qOK hb 2 l0) (okl1 : qOK hb 9 l1) {s : Int32 × PH} (hwp : qLoop (wp_X2_search_18 l0 l1 l2 l3 Q) s) : E_X2_search_18 G d h0 hb l0 l1 l2 l3 Q s :=
  qLoop.use (E := E_X2_search_18 G d h0 hb l0 l1 l2 l3 Q) (fun back s hbk hw hx => bd_X2_search_18 G d h0 hb l0 l1 l2 l3 Q hex hnn hzz okl0 okl1 back hbk s.1 s.2 hw hx.1 hx.2.1 hx.2.2) hwp
def wp_X2_search (l0 : Nat) (l1 : Nat) (l2 : Int32) (l3 : Int32) (h : PH) (Q : PH → Prop) : Prop := (∀ h1, h1 = qsI h l0 4 1 → (∀ h2, h2 = qsI h1 l0 5 0 → (∀ h3, h3 = qsJ h2 l0 6 0 → (qLoop (wp_X2_search_18 l0 l1 l2 l3 Q) (0, h3)))))
set_option maxHeartbeats 4000000 in
set_option maxRecDepth 100000 in
theorem sn_X2_search (G : GT) (d : Nat) (l0 : Nat) (l1 : Nat) (l2 : Int32) (l3 : Int32) (h : PH) (Q : PH → Prop) (okl0 : qOK h 2 l0) (okl1 : qOK h 9 l1) (hwp : wp_X2_search l0 l1 l2 l3 h Q) : Mt G (2 + d) 0 0 mX2_search [.ref l0, .ref l1, .int l2, .int l3] h (qqv Q) := by
  unfold wp_X2_search at hwp
  refine Mt.of (by decide) rfl (Nat.le_of_ble_eq_true rfl) ?_
  have hex := qEx.rf h
  have hnn : qn h = qn h + 0 := rfl
  have hzz : qz h = qz h + 0 := rfl
  refine x_lvE (lv2 := [(0, .ref l0), (1, .ref l1), (2, .int l2), (3, .int l3)]) rfl ?_
  refine x_aload_n (pc := 0) dX2_search_0 rfl ?_
  refine x_iconst (v := 1) (pc := 1) dX2_search_1 (by decide) ?_
  refine y_putZ (pc := 2) dX2_search_2 qRX2_25 okl0 (by decide) (fun h1 eh1 nxh1 => ?_)
  have hwp := hwp h1 eh1
  have hex := hex.tr nxh1.1
  have hnn := nxh1.2.1.trans hnn
  have hzz := nxh1.2.2.trans hzz
  have okl0 := okl0.ex nxh1.1
  have okl1 := okl1.ex nxh1.1
  refine x_aload_n (pc := 5) dX2_search_5 rfl ?_
  refine x_iconst (v := 0) (pc := 6) dX2_search_6 (by decide) ?_
  refine y_putI (pc := 7) dX2_search_7 qRX2_29 okl0 (fun h2 eh2 nxh2 => ?_)
  have hwp := hwp h2 eh2
  have hex := hex.tr nxh2.1
  have hnn := nxh2.2.1.trans hnn
  have hzz := nxh2.2.2.trans hzz
  have okl0 := okl0.ex nxh2.1
  have okl1 := okl1.ex nxh2.1
  refine x_aload_n (pc := 10) dX2_search_10 rfl ?_
  refine x_lconst (v := 0) (pc := 11) dX2_search_11 (by decide) ?_
  refine y_putJ (pc := 12) dX2_search_12 qRX2_32 okl0 (fun h3 eh3 nxh3 => ?_)
  have hwp := hwp h3 eh3
  have hex := hex.tr nxh3.1
  have hnn := nxh3.2.1.trans hnn
  have hzz := nxh3.2.2.trans hzz
  have okl0 := okl0.ex nxh3.1
  have okl1 := okl1.ex nxh3.1
  refine x_iconst (v := 0) (pc := 15) dX2_search_15 (by decide) ?_
  refine x_istore (lv2 := [(4, .int 0), (0, .ref l0), (1, .ref l1), (2, .int l2), (3, .int l3)]) (pc := 16) dX2_search_16 (by decide) rfl ?_
  refine x_sub [1, 2, 3, 4, 0] rfl ?_
  exact lp_X2_search_18 G d h h3 l0 l1 l2 l3 Q hex hnn hzz okl0 okl1 hwp ⟨qEx.rf _, rfl, rfl⟩

theorem dX2_readLooks_0 : decode cX2_readLooks 0 = .ok (.aload_n 0, 1) := by decide +kernel
theorem dX2_readLooks_1 : decode cX2_readLooks 1 = .ok (.iload_n 2, 1) := by decide +kernel
theorem dX2_readLooks_2 : decode cX2_readLooks 2 = .ok (.bipush 10, 2) := by decide +kernel
theorem dX2_readLooks_4 : decode cX2_readLooks 4 = .ok (.invokestatic 46, 3) := by decide +kernel
theorem dX2_readLooks_7 : decode cX2_readLooks 7 = .ok (.putfield 40, 3) := by decide +kernel
theorem dX2_readLooks_10 : decode cX2_readLooks 10 = .ok (.iconst 0, 1) := by decide +kernel
theorem dX2_readLooks_11 : decode cX2_readLooks 11 = .ok (.istore_n 3, 1) := by decide +kernel
theorem dX2_readLooks_12 : decode cX2_readLooks 12 = .ok (.iload_n 3, 1) := by decide +kernel
theorem dX2_readLooks_13 : decode cX2_readLooks 13 = .ok (.aload_n 0, 1) := by decide +kernel
theorem dX2_readLooks_14 : decode cX2_readLooks 14 = .ok (.getfield 40, 3) := by decide +kernel
theorem dX2_readLooks_17 : decode cX2_readLooks 17 = .ok (.if_icmp .ge 59, 3) := by decide +kernel
theorem dX2_readLooks_20 : decode cX2_readLooks 20 = .ok (.aload_n 0, 1) := by decide +kernel
theorem dX2_readLooks_21 : decode cX2_readLooks 21 = .ok (.getfield 36, 3) := by decide +kernel
theorem dX2_readLooks_24 : decode cX2_readLooks 24 = .ok (.iload_n 3, 1) := by decide +kernel
theorem dX2_readLooks_25 : decode cX2_readLooks 25 = .ok (.lconst 0, 1) := by decide +kernel
theorem dX2_readLooks_26 : decode cX2_readLooks 26 = .ok (.lastore, 1) := by decide +kernel
theorem dX2_readLooks_27 : decode cX2_readLooks 27 = .ok (.iconst 0, 1) := by decide +kernel
theorem dX2_readLooks_28 : decode cX2_readLooks 28 = .ok (.istore 4, 2) := by decide +kernel
theorem dX2_readLooks_30 : decode cX2_readLooks 30 = .ok (.iload 4, 2) := by decide +kernel
theorem dX2_readLooks_32 : decode cX2_readLooks 32 = .ok (.bipush 6, 2) := by decide +kernel
theorem dX2_readLooks_34 : decode cX2_readLooks 34 = .ok (.if_icmp .ge 36, 3) := by decide +kernel
theorem dX2_readLooks_37 : decode cX2_readLooks 37 = .ok (.aload_n 0, 1) := by decide +kernel
theorem dX2_readLooks_38 : decode cX2_readLooks 38 = .ok (.getfield 36, 3) := by decide +kernel
theorem dX2_readLooks_41 : decode cX2_readLooks 41 = .ok (.iload_n 3, 1) := by decide +kernel
theorem dX2_readLooks_42 : decode cX2_readLooks 42 = .ok (.dup2, 1) := by decide +kernel
theorem dX2_readLooks_43 : decode cX2_readLooks 43 = .ok (.laload, 1) := by decide +kernel
theorem dX2_readLooks_44 : decode cX2_readLooks 44 = .ok (.aload_n 1, 1) := by decide +kernel
theorem dX2_readLooks_45 : decode cX2_readLooks 45 = .ok (.bipush 6, 2) := by decide +kernel
theorem dX2_readLooks_47 : decode cX2_readLooks 47 = .ok (.iload_n 3, 1) := by decide +kernel
theorem dX2_readLooks_48 : decode cX2_readLooks 48 = .ok (.imul, 1) := by decide +kernel
theorem dX2_readLooks_49 : decode cX2_readLooks 49 = .ok (.iload 4, 2) := by decide +kernel
theorem dX2_readLooks_51 : decode cX2_readLooks 51 = .ok (.iadd, 1) := by decide +kernel
theorem dX2_readLooks_52 : decode cX2_readLooks 52 = .ok (.invokevirtual 52, 3) := by decide +kernel
theorem dX2_readLooks_55 : decode cX2_readLooks 55 = .ok (.i2l, 1) := by decide +kernel
theorem dX2_readLooks_56 : decode cX2_readLooks 56 = .ok (.bipush 8, 2) := by decide +kernel
theorem dX2_readLooks_58 : decode cX2_readLooks 58 = .ok (.iload 4, 2) := by decide +kernel
theorem dX2_readLooks_60 : decode cX2_readLooks 60 = .ok (.imul, 1) := by decide +kernel
theorem dX2_readLooks_61 : decode cX2_readLooks 61 = .ok (.lshl, 1) := by decide +kernel
theorem dX2_readLooks_62 : decode cX2_readLooks 62 = .ok (.lor, 1) := by decide +kernel
theorem dX2_readLooks_63 : decode cX2_readLooks 63 = .ok (.lastore, 1) := by decide +kernel
theorem dX2_readLooks_64 : decode cX2_readLooks 64 = .ok (.iinc 4 1, 3) := by decide +kernel
theorem dX2_readLooks_67 : decode cX2_readLooks 67 = .ok (.goto (-37), 3) := by decide +kernel
theorem dX2_readLooks_70 : decode cX2_readLooks 70 = .ok (.iinc 3 1, 3) := by decide +kernel
theorem dX2_readLooks_73 : decode cX2_readLooks 73 = .ok (.goto (-61), 3) := by decide +kernel
theorem dX2_readLooks_76 : decode cX2_readLooks 76 = .ok (.return_, 1) := by decide +kernel
def E_X2_readLooks_12 (G : GT) (d : Nat) (h0 hb : PH) (l0 : Nat) (l1 : Nat) (Q : PH → Prop) (s : Int32 × PH) : Prop := qEx hb s.2 ∧ qn s.2 = qn hb ∧ qz s.2 = qz hb → Ex G (qrm (1 + d) 0 0) mX2_readLooks (qn h0) (qz h0) (ZN G h0 0 0 (qqv Q)) 12 [(0, .ref l0), (1, .ref l1), (3, .int s.1)] [] s.2
def E_X2_readLooks_30 (G : GT) (d : Nat) (h0 hb : PH) (l0 : Nat) (l1 : Nat) (l3 : Int32) (Q : PH → Prop) (s : Int32 × PH) : Prop := qEx hb s.2 ∧ qn s.2 = qn hb ∧ qz s.2 = qz hb → Ex G (qrm (1 + d) 0 0) mX2_readLooks (qn h0) (qz h0) (ZN G h0 0 0 (qqv Q)) 30 [(0, .ref l0), (1, .ref l1), (3, .int l3), (4, .int s.1)] [] s.2
def wb_X2_readLooks_30 (l0 : Nat) (l1 : Nat) (l3 : Int32) (bk12 : Int32 × PH → Prop) (Q : PH → Prop) (bk30 : Int32 × PH → Prop) (l4 : Int32) (h : PH) : Prop := ((6 ≤ l4 → ∀ v10 : Int32, v10 = l3 + 1 → bk12 (v10, h)) ∧ (¬ (6 ≤ l4) → (∃ b11, qR h l0 7 = some b11 ∧ (vp_in l3 (qL h b11) ∧ (wp_X6_byteAt l1 ((6 * l3) + l4) h (fun r15 h14 => (vp_in l3 (qL h14 b11) ∧ ∀ h16, h16 = qsJ h14 b11 l3.toNatClampNeg ((qJ h b11 l3.toNatClampNeg) ||| (r15.toInt64 <<< ((8 * l4).toInt64 &&& 63))) → ∀ v18 : Int32, v18 = l4 + 1 → bk30 (v18, h16))))))))
def wp_X2_readLooks_30 (l0 : Nat) (l1 : Nat) (l3 : Int32) (bk12 : Int32 × PH → Prop) (Q : PH → Prop) (bk30 : Int32 × PH → Prop) (s : Int32 × PH) : Prop := wb_X2_readLooks_30 l0 l1 l3 bk12 Q bk30 s.1 s.2
set_option maxHeartbeats 4000000 in
set_option maxRecDepth 100000 in
theorem bd_X2_readLooks_30 (G : GT) (d : Nat) (h0 hb : PH) (l0 : Nat) (l1 : Nat) (l3 : Int32) (Q : PH → Prop) (hb12 : PH) (bk12 : Int32 × PH → Prop) (hbk12 : ∀ s2, bk12 s2 → E_X2_readLooks_12 G d h0 hb12 l0 l1 Q s2) (hx12 : qEx hb12 hb) (hn12 : qn hb = qn hb12) (hz12 : qz hb = qz hb12) (hex : qEx h0 hb) (hnn : qn hb = qn h0 + 0) (hzz : qz hb = qz h0 + 0) (okl0 : qOK hb 2 l0) (okl1 : qOK hb 6 l1) (bk30 : Int32 × PH → Prop) (hbk30 : ∀ s2, bk30 s2 → E_X2_readLooks_30 G d h0 hb l0 l1 l3 Q s2) (l4 : Int32) (h : PH) (hwp : wb_X2_readLooks_30 l0 l1 l3 bk12 Q bk30 l4 h) (hx30 : qEx hb h) (hn30 : qn h = qn hb) (hz30 : qz h = qz hb) : Ex G (qrm (1 + d) 0 0) mX2_readLooks (qn h0) (qz h0) (ZN G h0 0 0 (qqv Q)) 30 [(0, .ref l0), (1, .ref l1), (3, .int l3), (4, .int l4)] [] h := by
  unfold wb_X2_readLooks_30 at hwp
  have hex := hex.tr hx30
  have hnn := hn30.trans hnn
  have hzz := hz30.trans hzz
  have hx12 := hx12.tr hx30
  have hn12 := hn30.trans hn12
  have hz12 := hz30.trans hz12
  have okl0 := okl0.ex hx30
  have okl1 := okl1.ex hx30
  refine x_iload (pc := 30) dX2_readLooks_30 rfl ?_
  refine x_bipush (v := 6) (pc := 32) dX2_readLooks_32 (by decide) ?_
  refine x_icmp_ge (tgt := 70) (pc := 34) dX2_readLooks_34 (by decide) (fun c9 => ?_) (fun c9 => ?_)
  · have hwp := hwp.1 c9
    refine y_iinc (c := 1) (pc := 70) dX2_readLooks_70 rfl (by decide) (by decide) (fun v10 ev10 => ?_)
    have hwp := hwp v10 ev10
    refine x_lvE (lv2 := [(3, .int v10), (0, .ref l0), (1, .ref l1), (4, .int l4)]) rfl ?_
    refine x_goto (tgt := 12) (pc := 73) dX2_readLooks_73 (by decide) ?_
    refine x_sub [1, 2, 0] rfl ?_
    exact hbk12 _ hwp ⟨hx12, hn12, hz12⟩
  · have hwp := hwp.2 c9
    refine x_aload_n (pc := 37) dX2_readLooks_37 rfl ?_
    obtain ⟨b11, e12, hwp⟩ := hwp
    refine x_getR (pc := 38) dX2_readLooks_38 qRX2_36 okl0 e12 (fun okb11 => ?_)
    refine x_iload_n (pc := 41) dX2_readLooks_41 rfl ?_
    refine x_dup2 (pc := 42) dX2_readLooks_42 rfl rfl ?_
    obtain ⟨i13, hwp⟩ := hwp
    refine x_laload (pc := 43) dX2_readLooks_43 okb11 i13 ?_
    refine x_aload_n (pc := 44) dX2_readLooks_44 rfl ?_
    refine x_bipush (v := 6) (pc := 45) dX2_readLooks_45 (by decide) ?_
    refine x_iload_n (pc := 47) dX2_readLooks_47 rfl ?_
    refine x_imul (pc := 48) dX2_readLooks_48 ?_
    refine x_iload (pc := 49) dX2_readLooks_49 rfl ?_
    refine x_iadd (pc := 51) dX2_readLooks_51 ?_
    refine x_invV (As := [.int ((6 * l3) + l4)]) (st := [.long (qJ h b11 l3.toNatClampNeg), .int l3, .ref b11]) (pc := 52) dX2_readLooks_52 lRX2_52 fX6_byteAt vX6_byteAt okl1 rfl (Nat.le_of_ble_eq_true rfl) (q_R (by omega) (by decide)) (q_C hnn hzz (by decide) (by decide)) (sn_X6_byteAt G (d + 0) l1 ((6 * l3) + l4) h _ okl1 hwp) (k_i (fun r15 h14 hwp cxh14 => ?_))
    have hex := hex.tr cxh14.1
    have hnn : qn h14 = qn h0 + 0 := by have := cxh14.2.1; omega
    have hzz : qz h14 = qz h0 + 0 := by have := cxh14.2.2; omega
    have hx12 := hx12.tr cxh14.1
    have hn12 : qn h14 = qn hb12 := by have := cxh14.2.1; omega
    have hz12 : qz h14 = qz hb12 := by have := cxh14.2.2; omega
    have hx30 := hx30.tr cxh14.1
    have hn30 : qn h14 = qn hb := by have := cxh14.2.1; omega
    have hz30 : qz h14 = qz hb := by have := cxh14.2.2; omega
    have okl0 := okl0.ex cxh14.1
    have okl1 := okl1.ex cxh14.1
    have okb11 := okb11.ex cxh14.1
    refine x_i2l (pc := 55) dX2_readLooks_55 ?_
    refine x_bipush (v := 8) (pc := 56) dX2_readLooks_56 (by decide) ?_
    refine x_iload (pc := 58) dX2_readLooks_58 rfl ?_
    refine x_imul (pc := 60) dX2_readLooks_60 ?_
    refine x_lshl (pc := 61) dX2_readLooks_61 ?_
    refine x_lor (pc := 62) dX2_readLooks_62 ?_
    obtain ⟨i17, hwp⟩ := hwp
    refine y_lastore (pc := 63) dX2_readLooks_63 okb11 i17 (fun h16 eh16 nxh16 => ?_)
    have hwp := hwp h16 eh16
    have hex := hex.tr nxh16.1
    have hnn := nxh16.2.1.trans hnn
    have hzz := nxh16.2.2.trans hzz
    have hx12 := hx12.tr nxh16.1
    have hn12 := nxh16.2.1.trans hn12
    have hz12 := nxh16.2.2.trans hz12
    have hx30 := hx30.tr nxh16.1
    have hn30 := nxh16.2.1.trans hn30
    have hz30 := nxh16.2.2.trans hz30
    have okl0 := okl0.ex nxh16.1
    have okl1 := okl1.ex nxh16.1
    have okb11 := okb11.ex nxh16.1
    refine y_iinc (c := 1) (pc := 64) dX2_readLooks_64 rfl (by decide) (by decide) (fun v18 ev18 => ?_)
    have hwp := hwp v18 ev18
    refine x_lvE (lv2 := [(4, .int v18), (0, .ref l0), (1, .ref l1), (3, .int l3)]) rfl ?_
    refine x_goto (tgt := 30) (pc := 67) dX2_readLooks_67 (by decide) ?_
    refine x_sub [1, 2, 3, 0] rfl ?_
    exact hbk30 _ hwp ⟨hx30, hn30, hz30⟩
theorem lp_X2_readLooks_30 (G : GT) (d : Nat) (h0 hb : PH) (l0 : Nat) (l1 : Nat) (l3 : Int32) (Q : PH → Prop) (hb12 : PH) (bk12 : Int32 × PH → Prop) (hbk12 : ∀ s2, bk12 s2 → E_X2_readLooks_12 G d h0 hb12 l0 l1 Q s2) (hx12 : qEx hb12 hb) (hn12 : qn hb = qn hb12) (hz12 : qz hb = qz hb12) (hex : qEx h0 hb) (hnn : qn hb = qn h0 + 0) (hzz : qz hb = qz h0 + 0) (okl0 : qOK hb 2 l0) (okl1 : qOK hb 6 l1) {s : Int32 × PH} (hwp : qLoop (wp_X2_readLooks_30 l0 l1 l3 bk12 Q) s) : E_X2_readLooks_30 G d h0 hb l0 l1 l3 Q s :=
  qLoop.use (E := E_X2_readLooks_30 G d h0 hb l0 l1 l3 Q) (fun back s hbk hw hx => bd_X2_readLooks_30 G d h0 hb l0 l1 l3 Q hb12 bk12 hbk12 hx12 hn12 hz12 hex hnn hzz okl0 okl1 back hbk s.1 s.2 hw hx.1 hx.2.1 hx.2.2) hwp
def wb_X2_readLooks_12 (l0 : Nat) (l1 : Nat)  (Q : PH → Prop) (bk12 : Int32 × PH → Prop) (l3 : Int32) (h : PH) : Prop := (((qI h l0 8) ≤ l3 → Q h) ∧ (¬ ((qI h l0 8) ≤ l3) → (∃ b5, qR h l0 7 = some b5 ∧ (vp_in l3 (qL h b5) ∧ ∀ h7, h7 = qsJ h b5 l3.toNatClampNeg 0 → (qLoop (wp_X2_readLooks_30 l0 l1 l3 bk12 Q) (0, h7))))))
def wp_X2_readLooks_12 (l0 : Nat) (l1 : Nat)  (Q : PH → Prop) (bk12 : Int32 × PH → Prop) (s : Int32 × PH) : Prop := wb_X2_readLooks_12 l0 l1 Q bk12 s.1 s.2
set_option maxHeartbeats 4000000 in
set_option maxRecDepth 100000 in
theorem bd_X2_readLooks_12 (G : GT) (d : Nat) (h0 hb : PH) (l0 : Nat) (l1 : Nat) (Q : PH → Prop)  (hex : qEx h0 hb) (hnn : qn hb = qn h0 + 0) (hzz : qz hb = qz h0 + 0) (okl0 : qOK hb 2 l0) (okl1 : qOK hb 6 l1) (bk12 : Int32 × PH → Prop) (hbk12 : ∀ s2, bk12 s2 → E_X2_readLooks_12 G d h0 hb l0 l1 Q s2) (l3 : Int32) (h : PH) (hwp : wb_X2_readLooks_12 l0 l1 Q bk12 l3 h) (hx12 : qEx hb h) (hn12 : qn h = qn hb) (hz12 : qz h = qz hb) : Ex G (qrm (1 + d) 0 0) mX2_readLooks (qn h0) (qz h0) (ZN G h0 0 0 (qqv Q)) 12 [(0, .ref l0), (1, .ref l1), (3, .int l3)] [] h := by
  unfold wb_X2_readLooks_12 at hwp
  have hex := hex.tr hx12
  have hnn := hn12.trans hnn
  have hzz := hz12.trans hzz
  have okl0 := okl0.ex hx12
  have okl1 := okl1.ex hx12
  refine x_iload_n (pc := 12) dX2_readLooks_12 rfl ?_
  refine x_aload_n (pc := 13) dX2_readLooks_13 rfl ?_
  refine x_getI (pc := 14) dX2_readLooks_14 qRX2_40 okl0 (by decide) ?_
  refine x_icmp_ge (tgt := 76) (pc := 17) dX2_readLooks_17 (by decide) (fun c4 => ?_) (fun c4 => ?_)
  · have hwp := hwp.1 c4
    exact x_vret (pc := 76) dX2_readLooks_76 rfl hex hnn hzz ⟨rfl, hwp⟩
  · have hwp := hwp.2 c4
    refine x_aload_n (pc := 20) dX2_readLooks_20 rfl ?_
    obtain ⟨b5, e6, hwp⟩ := hwp
    refine x_getR (pc := 21) dX2_readLooks_21 qRX2_36 okl0 e6 (fun okb5 => ?_)
    refine x_iload_n (pc := 24) dX2_readLooks_24 rfl ?_
    refine x_lconst (v := 0) (pc := 25) dX2_readLooks_25 (by decide) ?_
    obtain ⟨i8, hwp⟩ := hwp
    refine y_lastore (pc := 26) dX2_readLooks_26 okb5 i8 (fun h7 eh7 nxh7 => ?_)
    have hwp := hwp h7 eh7
    have hex := hex.tr nxh7.1
    have hnn := nxh7.2.1.trans hnn
    have hzz := nxh7.2.2.trans hzz
    have hx12 := hx12.tr nxh7.1
    have hn12 := nxh7.2.1.trans hn12
    have hz12 := nxh7.2.2.trans hz12
    have okl0 := okl0.ex nxh7.1
    have okl1 := okl1.ex nxh7.1
    have okb5 := okb5.ex nxh7.1
    refine x_iconst (v := 0) (pc := 27) dX2_readLooks_27 (by decide) ?_
    refine x_istore (lv2 := [(4, .int 0), (0, .ref l0), (1, .ref l1), (3, .int l3)]) (pc := 28) dX2_readLooks_28 (by decide) rfl ?_
    refine x_sub [1, 2, 3, 0] rfl ?_
    exact lp_X2_readLooks_30 G d h0 h7 l0 l1 l3 Q hb bk12 hbk12 hx12 hn12 hz12 hex hnn hzz okl0 okl1 hwp ⟨qEx.rf _, rfl, rfl⟩
theorem lp_X2_readLooks_12 (G : GT) (d : Nat) (h0 hb : PH) (l0 : Nat) (l1 : Nat) (Q : PH → Prop)  (hex : qEx h0 hb) (hnn : qn hb = qn h0 + 0) (hzz : qz hb = qz h0 + 0) (okl0 : qOK hb 2 l0) (okl1 : qOK hb 6 l1) {s : Int32 × PH} (hwp : qLoop (wp_X2_readLooks_12 l0 l1 Q) s) : E_X2_readLooks_12 G d h0 hb l0 l1 Q s :=
  qLoop.use (E := E_X2_readLooks_12 G d h0 hb l0 l1 Q) (fun back s hbk hw hx => bd_X2_readLooks_12 G d h0 hb l0 l1 Q hex hnn hzz okl0 okl1 back hbk s.1 s.2 hw hx.1 hx.2.1 hx.2.2) hwp
def wp_X2_readLooks (l0 : Nat) (l1 : Nat) (l2 : Int32) (h : PH) (Q : PH → Prop) : Prop := (wp_J9_min_7cf53 l2 10 h (fun r2 h1 => (∀ h3, h3 = qsI h1 l0 8 r2 → (qLoop (wp_X2_readLooks_12 l0 l1 Q) (0, h3)))))
set_option maxHeartbeats 4000000 in
set_option maxRecDepth 100000 in
theorem sn_X2_readLooks (G : GT) (d : Nat) (l0 : Nat) (l1 : Nat) (l2 : Int32) (h : PH) (Q : PH → Prop) (okl0 : qOK h 2 l0) (okl1 : qOK h 6 l1) (hwp : wp_X2_readLooks l0 l1 l2 h Q) : Mt G (1 + d) 0 0 mX2_readLooks [.ref l0, .ref l1, .int l2] h (qqv Q) := by
  unfold wp_X2_readLooks at hwp
  refine Mt.of (by decide) rfl (Nat.le_of_ble_eq_true rfl) ?_
  have hex := qEx.rf h
  have hnn : qn h = qn h + 0 := rfl
  have hzz : qz h = qz h + 0 := rfl
  refine x_lvE (lv2 := [(0, .ref l0), (1, .ref l1), (2, .int l2)]) rfl ?_
  refine x_aload_n (pc := 0) dX2_readLooks_0 rfl ?_
  refine x_iload_n (pc := 1) dX2_readLooks_1 rfl ?_
  refine x_bipush (v := 10) (pc := 2) dX2_readLooks_2 (by decide) ?_
  refine x_invS (As := [.int l2, .int 10]) (st := [.ref l0]) (pc := 4) dX2_readLooks_4 lRX2_46 fJ9_min_7cf53 sJ9_min_7cf53 rfl (Nat.le_of_ble_eq_true rfl) (q_R (by omega) (by decide)) (q_C hnn hzz (by decide) (by decide)) (sn_J9_min_7cf53 G (d + 0) l2 10 h _  hwp) (k_i (fun r2 h1 hwp cxh1 => ?_))
  have hex := hex.tr cxh1.1
  have hnn : qn h1 = qn h + 0 := by have := cxh1.2.1; omega
  have hzz : qz h1 = qz h + 0 := by have := cxh1.2.2; omega
  have okl0 := okl0.ex cxh1.1
  have okl1 := okl1.ex cxh1.1
  refine y_putI (pc := 7) dX2_readLooks_7 qRX2_40 okl0 (fun h3 eh3 nxh3 => ?_)
  have hwp := hwp h3 eh3
  have hex := hex.tr nxh3.1
  have hnn := nxh3.2.1.trans hnn
  have hzz := nxh3.2.2.trans hzz
  have okl0 := okl0.ex nxh3.1
  have okl1 := okl1.ex nxh3.1
  refine x_iconst (v := 0) (pc := 10) dX2_readLooks_10 (by decide) ?_
  refine x_istore_n (lv2 := [(3, .int 0), (0, .ref l0), (1, .ref l1), (2, .int l2)]) (pc := 11) dX2_readLooks_11 (by decide) rfl ?_
  refine x_sub [1, 2, 0] rfl ?_
  exact lp_X2_readLooks_12 G d h h3 l0 l1 Q hex hnn hzz okl0 okl1 hwp ⟨qEx.rf _, rfl, rfl⟩

theorem dX2_lookedAt_0 : decode cX2_lookedAt 0 = .ok (.lconst 0, 1) := by decide +kernel
theorem dX2_lookedAt_1 : decode cX2_lookedAt 1 = .ok (.lstore_n 2, 1) := by decide +kernel
theorem dX2_lookedAt_2 : decode cX2_lookedAt 2 = .ok (.iconst 0, 1) := by decide +kernel
theorem dX2_lookedAt_3 : decode cX2_lookedAt 3 = .ok (.istore 4, 2) := by decide +kernel
theorem dX2_lookedAt_5 : decode cX2_lookedAt 5 = .ok (.iload 4, 2) := by decide +kernel
theorem dX2_lookedAt_7 : decode cX2_lookedAt 7 = .ok (.aload_n 0, 1) := by decide +kernel
theorem dX2_lookedAt_8 : decode cX2_lookedAt 8 = .ok (.getfield 40, 3) := by decide +kernel
theorem dX2_lookedAt_11 : decode cX2_lookedAt 11 = .ok (.if_icmp .ge 28, 3) := by decide +kernel
theorem dX2_lookedAt_14 : decode cX2_lookedAt 14 = .ok (.iload_n 1, 1) := by decide +kernel
theorem dX2_lookedAt_15 : decode cX2_lookedAt 15 = .ok (.iload 4, 2) := by decide +kernel
theorem dX2_lookedAt_17 : decode cX2_lookedAt 17 = .ok (.iushr, 1) := by decide +kernel
theorem dX2_lookedAt_18 : decode cX2_lookedAt 18 = .ok (.iconst 1, 1) := by decide +kernel
theorem dX2_lookedAt_19 : decode cX2_lookedAt 19 = .ok (.iand, 1) := by decide +kernel
theorem dX2_lookedAt_20 : decode cX2_lookedAt 20 = .ok (.ifCond .eq 13, 3) := by decide +kernel
theorem dX2_lookedAt_23 : decode cX2_lookedAt 23 = .ok (.lload_n 2, 1) := by decide +kernel
theorem dX2_lookedAt_24 : decode cX2_lookedAt 24 = .ok (.aload_n 0, 1) := by decide +kernel
theorem dX2_lookedAt_25 : decode cX2_lookedAt 25 = .ok (.getfield 36, 3) := by decide +kernel
theorem dX2_lookedAt_28 : decode cX2_lookedAt 28 = .ok (.iload 4, 2) := by decide +kernel
theorem dX2_lookedAt_30 : decode cX2_lookedAt 30 = .ok (.laload, 1) := by decide +kernel
theorem dX2_lookedAt_31 : decode cX2_lookedAt 31 = .ok (.lor, 1) := by decide +kernel
theorem dX2_lookedAt_32 : decode cX2_lookedAt 32 = .ok (.lstore_n 2, 1) := by decide +kernel
theorem dX2_lookedAt_33 : decode cX2_lookedAt 33 = .ok (.iinc 4 1, 3) := by decide +kernel
theorem dX2_lookedAt_36 : decode cX2_lookedAt 36 = .ok (.goto (-31), 3) := by decide +kernel
theorem dX2_lookedAt_39 : decode cX2_lookedAt 39 = .ok (.lload_n 2, 1) := by decide +kernel
theorem dX2_lookedAt_40 : decode cX2_lookedAt 40 = .ok (.lreturn, 1) := by decide +kernel
def E_X2_lookedAt_5 (G : GT) (d : Nat) (h0 hb : PH) (l0 : Nat) (l1 : Int32) (Q : Int64 → PH → Prop) (s : Int64 × Int32 × PH) : Prop := qEx hb s.2.2 ∧ qn s.2.2 = qn hb ∧ qz s.2.2 = qz hb → Ex G (qrm (0 + d) 0 0) mX2_lookedAt (qn h0) (qz h0) (ZN G h0 0 0 (qqj Q)) 5 [(0, .ref l0), (1, .int l1), (2, .long s.1), (4, .int s.2.1)] [] s.2.2
def wb_X2_lookedAt_5 (l0 : Nat) (l1 : Int32)  (Q : Int64 → PH → Prop) (bk5 : Int64 × Int32 × PH → Prop) (l2 : Int64) (l4 : Int32) (h : PH) : Prop := (((qI h l0 8) ≤ l4 → Q l2 h) ∧ (¬ ((qI h l0 8) ≤ l4) → ((((q_ushr l1 l4) &&& 1) = 0 → ∀ v3 : Int32, v3 = l4 + 1 → bk5 (l2, v3, h)) ∧ (¬ (((q_ushr l1 l4) &&& 1) = 0) → (∃ b4, qR h l0 7 = some b4 ∧ (vp_in l4 (qL h b4) ∧ ∀ v7 : Int64, v7 = l2 ||| (qJ h b4 l4.toNatClampNeg) → ∀ v8 : Int32, v8 = l4 + 1 → bk5 (v7, v8, h)))))))
def wp_X2_lookedAt_5 (l0 : Nat) (l1 : Int32)  (Q : Int64 → PH → Prop) (bk5 : Int64 × Int32 × PH → Prop) (s : Int64 × Int32 × PH) : Prop := wb_X2_lookedAt_5 l0 l1 Q bk5 s.1 s.2.1 s.2.2
set_option maxHeartbeats 4000000 in
set_option maxRecDepth 100000 in
theorem bd_X2_lookedAt_5 (G : GT) (d : Nat) (h0 hb : PH) (l0 : Nat) (l1 : Int32) (Q : Int64 → PH → Prop)  (hex : qEx h0 hb) (hnn : qn hb = qn h0 + 0) (hzz : qz hb = qz h0 + 0) (okl0 : qOK hb 2 l0) (bk5 : Int64 × Int32 × PH → Prop) (hbk5 : ∀ s2, bk5 s2 → E_X2_lookedAt_5 G d h0 hb l0 l1 Q s2) (l2 : Int64) (l4 : Int32) (h : PH) (hwp : wb_X2_lookedAt_5 l0 l1 Q bk5 l2 l4 h) (hx5 : qEx hb h) (hn5 : qn h = qn hb) (hz5 : qz h = qz hb) : Ex G (qrm (0 + d) 0 0) mX2_lookedAt (qn h0) (qz h0) (ZN G h0 0 0 (qqj Q)) 5 [(0, .ref l0), (1, .int l1), (2, .long l2), (4, .int l4)] [] h := by
  unfold wb_X2_lookedAt_5 at hwp
  have hex := hex.tr hx5
  have hnn := hn5.trans hnn
  have hzz := hz5.trans hzz
  have okl0 := okl0.ex hx5
  refine x_iload (pc := 5) dX2_lookedAt_5 rfl ?_
  refine x_aload_n (pc := 7) dX2_lookedAt_7 rfl ?_
  refine x_getI (pc := 8) dX2_lookedAt_8 qRX2_40 okl0 (by decide) ?_
  refine x_icmp_ge (tgt := 39) (pc := 11) dX2_lookedAt_11 (by decide) (fun c1 => ?_) (fun c1 => ?_)
  · have hwp := hwp.1 c1
    refine x_lload_n (pc := 39) dX2_lookedAt_39 rfl ?_
    exact x_lret (pc := 40) dX2_lookedAt_40 rfl hex hnn hzz ⟨_, rfl, hwp⟩
  · have hwp := hwp.2 c1
    refine x_iload_n (pc := 14) dX2_lookedAt_14 rfl ?_
    refine x_iload (pc := 15) dX2_lookedAt_15 rfl ?_
    refine x_iushr (pc := 17) dX2_lookedAt_17 ?_
    refine x_iconst (v := 1) (pc := 18) dX2_lookedAt_18 (by decide) ?_
    refine x_iand (pc := 19) dX2_lookedAt_19 ?_
    refine x_if_eq (tgt := 33) (pc := 20) dX2_lookedAt_20 (by decide) (fun c2 => ?_) (fun c2 => ?_)
    · have hwp := hwp.1 c2
      refine y_iinc (c := 1) (pc := 33) dX2_lookedAt_33 rfl (by decide) (by decide) (fun v3 ev3 => ?_)
      have hwp := hwp v3 ev3
      refine x_lvE (lv2 := [(4, .int v3), (0, .ref l0), (1, .int l1), (2, .long l2)]) rfl ?_
      refine x_goto (tgt := 5) (pc := 36) dX2_lookedAt_36 (by decide) ?_
      refine x_sub [1, 2, 3, 0] rfl ?_
      exact hbk5 _ hwp ⟨hx5, hn5, hz5⟩
    · have hwp := hwp.2 c2
      refine x_lload_n (pc := 23) dX2_lookedAt_23 rfl ?_
      refine x_aload_n (pc := 24) dX2_lookedAt_24 rfl ?_
      obtain ⟨b4, e5, hwp⟩ := hwp
      refine x_getR (pc := 25) dX2_lookedAt_25 qRX2_36 okl0 e5 (fun okb4 => ?_)
      refine x_iload (pc := 28) dX2_lookedAt_28 rfl ?_
      obtain ⟨i6, hwp⟩ := hwp
      refine x_laload (pc := 30) dX2_lookedAt_30 okb4 i6 ?_
      refine x_lor (pc := 31) dX2_lookedAt_31 ?_
      refine x_nmJ (fun v7 ev7 => ?_)
      have hwp := hwp v7 ev7
      refine x_lstore_n (lv2 := [(2, .long v7), (0, .ref l0), (1, .int l1), (4, .int l4)]) (pc := 32) dX2_lookedAt_32 (by decide) rfl ?_
      refine y_iinc (c := 1) (pc := 33) dX2_lookedAt_33 rfl (by decide) (by decide) (fun v8 ev8 => ?_)
      have hwp := hwp v8 ev8
      refine x_lvE (lv2 := [(4, .int v8), (2, .long v7), (0, .ref l0), (1, .int l1)]) rfl ?_
      refine x_goto (tgt := 5) (pc := 36) dX2_lookedAt_36 (by decide) ?_
      refine x_sub [2, 3, 1, 0] rfl ?_
      exact hbk5 _ hwp ⟨hx5, hn5, hz5⟩
theorem lp_X2_lookedAt_5 (G : GT) (d : Nat) (h0 hb : PH) (l0 : Nat) (l1 : Int32) (Q : Int64 → PH → Prop)  (hex : qEx h0 hb) (hnn : qn hb = qn h0 + 0) (hzz : qz hb = qz h0 + 0) (okl0 : qOK hb 2 l0) {s : Int64 × Int32 × PH} (hwp : qLoop (wp_X2_lookedAt_5 l0 l1 Q) s) : E_X2_lookedAt_5 G d h0 hb l0 l1 Q s :=
  qLoop.use (E := E_X2_lookedAt_5 G d h0 hb l0 l1 Q) (fun back s hbk hw hx => bd_X2_lookedAt_5 G d h0 hb l0 l1 Q hex hnn hzz okl0 back hbk s.1 s.2.1 s.2.2 hw hx.1 hx.2.1 hx.2.2) hwp
def wp_X2_lookedAt (l0 : Nat) (l1 : Int32) (h : PH) (Q : Int64 → PH → Prop) : Prop := (qLoop (wp_X2_lookedAt_5 l0 l1 Q) (0, 0, h))
set_option maxHeartbeats 4000000 in
set_option maxRecDepth 100000 in
theorem sn_X2_lookedAt (G : GT) (d : Nat) (l0 : Nat) (l1 : Int32) (h : PH) (Q : Int64 → PH → Prop) (okl0 : qOK h 2 l0) (hwp : wp_X2_lookedAt l0 l1 h Q) : Mt G (0 + d) 0 0 mX2_lookedAt [.ref l0, .int l1] h (qqj Q) := by
  unfold wp_X2_lookedAt at hwp
  refine Mt.of (by decide) rfl (Nat.le_of_ble_eq_true rfl) ?_
  have hex := qEx.rf h
  have hnn : qn h = qn h + 0 := rfl
  have hzz : qz h = qz h + 0 := rfl
  refine x_lvE (lv2 := [(0, .ref l0), (1, .int l1)]) rfl ?_
  refine x_lconst (v := 0) (pc := 0) dX2_lookedAt_0 (by decide) ?_
  refine x_lstore_n (lv2 := [(2, .long 0), (0, .ref l0), (1, .int l1)]) (pc := 1) dX2_lookedAt_1 (by decide) rfl ?_
  refine x_iconst (v := 0) (pc := 2) dX2_lookedAt_2 (by decide) ?_
  refine x_istore (lv2 := [(4, .int 0), (2, .long 0), (0, .ref l0), (1, .int l1)]) (pc := 3) dX2_lookedAt_3 (by decide) rfl ?_
  refine x_sub [2, 3, 1, 0] rfl ?_
  exact lp_X2_lookedAt_5 G d h h l0 l1 Q hex hnn hzz okl0 hwp ⟨qEx.rf _, rfl, rfl⟩

theorem dX2_fewestLooks_0 : decode cX2_fewestLooks 0 = .ok (.iconst (-1), 1) := by decide +kernel
theorem dX2_fewestLooks_1 : decode cX2_fewestLooks 1 = .ok (.istore_n 1, 1) := by decide +kernel
theorem dX2_fewestLooks_2 : decode cX2_fewestLooks 2 = .ok (.iconst 0, 1) := by decide +kernel
theorem dX2_fewestLooks_3 : decode cX2_fewestLooks 3 = .ok (.istore_n 2, 1) := by decide +kernel
theorem dX2_fewestLooks_4 : decode cX2_fewestLooks 4 = .ok (.iload_n 2, 1) := by decide +kernel
theorem dX2_fewestLooks_5 : decode cX2_fewestLooks 5 = .ok (.iconst 1, 1) := by decide +kernel
theorem dX2_fewestLooks_6 : decode cX2_fewestLooks 6 = .ok (.aload_n 0, 1) := by decide +kernel
theorem dX2_fewestLooks_7 : decode cX2_fewestLooks 7 = .ok (.getfield 40, 3) := by decide +kernel
theorem dX2_fewestLooks_10 : decode cX2_fewestLooks 10 = .ok (.ishl, 1) := by decide +kernel
theorem dX2_fewestLooks_11 : decode cX2_fewestLooks 11 = .ok (.if_icmp .ge 56, 3) := by decide +kernel
theorem dX2_fewestLooks_14 : decode cX2_fewestLooks 14 = .ok (.iload_n 1, 1) := by decide +kernel
theorem dX2_fewestLooks_15 : decode cX2_fewestLooks 15 = .ok (.iconst (-1), 1) := by decide +kernel
theorem dX2_fewestLooks_16 : decode cX2_fewestLooks 16 = .ok (.if_icmp .eq 14, 3) := by decide +kernel
theorem dX2_fewestLooks_19 : decode cX2_fewestLooks 19 = .ok (.iload_n 2, 1) := by decide +kernel
theorem dX2_fewestLooks_20 : decode cX2_fewestLooks 20 = .ok (.invokestatic 82, 3) := by decide +kernel
theorem dX2_fewestLooks_23 : decode cX2_fewestLooks 23 = .ok (.iload_n 1, 1) := by decide +kernel
theorem dX2_fewestLooks_24 : decode cX2_fewestLooks 24 = .ok (.invokestatic 82, 3) := by decide +kernel
theorem dX2_fewestLooks_27 : decode cX2_fewestLooks 27 = .ok (.if_icmp .ge 7, 3) := by decide +kernel
theorem dX2_fewestLooks_30 : decode cX2_fewestLooks 30 = .ok (.iconst 1, 1) := by decide +kernel
theorem dX2_fewestLooks_31 : decode cX2_fewestLooks 31 = .ok (.goto 4, 3) := by decide +kernel
theorem dX2_fewestLooks_34 : decode cX2_fewestLooks 34 = .ok (.iconst 0, 1) := by decide +kernel
theorem dX2_fewestLooks_35 : decode cX2_fewestLooks 35 = .ok (.istore_n 3, 1) := by decide +kernel
theorem dX2_fewestLooks_36 : decode cX2_fewestLooks 36 = .ok (.iload_n 3, 1) := by decide +kernel
theorem dX2_fewestLooks_37 : decode cX2_fewestLooks 37 = .ok (.ifCond .eq 24, 3) := by decide +kernel
theorem dX2_fewestLooks_40 : decode cX2_fewestLooks 40 = .ok (.aload_n 0, 1) := by decide +kernel
theorem dX2_fewestLooks_41 : decode cX2_fewestLooks 41 = .ok (.getfield 32, 3) := by decide +kernel
theorem dX2_fewestLooks_44 : decode cX2_fewestLooks 44 = .ok (.aload_n 0, 1) := by decide +kernel
theorem dX2_fewestLooks_45 : decode cX2_fewestLooks 45 = .ok (.iload_n 2, 1) := by decide +kernel
theorem dX2_fewestLooks_46 : decode cX2_fewestLooks 46 = .ok (.invokevirtual 87, 3) := by decide +kernel
theorem dX2_fewestLooks_49 : decode cX2_fewestLooks 49 = .ok (.ldc2_w 91, 3) := by decide +kernel
theorem dX2_fewestLooks_52 : decode cX2_fewestLooks 52 = .ok (.lxor, 1) := by decide +kernel
theorem dX2_fewestLooks_53 : decode cX2_fewestLooks 53 = .ok (.land, 1) := by decide +kernel
theorem dX2_fewestLooks_54 : decode cX2_fewestLooks 54 = .ok (.lconst 0, 1) := by decide +kernel
theorem dX2_fewestLooks_55 : decode cX2_fewestLooks 55 = .ok (.lcmp, 1) := by decide +kernel
theorem dX2_fewestLooks_56 : decode cX2_fewestLooks 56 = .ok (.ifCond .ne 5, 3) := by decide +kernel
theorem dX2_fewestLooks_59 : decode cX2_fewestLooks 59 = .ok (.iload_n 2, 1) := by decide +kernel
theorem dX2_fewestLooks_60 : decode cX2_fewestLooks 60 = .ok (.istore_n 1, 1) := by decide +kernel
theorem dX2_fewestLooks_61 : decode cX2_fewestLooks 61 = .ok (.iinc 2 1, 3) := by decide +kernel
theorem dX2_fewestLooks_64 : decode cX2_fewestLooks 64 = .ok (.goto (-60), 3) := by decide +kernel
theorem dX2_fewestLooks_67 : decode cX2_fewestLooks 67 = .ok (.iload_n 1, 1) := by decide +kernel
theorem dX2_fewestLooks_68 : decode cX2_fewestLooks 68 = .ok (.iconst (-1), 1) := by decide +kernel
theorem dX2_fewestLooks_69 : decode cX2_fewestLooks 69 = .ok (.if_icmp .ne 5, 3) := by decide +kernel
theorem dX2_fewestLooks_72 : decode cX2_fewestLooks 72 = .ok (.iconst (-1), 1) := by decide +kernel
theorem dX2_fewestLooks_73 : decode cX2_fewestLooks 73 = .ok (.ireturn, 1) := by decide +kernel
theorem dX2_fewestLooks_74 : decode cX2_fewestLooks 74 = .ok (.aload_n 0, 1) := by decide +kernel
theorem dX2_fewestLooks_75 : decode cX2_fewestLooks 75 = .ok (.iload_n 1, 1) := by decide +kernel
theorem dX2_fewestLooks_76 : decode cX2_fewestLooks 76 = .ok (.putfield 43, 3) := by decide +kernel
theorem dX2_fewestLooks_79 : decode cX2_fewestLooks 79 = .ok (.iload_n 1, 1) := by decide +kernel
theorem dX2_fewestLooks_80 : decode cX2_fewestLooks 80 = .ok (.invokestatic 82, 3) := by decide +kernel
theorem dX2_fewestLooks_83 : decode cX2_fewestLooks 83 = .ok (.ireturn, 1) := by decide +kernel
def E_X2_fewestLooks_4 (G : GT) (d : Nat) (h0 hb : PH) (l0 : Nat) (Q : Int32 → PH → Prop) (s : Int32 × Int32 × PH) : Prop := qEx hb s.2.2 ∧ qn s.2.2 = qn hb ∧ qz s.2.2 = qz hb → Ex G (qrm (1 + d) 0 0) mX2_fewestLooks (qn h0) (qz h0) (ZN G h0 0 0 (qqi Q)) 4 [(0, .ref l0), (1, .int s.1), (2, .int s.2.1)] [] s.2.2
def wp_X2_fewestLooks_35 (l0 : Nat) (l1 : Int32) (l2 : Int32) (s0 : Int32) (bk4 : Int32 × Int32 × PH → Prop) (h : PH) (Q : Int32 → PH → Prop) : Prop := ((s0 = 0 → ∀ v13 : Int32, v13 = l2 + 1 → bk4 (l1, v13, h)) ∧ (¬ (s0 = 0) → (wp_X2_lookedAt l0 l2 h (fun r15 h14 => ((¬ (lg_cmp ((qJ h l0 6) &&& (r15 ^^^ (-1))) 0) = 0 → ∀ v17 : Int32, v17 = l2 + 1 → bk4 (l1, v17, h14)) ∧ ((lg_cmp ((qJ h l0 6) &&& (r15 ^^^ (-1))) 0) = 0 → ∀ v18 : Int32, v18 = l2 + 1 → bk4 (l2, v18, h14)))))))
set_option maxHeartbeats 4000000 in
set_option maxRecDepth 100000 in
theorem sg_X2_fewestLooks_35 (G : GT) (d : Nat) (h0 : PH) (l0 : Nat) (l1 : Int32) (l2 : Int32) (s0 : Int32) (h : PH) (Q : Int32 → PH → Prop) (hb4 : PH) (bk4 : Int32 × Int32 × PH → Prop) (hbk4 : ∀ s2, bk4 s2 → E_X2_fewestLooks_4 G d h0 hb4 l0 Q s2) (hx4 : qEx hb4 h) (hn4 : qn h = qn hb4) (hz4 : qz h = qz hb4) (hex : qEx h0 h) (hnn : qn h = qn h0 + 0) (hzz : qz h = qz h0 + 0) (okl0 : qOK h 2 l0) (hwp : wp_X2_fewestLooks_35 l0 l1 l2 s0 bk4 h Q) : Ex G (qrm (1 + d) 0 0) mX2_fewestLooks (qn h0) (qz h0) (ZN G h0 0 0 (qqi Q)) 35 [(0, .ref l0), (1, .int l1), (2, .int l2)] [.int s0] h := by
  unfold wp_X2_fewestLooks_35 at hwp
  refine x_istore_n (lv2 := [(3, .int s0), (0, .ref l0), (1, .int l1), (2, .int l2)]) (pc := 35) dX2_fewestLooks_35 (by decide) rfl ?_
  refine x_iload_n (pc := 36) dX2_fewestLooks_36 rfl ?_
  refine x_if_eq (tgt := 61) (pc := 37) dX2_fewestLooks_37 (by decide) (fun c12 => ?_) (fun c12 => ?_)
  · have hwp := hwp.1 c12
    refine y_iinc (c := 1) (pc := 61) dX2_fewestLooks_61 rfl (by decide) (by decide) (fun v13 ev13 => ?_)
    have hwp := hwp v13 ev13
    refine x_lvE (lv2 := [(2, .int v13), (3, .int s0), (0, .ref l0), (1, .int l1)]) rfl ?_
    refine x_goto (tgt := 4) (pc := 64) dX2_fewestLooks_64 (by decide) ?_
    refine x_sub [2, 3, 0] rfl ?_
    exact hbk4 _ hwp ⟨hx4, hn4, hz4⟩
  · have hwp := hwp.2 c12
    refine x_aload_n (pc := 40) dX2_fewestLooks_40 rfl ?_
    refine x_getJ (pc := 41) dX2_fewestLooks_41 qRX2_32 okl0 ?_
    refine x_aload_n (pc := 44) dX2_fewestLooks_44 rfl ?_
    refine x_iload_n (pc := 45) dX2_fewestLooks_45 rfl ?_
    refine x_invV (As := [.int l2]) (st := [.long (qJ h l0 6)]) (pc := 46) dX2_fewestLooks_46 lRX2_87 fX2_lookedAt vX2_lookedAt okl0 rfl (Nat.le_of_ble_eq_true rfl) (q_R (by omega) (by decide)) (q_C hnn hzz (by decide) (by decide)) (sn_X2_lookedAt G (d + 0) l0 l2 h _ okl0 hwp) (k_j (fun r15 h14 hwp cxh14 => ?_))
    have hex := hex.tr cxh14.1
    have hnn : qn h14 = qn h0 + 0 := by have := cxh14.2.1; omega
    have hzz : qz h14 = qz h0 + 0 := by have := cxh14.2.2; omega
    have hx4 := hx4.tr cxh14.1
    have hn4 : qn h14 = qn hb4 := by have := cxh14.2.1; omega
    have hz4 : qz h14 = qz hb4 := by have := cxh14.2.2; omega
    have okl0 := okl0.ex cxh14.1
    refine x_ldc2 (v := (-1)) (pc := 49) dX2_fewestLooks_49 kRX2_91 ?_
    refine x_lxor (pc := 52) dX2_fewestLooks_52 ?_
    refine x_land (pc := 53) dX2_fewestLooks_53 ?_
    refine x_lconst (v := 0) (pc := 54) dX2_fewestLooks_54 (by decide) ?_
    refine x_lcmp (pc := 55) dX2_fewestLooks_55 ?_
    refine x_if_ne (tgt := 61) (pc := 56) dX2_fewestLooks_56 (by decide) (fun c16 => ?_) (fun c16 => ?_)
    · have hwp := hwp.1 c16
      refine y_iinc (c := 1) (pc := 61) dX2_fewestLooks_61 rfl (by decide) (by decide) (fun v17 ev17 => ?_)
      have hwp := hwp v17 ev17
      refine x_lvE (lv2 := [(2, .int v17), (3, .int s0), (0, .ref l0), (1, .int l1)]) rfl ?_
      refine x_goto (tgt := 4) (pc := 64) dX2_fewestLooks_64 (by decide) ?_
      refine x_sub [2, 3, 0] rfl ?_
      exact hbk4 _ hwp ⟨hx4, hn4, hz4⟩
    · have hwp := hwp.2 c16
      refine x_iload_n (pc := 59) dX2_fewestLooks_59 rfl ?_
      refine x_istore_n (lv2 := [(1, .int l2), (3, .int s0), (0, .ref l0), (2, .int l2)]) (pc := 60) dX2_fewestLooks_60 (by decide) rfl ?_
      refine y_iinc (c := 1) (pc := 61) dX2_fewestLooks_61 rfl (by decide) (by decide) (fun v18 ev18 => ?_)
      have hwp := hwp v18 ev18
      refine x_lvE (lv2 := [(2, .int v18), (1, .int l2), (3, .int s0), (0, .ref l0)]) rfl ?_
      refine x_goto (tgt := 4) (pc := 64) dX2_fewestLooks_64 (by decide) ?_
      refine x_sub [3, 1, 0] rfl ?_
      exact hbk4 _ hwp ⟨hx4, hn4, hz4⟩
def wb_X2_fewestLooks_4 (l0 : Nat)  (Q : Int32 → PH → Prop) (bk4 : Int32 × Int32 × PH → Prop) (l1 : Int32) (l2 : Int32) (h : PH) : Prop := (((1 <<< ((qI h l0 8) &&& 31)) ≤ l2 → ((¬ l1 = (-1) → (∀ h3, h3 = qsI h l0 9 l1 → (wp_J6_bitCount_0f7a4 l1 h3 (fun r5 h4 => Q r5 h4)))) ∧ (l1 = (-1) → Q (-1) h))) ∧ (¬ ((1 <<< ((qI h l0 8) &&& 31)) ≤ l2) → ((l1 = (-1) → (wp_X2_fewestLooks_35 l0 l1 l2 1 bk4 h Q)) ∧ (¬ (l1 = (-1)) → (wp_J6_bitCount_0f7a4 l2 h (fun r8 h7 => (wp_J6_bitCount_0f7a4 l1 h7 (fun r10 h9 => ((r10 ≤ r8 → (wp_X2_fewestLooks_35 l0 l1 l2 0 bk4 h9 Q)) ∧ (¬ (r10 ≤ r8) → (wp_X2_fewestLooks_35 l0 l1 l2 1 bk4 h9 Q)))))))))))
def wp_X2_fewestLooks_4 (l0 : Nat)  (Q : Int32 → PH → Prop) (bk4 : Int32 × Int32 × PH → Prop) (s : Int32 × Int32 × PH) : Prop := wb_X2_fewestLooks_4 l0 Q bk4 s.1 s.2.1 s.2.2
set_option maxHeartbeats 4000000 in
set_option maxRecDepth 100000 in
theorem bd_X2_fewestLooks_4 (G : GT) (d : Nat) (h0 hb : PH) (l0 : Nat) (Q : Int32 → PH → Prop)  (hex : qEx h0 hb) (hnn : qn hb = qn h0 + 0) (hzz : qz hb = qz h0 + 0) (okl0 : qOK hb 2 l0) (bk4 : Int32 × Int32 × PH → Prop) (hbk4 : ∀ s2, bk4 s2 → E_X2_fewestLooks_4 G d h0 hb l0 Q s2) (l1 : Int32) (l2 : Int32) (h : PH) (hwp : wb_X2_fewestLooks_4 l0 Q bk4 l1 l2 h) (hx4 : qEx hb h) (hn4 : qn h = qn hb) (hz4 : qz h = qz hb) : Ex G (qrm (1 + d) 0 0) mX2_fewestLooks (qn h0) (qz h0) (ZN G h0 0 0 (qqi Q)) 4 [(0, .ref l0), (1, .int l1), (2, .int l2)] [] h := by
  unfold wb_X2_fewestLooks_4 at hwp
  have hex := hex.tr hx4
  have hnn := hn4.trans hnn
  have hzz := hz4.trans hzz
  have okl0 := okl0.ex hx4
  refine x_iload_n (pc := 4) dX2_fewestLooks_4 rfl ?_
  refine x_iconst (v := 1) (pc := 5) dX2_fewestLooks_5 (by decide) ?_
  refine x_aload_n (pc := 6) dX2_fewestLooks_6 rfl ?_
  refine x_getI (pc := 7) dX2_fewestLooks_7 qRX2_40 okl0 (by decide) ?_
  refine x_ishl (pc := 10) dX2_fewestLooks_10 ?_
  refine x_icmp_ge (tgt := 67) (pc := 11) dX2_fewestLooks_11 (by decide) (fun c1 => ?_) (fun c1 => ?_)
  · have hwp := hwp.1 c1
    refine x_iload_n (pc := 67) dX2_fewestLooks_67 rfl ?_
    refine x_iconst (v := (-1)) (pc := 68) dX2_fewestLooks_68 (by decide) ?_
    refine x_icmp_ne (tgt := 74) (pc := 69) dX2_fewestLooks_69 (by decide) (fun c2 => ?_) (fun c2 => ?_)
    · have hwp := hwp.1 c2
      refine x_aload_n (pc := 74) dX2_fewestLooks_74 rfl ?_
      refine x_iload_n (pc := 75) dX2_fewestLooks_75 rfl ?_
      refine y_putI (pc := 76) dX2_fewestLooks_76 qRX2_43 okl0 (fun h3 eh3 nxh3 => ?_)
      have hwp := hwp h3 eh3
      have hex := hex.tr nxh3.1
      have hnn := nxh3.2.1.trans hnn
      have hzz := nxh3.2.2.trans hzz
      have hx4 := hx4.tr nxh3.1
      have hn4 := nxh3.2.1.trans hn4
      have hz4 := nxh3.2.2.trans hz4
      have okl0 := okl0.ex nxh3.1
      refine x_iload_n (pc := 79) dX2_fewestLooks_79 rfl ?_
      refine x_invS (As := [.int l1]) (st := []) (pc := 80) dX2_fewestLooks_80 lRX2_82 fJ6_bitCount_0f7a4 sJ6_bitCount_0f7a4 rfl (Nat.le_of_ble_eq_true rfl) (q_R (by omega) (by decide)) (q_C hnn hzz (by decide) (by decide)) (sn_J6_bitCount_0f7a4 G (d + 0) l1 h3 _  hwp) (k_i (fun r5 h4 hwp cxh4 => ?_))
      have hex := hex.tr cxh4.1
      have hnn : qn h4 = qn h0 + 0 := by have := cxh4.2.1; omega
      have hzz : qz h4 = qz h0 + 0 := by have := cxh4.2.2; omega
      have hx4 := hx4.tr cxh4.1
      have hn4 : qn h4 = qn hb := by have := cxh4.2.1; omega
      have hz4 : qz h4 = qz hb := by have := cxh4.2.2; omega
      have okl0 := okl0.ex cxh4.1
      exact x_iret (pc := 83) dX2_fewestLooks_83 rfl hex hnn hzz ⟨_, rfl, hwp⟩
    · have hwp := hwp.2 c2
      refine x_iconst (v := (-1)) (pc := 72) dX2_fewestLooks_72 (by decide) ?_
      exact x_iret (pc := 73) dX2_fewestLooks_73 rfl hex hnn hzz ⟨_, rfl, hwp⟩
  · have hwp := hwp.2 c1
    refine x_iload_n (pc := 14) dX2_fewestLooks_14 rfl ?_
    refine x_iconst (v := (-1)) (pc := 15) dX2_fewestLooks_15 (by decide) ?_
    refine x_icmp_eq (tgt := 30) (pc := 16) dX2_fewestLooks_16 (by decide) (fun c6 => ?_) (fun c6 => ?_)
    · have hwp := hwp.1 c6
      refine x_iconst (v := 1) (pc := 30) dX2_fewestLooks_30 (by decide) ?_
      refine x_goto (tgt := 35) (pc := 31) dX2_fewestLooks_31 (by decide) ?_
      refine x_sub [0, 1, 2] rfl ?_
      exact sg_X2_fewestLooks_35 G d h0 l0 l1 l2 1 h Q hb bk4 hbk4 hx4 hn4 hz4 hex hnn hzz okl0 hwp
    · have hwp := hwp.2 c6
      refine x_iload_n (pc := 19) dX2_fewestLooks_19 rfl ?_
      refine x_invS (As := [.int l2]) (st := []) (pc := 20) dX2_fewestLooks_20 lRX2_82 fJ6_bitCount_0f7a4 sJ6_bitCount_0f7a4 rfl (Nat.le_of_ble_eq_true rfl) (q_R (by omega) (by decide)) (q_C hnn hzz (by decide) (by decide)) (sn_J6_bitCount_0f7a4 G (d + 0) l2 h _  hwp) (k_i (fun r8 h7 hwp cxh7 => ?_))
      have hex := hex.tr cxh7.1
      have hnn : qn h7 = qn h0 + 0 := by have := cxh7.2.1; omega
      have hzz : qz h7 = qz h0 + 0 := by have := cxh7.2.2; omega
      have hx4 := hx4.tr cxh7.1
      have hn4 : qn h7 = qn hb := by have := cxh7.2.1; omega
      have hz4 : qz h7 = qz hb := by have := cxh7.2.2; omega
      have okl0 := okl0.ex cxh7.1
      refine x_iload_n (pc := 23) dX2_fewestLooks_23 rfl ?_
      refine x_invS (As := [.int l1]) (st := [.int r8]) (pc := 24) dX2_fewestLooks_24 lRX2_82 fJ6_bitCount_0f7a4 sJ6_bitCount_0f7a4 rfl (Nat.le_of_ble_eq_true rfl) (q_R (by omega) (by decide)) (q_C hnn hzz (by decide) (by decide)) (sn_J6_bitCount_0f7a4 G (d + 0) l1 h7 _  hwp) (k_i (fun r10 h9 hwp cxh9 => ?_))
      have hex := hex.tr cxh9.1
      have hnn : qn h9 = qn h0 + 0 := by have := cxh9.2.1; omega
      have hzz : qz h9 = qz h0 + 0 := by have := cxh9.2.2; omega
      have hx4 := hx4.tr cxh9.1
      have hn4 : qn h9 = qn hb := by have := cxh9.2.1; omega
      have hz4 : qz h9 = qz hb := by have := cxh9.2.2; omega
      have okl0 := okl0.ex cxh9.1
      refine x_icmp_ge (tgt := 34) (pc := 27) dX2_fewestLooks_27 (by decide) (fun c11 => ?_) (fun c11 => ?_)
      · have hwp := hwp.1 c11
        refine x_iconst (v := 0) (pc := 34) dX2_fewestLooks_34 (by decide) ?_
        refine x_sub [0, 1, 2] rfl ?_
        exact sg_X2_fewestLooks_35 G d h0 l0 l1 l2 0 h9 Q hb bk4 hbk4 hx4 hn4 hz4 hex hnn hzz okl0 hwp
      · have hwp := hwp.2 c11
        refine x_iconst (v := 1) (pc := 30) dX2_fewestLooks_30 (by decide) ?_
        refine x_goto (tgt := 35) (pc := 31) dX2_fewestLooks_31 (by decide) ?_
        refine x_sub [0, 1, 2] rfl ?_
        exact sg_X2_fewestLooks_35 G d h0 l0 l1 l2 1 h9 Q hb bk4 hbk4 hx4 hn4 hz4 hex hnn hzz okl0 hwp
theorem lp_X2_fewestLooks_4 (G : GT) (d : Nat) (h0 hb : PH) (l0 : Nat) (Q : Int32 → PH → Prop)  (hex : qEx h0 hb) (hnn : qn hb = qn h0 + 0) (hzz : qz hb = qz h0 + 0) (okl0 : qOK hb 2 l0) {s : Int32 × Int32 × PH} (hwp : qLoop (wp_X2_fewestLooks_4 l0 Q) s) : E_X2_fewestLooks_4 G d h0 hb l0 Q s :=
  qLoop.use (E := E_X2_fewestLooks_4 G d h0 hb l0 Q) (fun back s hbk hw hx => bd_X2_fewestLooks_4 G d h0 hb l0 Q hex hnn hzz okl0 back hbk s.1 s.2.1 s.2.2 hw hx.1 hx.2.1 hx.2.2) hwp
def wp_X2_fewestLooks (l0 : Nat) (h : PH) (Q : Int32 → PH → Prop) : Prop := (qLoop (wp_X2_fewestLooks_4 l0 Q) ((-1), 0, h))
set_option maxHeartbeats 4000000 in
set_option maxRecDepth 100000 in
theorem sn_X2_fewestLooks (G : GT) (d : Nat) (l0 : Nat) (h : PH) (Q : Int32 → PH → Prop) (okl0 : qOK h 2 l0) (hwp : wp_X2_fewestLooks l0 h Q) : Mt G (1 + d) 0 0 mX2_fewestLooks [.ref l0] h (qqi Q) := by
  unfold wp_X2_fewestLooks at hwp
  refine Mt.of (by decide) rfl (Nat.le_of_ble_eq_true rfl) ?_
  have hex := qEx.rf h
  have hnn : qn h = qn h + 0 := rfl
  have hzz : qz h = qz h + 0 := rfl
  refine x_lvE (lv2 := [(0, .ref l0)]) rfl ?_
  refine x_iconst (v := (-1)) (pc := 0) dX2_fewestLooks_0 (by decide) ?_
  refine x_istore_n (lv2 := [(1, .int (-1)), (0, .ref l0)]) (pc := 1) dX2_fewestLooks_1 (by decide) rfl ?_
  refine x_iconst (v := 0) (pc := 2) dX2_fewestLooks_2 (by decide) ?_
  refine x_istore_n (lv2 := [(2, .int 0), (1, .int (-1)), (0, .ref l0)]) (pc := 3) dX2_fewestLooks_3 (by decide) rfl ?_
  refine x_sub [2, 1, 0] rfl ?_
  exact lp_X2_fewestLooks_4 G d h h l0 Q hex hnn hzz okl0 hwp ⟨qEx.rf _, rfl, rfl⟩

theorem dX3_init_0 : decode cX3_init 0 = .ok (.aload_n 0, 1) := by decide +kernel
theorem dX3_init_1 : decode cX3_init 1 = .ok (.invokespecial 3, 3) := by decide +kernel
theorem dX3_init_4 : decode cX3_init 4 = .ok (.aload_n 0, 1) := by decide +kernel
theorem dX3_init_5 : decode cX3_init 5 = .ok (.bipush 70, 2) := by decide +kernel
theorem dX3_init_7 : decode cX3_init 7 = .ok (.newarray .int, 2) := by decide +kernel
theorem dX3_init_9 : decode cX3_init 9 = .ok (.putfield 11, 3) := by decide +kernel
theorem dX3_init_12 : decode cX3_init 12 = .ok (.aload_n 0, 1) := by decide +kernel
theorem dX3_init_13 : decode cX3_init 13 = .ok (.bipush 10, 2) := by decide +kernel
theorem dX3_init_15 : decode cX3_init 15 = .ok (.newarray .int, 2) := by decide +kernel
theorem dX3_init_17 : decode cX3_init 17 = .ok (.putfield 15, 3) := by decide +kernel
theorem dX3_init_20 : decode cX3_init 20 = .ok (.aload_n 0, 1) := by decide +kernel
theorem dX3_init_21 : decode cX3_init 21 = .ok (.iconst 0, 1) := by decide +kernel
theorem dX3_init_22 : decode cX3_init 22 = .ok (.putfield 18, 3) := by decide +kernel
theorem dX3_init_25 : decode cX3_init 25 = .ok (.iconst 0, 1) := by decide +kernel
theorem dX3_init_26 : decode cX3_init 26 = .ok (.istore_n 1, 1) := by decide +kernel
theorem dX3_init_27 : decode cX3_init 27 = .ok (.iload_n 1, 1) := by decide +kernel
theorem dX3_init_28 : decode cX3_init 28 = .ok (.aload_n 0, 1) := by decide +kernel
theorem dX3_init_29 : decode cX3_init 29 = .ok (.getfield 11, 3) := by decide +kernel
theorem dX3_init_32 : decode cX3_init 32 = .ok (.arraylength, 1) := by decide +kernel
theorem dX3_init_33 : decode cX3_init 33 = .ok (.if_icmp .ge 16, 3) := by decide +kernel
theorem dX3_init_36 : decode cX3_init 36 = .ok (.aload_n 0, 1) := by decide +kernel
theorem dX3_init_37 : decode cX3_init 37 = .ok (.getfield 11, 3) := by decide +kernel
theorem dX3_init_40 : decode cX3_init 40 = .ok (.iload_n 1, 1) := by decide +kernel
theorem dX3_init_41 : decode cX3_init 41 = .ok (.iconst (-1), 1) := by decide +kernel
theorem dX3_init_42 : decode cX3_init 42 = .ok (.iastore, 1) := by decide +kernel
theorem dX3_init_43 : decode cX3_init 43 = .ok (.iinc 1 1, 3) := by decide +kernel
theorem dX3_init_46 : decode cX3_init 46 = .ok (.goto (-19), 3) := by decide +kernel
theorem dX3_init_49 : decode cX3_init 49 = .ok (.return_, 1) := by decide +kernel
def E_X3_init_27 (G : GT) (d : Nat) (h0 hb : PH) (l0 : Nat) (Q : PH → Prop) (s : Int32 × PH) : Prop := qEx hb s.2 ∧ qn s.2 = qn hb ∧ qz s.2 = qz hb → Ex G (qrm (1 + d) 2 80) mX3_init (qn h0) (qz h0) (ZN G h0 2 80 (qqv Q)) 27 [(0, .ref l0), (1, .int s.1)] [] s.2
def wb_X3_init_27 (l0 : Nat)  (Q : PH → Prop) (bk27 : Int32 × PH → Prop) (l1 : Int32) (h : PH) : Prop := (∃ b8, qR h l0 0 = some b8 ∧ (((nI (qL h b8)) ≤ l1 → Q h) ∧ (¬ ((nI (qL h b8)) ≤ l1) → (∃ b11, qR h l0 0 = some b11 ∧ (vp_in l1 (qL h b11) ∧ ∀ h13, h13 = qsI h b11 l1.toNatClampNeg (-1) → ∀ v15 : Int32, v15 = l1 + 1 → bk27 (v15, h13))))))
def wp_X3_init_27 (l0 : Nat)  (Q : PH → Prop) (bk27 : Int32 × PH → Prop) (s : Int32 × PH) : Prop := wb_X3_init_27 l0 Q bk27 s.1 s.2
set_option maxHeartbeats 4000000 in
set_option maxRecDepth 100000 in
theorem bd_X3_init_27 (G : GT) (d : Nat) (h0 hb : PH) (l0 : Nat) (Q : PH → Prop)  (hex : qEx h0 hb) (hnn : qn hb = qn h0 + 2) (hzz : qz hb = qz h0 + 80) (okl0 : qOK hb 3 l0) (bk27 : Int32 × PH → Prop) (hbk27 : ∀ s2, bk27 s2 → E_X3_init_27 G d h0 hb l0 Q s2) (l1 : Int32) (h : PH) (hwp : wb_X3_init_27 l0 Q bk27 l1 h) (hx27 : qEx hb h) (hn27 : qn h = qn hb) (hz27 : qz h = qz hb) : Ex G (qrm (1 + d) 2 80) mX3_init (qn h0) (qz h0) (ZN G h0 2 80 (qqv Q)) 27 [(0, .ref l0), (1, .int l1)] [] h := by
  unfold wb_X3_init_27 at hwp
  have hex := hex.tr hx27
  have hnn := hn27.trans hnn
  have hzz := hz27.trans hzz
  have okl0 := okl0.ex hx27
  refine x_iload_n (pc := 27) dX3_init_27 rfl ?_
  refine x_aload_n (pc := 28) dX3_init_28 rfl ?_
  obtain ⟨b8, e9, hwp⟩ := hwp
  refine x_getR (pc := 29) dX3_init_29 qRX3_11 okl0 e9 (fun okb8 => ?_)
  refine x_alen (pc := 32) dX3_init_32 okb8 (by decide) ?_
  refine x_icmp_ge (tgt := 49) (pc := 33) dX3_init_33 (by decide) (fun c10 => ?_) (fun c10 => ?_)
  · have hwp := hwp.1 c10
    exact x_vret (pc := 49) dX3_init_49 rfl hex hnn hzz ⟨rfl, hwp⟩
  · have hwp := hwp.2 c10
    refine x_aload_n (pc := 36) dX3_init_36 rfl ?_
    obtain ⟨b11, e12, hwp⟩ := hwp
    refine x_getR (pc := 37) dX3_init_37 qRX3_11 okl0 e12 (fun okb11 => ?_)
    refine x_iload_n (pc := 40) dX3_init_40 rfl ?_
    refine x_iconst (v := (-1)) (pc := 41) dX3_init_41 (by decide) ?_
    obtain ⟨i14, hwp⟩ := hwp
    refine y_iastore (pc := 42) dX3_init_42 okb11 i14 (fun h13 eh13 nxh13 => ?_)
    have hwp := hwp h13 eh13
    have hex := hex.tr nxh13.1
    have hnn := nxh13.2.1.trans hnn
    have hzz := nxh13.2.2.trans hzz
    have hx27 := hx27.tr nxh13.1
    have hn27 := nxh13.2.1.trans hn27
    have hz27 := nxh13.2.2.trans hz27
    have okl0 := okl0.ex nxh13.1
    have okb8 := okb8.ex nxh13.1
    have okb11 := okb11.ex nxh13.1
    refine y_iinc (c := 1) (pc := 43) dX3_init_43 rfl (by decide) (by decide) (fun v15 ev15 => ?_)
    have hwp := hwp v15 ev15
    refine x_lvE (lv2 := [(1, .int v15), (0, .ref l0)]) rfl ?_
    refine x_goto (tgt := 27) (pc := 46) dX3_init_46 (by decide) ?_
    refine x_sub [1, 0] rfl ?_
    exact hbk27 _ hwp ⟨hx27, hn27, hz27⟩
theorem lp_X3_init_27 (G : GT) (d : Nat) (h0 hb : PH) (l0 : Nat) (Q : PH → Prop)  (hex : qEx h0 hb) (hnn : qn hb = qn h0 + 2) (hzz : qz hb = qz h0 + 80) (okl0 : qOK hb 3 l0) {s : Int32 × PH} (hwp : qLoop (wp_X3_init_27 l0 Q) s) : E_X3_init_27 G d h0 hb l0 Q s :=
  qLoop.use (E := E_X3_init_27 G d h0 hb l0 Q) (fun back s hbk hw hx => bd_X3_init_27 G d h0 hb l0 Q hex hnn hzz okl0 back hbk s.1 s.2 hw hx.1 hx.2.1 hx.2.2) hwp
def wp_X3_init (l0 : Nat) (h : PH) (Q : PH → Prop) : Prop := (qn h + 1 ≤ 1000000 ∧ ∀ h1, h1 = qnew h 14 70 70 → (∀ h3, h3 = qsR h1 l0 0 (some (qn h)) → (qn h3 + 1 ≤ 1000000 ∧ ∀ h4, h4 = qnew h3 14 10 10 → (∀ h6, h6 = qsR h4 l0 1 (some (qn h3)) → (∀ h7, h7 = qsI h6 l0 2 0 → (qLoop (wp_X3_init_27 l0 Q) (0, h7)))))))
set_option maxHeartbeats 4000000 in
set_option maxRecDepth 100000 in
theorem sn_X3_init (G : GT) (d : Nat) (l0 : Nat) (h : PH) (Q : PH → Prop) (okl0 : qOK h 3 l0) (hwp : wp_X3_init l0 h Q) : Mt G (1 + d) 2 80 mX3_init [.ref l0] h (qqv Q) := by
  unfold wp_X3_init at hwp
  refine Mt.of (by decide) rfl (Nat.le_of_ble_eq_true rfl) ?_
  have hex := qEx.rf h
  have hnn : qn h = qn h + 0 := rfl
  have hzz : qz h = qz h + 0 := rfl
  refine x_lvE (lv2 := [(0, .ref l0)]) rfl ?_
  refine x_aload_n (pc := 0) dX3_init_0 rfl ?_
  refine x_objInit (pc := 1) dX3_init_1 lRX3_3 wk_oi wk_oc (q_R1 (by omega)) (Nat.le_of_ble_eq_true rfl) ?_
  refine x_aload_n (pc := 4) dX3_init_4 rfl ?_
  refine x_bipush (v := 70) (pc := 5) dX3_init_5 (by decide) ?_
  obtain ⟨m2, hwp⟩ := hwp
  refine y_newa (t := 14) (N := 70) (t0 := 1) (ty := .int) (pc := 7) dX3_init_7 rfl (by decide) wk_ac_int (by decide) (by decide) (by decide) (q_C hnn hzz (by decide) (by decide)) m2 (fun h1 eh1 nwh1 okbh1 => ?_)
  have hwp := hwp h1 eh1
  have hex := hex.tr nwh1.1
  have hnn : qn h1 = qn h + 1 := by have := nwh1.2.1; omega
  have hzz : qz h1 = qz h + 70 := by have := nwh1.2.2; omega
  have okl0 := okl0.ex nwh1.1
  refine y_putF rfl (pc := 9) dX3_init_9 FRX3_11 okl0 okbh1 (fun h3 eh3 nxh3 => ?_)
  have hwp := hwp h3 eh3
  have hex := hex.tr nxh3.1
  have hnn := nxh3.2.1.trans hnn
  have hzz := nxh3.2.2.trans hzz
  have okl0 := okl0.ex nxh3.1
  have okbh1 := okbh1.ex nxh3.1
  refine x_aload_n (pc := 12) dX3_init_12 rfl ?_
  refine x_bipush (v := 10) (pc := 13) dX3_init_13 (by decide) ?_
  obtain ⟨m5, hwp⟩ := hwp
  refine y_newa (t := 14) (N := 10) (t0 := 1) (ty := .int) (pc := 15) dX3_init_15 rfl (by decide) wk_ac_int (by decide) (by decide) (by decide) (q_C hnn hzz (by decide) (by decide)) m5 (fun h4 eh4 nwh4 okbh4 => ?_)
  have hwp := hwp h4 eh4
  have hex := hex.tr nwh4.1
  have hnn : qn h4 = qn h + 2 := by have := nwh4.2.1; omega
  have hzz : qz h4 = qz h + 80 := by have := nwh4.2.2; omega
  have okl0 := okl0.ex nwh4.1
  have okbh1 := okbh1.ex nwh4.1
  refine y_putF rfl (pc := 17) dX3_init_17 FRX3_15 okl0 okbh4 (fun h6 eh6 nxh6 => ?_)
  have hwp := hwp h6 eh6
  have hex := hex.tr nxh6.1
  have hnn := nxh6.2.1.trans hnn
  have hzz := nxh6.2.2.trans hzz
  have okl0 := okl0.ex nxh6.1
  have okbh1 := okbh1.ex nxh6.1
  have okbh4 := okbh4.ex nxh6.1
  refine x_aload_n (pc := 20) dX3_init_20 rfl ?_
  refine x_iconst (v := 0) (pc := 21) dX3_init_21 (by decide) ?_
  refine y_putI (pc := 22) dX3_init_22 qRX3_18 okl0 (fun h7 eh7 nxh7 => ?_)
  have hwp := hwp h7 eh7
  have hex := hex.tr nxh7.1
  have hnn := nxh7.2.1.trans hnn
  have hzz := nxh7.2.2.trans hzz
  have okl0 := okl0.ex nxh7.1
  have okbh1 := okbh1.ex nxh7.1
  have okbh4 := okbh4.ex nxh7.1
  refine x_iconst (v := 0) (pc := 25) dX3_init_25 (by decide) ?_
  refine x_istore_n (lv2 := [(1, .int 0), (0, .ref l0)]) (pc := 26) dX3_init_26 (by decide) rfl ?_
  refine x_sub [1, 0] rfl ?_
  exact lp_X3_init_27 G d h h7 l0 Q hex hnn hzz okl0 hwp ⟨qEx.rf _, rfl, rfl⟩

theorem dX3_readLine_0 : decode cX3_readLine 0 = .ok (.aload_n 1, 1) := by decide +kernel
theorem dX3_readLine_1 : decode cX3_readLine 1 = .ok (.getstatic 35, 3) := by decide +kernel
theorem dX3_readLine_4 : decode cX3_readLine 4 = .ok (.invokevirtual 41, 3) := by decide +kernel
theorem dX3_readLine_7 : decode cX3_readLine 7 = .ok (.ifCond .eq 18, 3) := by decide +kernel
theorem dX3_readLine_10 : decode cX3_readLine 10 = .ok (.aload_n 0, 1) := by decide +kernel
theorem dX3_readLine_11 : decode cX3_readLine 11 = .ok (.getfield 18, 3) := by decide +kernel
theorem dX3_readLine_14 : decode cX3_readLine 14 = .ok (.bipush 20, 2) := by decide +kernel
theorem dX3_readLine_16 : decode cX3_readLine 16 = .ok (.if_icmp .lt 9, 3) := by decide +kernel
theorem dX3_readLine_19 : decode cX3_readLine 19 = .ok (.aload_n 1, 1) := by decide +kernel
theorem dX3_readLine_20 : decode cX3_readLine 20 = .ok (.iconst 4, 1) := by decide +kernel
theorem dX3_readLine_21 : decode cX3_readLine 21 = .ok (.invokevirtual 45, 3) := by decide +kernel
theorem dX3_readLine_24 : decode cX3_readLine 24 = .ok (.ireturn, 1) := by decide +kernel
theorem dX3_readLine_25 : decode cX3_readLine 25 = .ok (.aload_n 1, 1) := by decide +kernel
theorem dX3_readLine_26 : decode cX3_readLine 26 = .ok (.getstatic 35, 3) := by decide +kernel
theorem dX3_readLine_29 : decode cX3_readLine 29 = .ok (.invokevirtual 49, 3) := by decide +kernel
theorem dX3_readLine_32 : decode cX3_readLine 32 = .ok (.ifCond .ne 5, 3) := by decide +kernel
theorem dX3_readLine_35 : decode cX3_readLine 35 = .ok (.iconst 0, 1) := by decide +kernel
theorem dX3_readLine_36 : decode cX3_readLine 36 = .ok (.ireturn, 1) := by decide +kernel
theorem dX3_readLine_37 : decode cX3_readLine 37 = .ok (.aload_n 1, 1) := by decide +kernel
theorem dX3_readLine_38 : decode cX3_readLine 38 = .ok (.iconst 0, 1) := by decide +kernel
theorem dX3_readLine_39 : decode cX3_readLine 39 = .ok (.bipush 9, 2) := by decide +kernel
theorem dX3_readLine_41 : decode cX3_readLine 41 = .ok (.invokevirtual 52, 3) := by decide +kernel
theorem dX3_readLine_44 : decode cX3_readLine 44 = .ok (.istore_n 2, 1) := by decide +kernel
theorem dX3_readLine_45 : decode cX3_readLine 45 = .ok (.iload_n 2, 1) := by decide +kernel
theorem dX3_readLine_46 : decode cX3_readLine 46 = .ok (.iconst (-1), 1) := by decide +kernel
theorem dX3_readLine_47 : decode cX3_readLine 47 = .ok (.if_icmp .eq 13, 3) := by decide +kernel
theorem dX3_readLine_50 : decode cX3_readLine 50 = .ok (.aload_n 1, 1) := by decide +kernel
theorem dX3_readLine_51 : decode cX3_readLine 51 = .ok (.getstatic 56, 3) := by decide +kernel
theorem dX3_readLine_54 : decode cX3_readLine 54 = .ok (.invokevirtual 49, 3) := by decide +kernel
theorem dX3_readLine_57 : decode cX3_readLine 57 = .ok (.ifCond .ne 5, 3) := by decide +kernel
theorem dX3_readLine_60 : decode cX3_readLine 60 = .ok (.iconst 0, 1) := by decide +kernel
theorem dX3_readLine_61 : decode cX3_readLine 61 = .ok (.ireturn, 1) := by decide +kernel
theorem dX3_readLine_62 : decode cX3_readLine 62 = .ok (.aload_n 1, 1) := by decide +kernel
theorem dX3_readLine_63 : decode cX3_readLine 63 = .ok (.invokevirtual 59, 3) := by decide +kernel
theorem dX3_readLine_66 : decode cX3_readLine 66 = .ok (.astore_n 3, 1) := by decide +kernel
theorem dX3_readLine_67 : decode cX3_readLine 67 = .ok (.aload_n 3, 1) := by decide +kernel
theorem dX3_readLine_68 : decode cX3_readLine 68 = .ok (.ifnull 11, 3) := by decide +kernel
theorem dX3_readLine_71 : decode cX3_readLine 71 = .ok (.aload_n 3, 1) := by decide +kernel
theorem dX3_readLine_72 : decode cX3_readLine 72 = .ok (.getfield 63, 3) := by decide +kernel
theorem dX3_readLine_75 : decode cX3_readLine 75 = .ok (.iconst (-1), 1) := by decide +kernel
theorem dX3_readLine_76 : decode cX3_readLine 76 = .ok (.if_icmp .ne 9, 3) := by decide +kernel
theorem dX3_readLine_79 : decode cX3_readLine 79 = .ok (.aload_n 1, 1) := by decide +kernel
theorem dX3_readLine_80 : decode cX3_readLine 80 = .ok (.iconst 1, 1) := by decide +kernel
theorem dX3_readLine_81 : decode cX3_readLine 81 = .ok (.invokevirtual 45, 3) := by decide +kernel
theorem dX3_readLine_84 : decode cX3_readLine 84 = .ok (.ireturn, 1) := by decide +kernel
theorem dX3_readLine_85 : decode cX3_readLine 85 = .ok (.aload_n 1, 1) := by decide +kernel
theorem dX3_readLine_86 : decode cX3_readLine 86 = .ok (.invokevirtual 66, 3) := by decide +kernel
theorem dX3_readLine_89 : decode cX3_readLine 89 = .ok (.aload_n 1, 1) := by decide +kernel
theorem dX3_readLine_90 : decode cX3_readLine 90 = .ok (.getstatic 69, 3) := by decide +kernel
theorem dX3_readLine_93 : decode cX3_readLine 93 = .ok (.invokevirtual 49, 3) := by decide +kernel
theorem dX3_readLine_96 : decode cX3_readLine 96 = .ok (.ifCond .eq 13, 3) := by decide +kernel
theorem dX3_readLine_99 : decode cX3_readLine 99 = .ok (.aload_n 1, 1) := by decide +kernel
theorem dX3_readLine_100 : decode cX3_readLine 100 = .ok (.iconst 0, 1) := by decide +kernel
theorem dX3_readLine_101 : decode cX3_readLine 101 = .ok (.bipush 9, 2) := by decide +kernel
theorem dX3_readLine_103 : decode cX3_readLine 103 = .ok (.invokevirtual 52, 3) := by decide +kernel
theorem dX3_readLine_106 : decode cX3_readLine 106 = .ok (.goto 4, 3) := by decide +kernel
theorem dX3_readLine_109 : decode cX3_readLine 109 = .ok (.iconst (-1), 1) := by decide +kernel
theorem dX3_readLine_110 : decode cX3_readLine 110 = .ok (.istore 4, 2) := by decide +kernel
theorem dX3_readLine_112 : decode cX3_readLine 112 = .ok (.iload 4, 2) := by decide +kernel
theorem dX3_readLine_114 : decode cX3_readLine 114 = .ok (.iconst (-1), 1) := by decide +kernel
theorem dX3_readLine_115 : decode cX3_readLine 115 = .ok (.if_icmp .eq 12, 3) := by decide +kernel
theorem dX3_readLine_118 : decode cX3_readLine 118 = .ok (.aload_n 1, 1) := by decide +kernel
theorem dX3_readLine_119 : decode cX3_readLine 119 = .ok (.bipush 59, 2) := by decide +kernel
theorem dX3_readLine_121 : decode cX3_readLine 121 = .ok (.invokevirtual 72, 3) := by decide +kernel
theorem dX3_readLine_124 : decode cX3_readLine 124 = .ok (.ifCond .ne 5, 3) := by decide +kernel
theorem dX3_readLine_127 : decode cX3_readLine 127 = .ok (.iconst 0, 1) := by decide +kernel
theorem dX3_readLine_128 : decode cX3_readLine 128 = .ok (.ireturn, 1) := by decide +kernel
theorem dX3_readLine_129 : decode cX3_readLine 129 = .ok (.iload_n 2, 1) := by decide +kernel
theorem dX3_readLine_130 : decode cX3_readLine 130 = .ok (.bipush 7, 2) := by decide +kernel
theorem dX3_readLine_132 : decode cX3_readLine 132 = .ok (.imul, 1) := by decide +kernel
theorem dX3_readLine_133 : decode cX3_readLine 133 = .ok (.aload_n 3, 1) := by decide +kernel
theorem dX3_readLine_134 : decode cX3_readLine 134 = .ok (.getfield 63, 3) := by decide +kernel
theorem dX3_readLine_137 : decode cX3_readLine 137 = .ok (.iadd, 1) := by decide +kernel
theorem dX3_readLine_138 : decode cX3_readLine 138 = .ok (.istore 5, 2) := by decide +kernel
theorem dX3_readLine_140 : decode cX3_readLine 140 = .ok (.aload_n 0, 1) := by decide +kernel
theorem dX3_readLine_141 : decode cX3_readLine 141 = .ok (.getfield 11, 3) := by decide +kernel
theorem dX3_readLine_144 : decode cX3_readLine 144 = .ok (.iload 5, 2) := by decide +kernel
theorem dX3_readLine_146 : decode cX3_readLine 146 = .ok (.iaload, 1) := by decide +kernel
theorem dX3_readLine_147 : decode cX3_readLine 147 = .ok (.iconst (-1), 1) := by decide +kernel
theorem dX3_readLine_148 : decode cX3_readLine 148 = .ok (.if_icmp .ne 12, 3) := by decide +kernel
theorem dX3_readLine_151 : decode cX3_readLine 151 = .ok (.aload_n 0, 1) := by decide +kernel
theorem dX3_readLine_152 : decode cX3_readLine 152 = .ok (.getfield 11, 3) := by decide +kernel
theorem dX3_readLine_155 : decode cX3_readLine 155 = .ok (.iload 5, 2) := by decide +kernel
theorem dX3_readLine_157 : decode cX3_readLine 157 = .ok (.iload 4, 2) := by decide +kernel
theorem dX3_readLine_159 : decode cX3_readLine 159 = .ok (.iastore, 1) := by decide +kernel
theorem dX3_readLine_160 : decode cX3_readLine 160 = .ok (.aload_n 0, 1) := by decide +kernel
theorem dX3_readLine_161 : decode cX3_readLine 161 = .ok (.dup, 1) := by decide +kernel
theorem dX3_readLine_162 : decode cX3_readLine 162 = .ok (.getfield 18, 3) := by decide +kernel
theorem dX3_readLine_165 : decode cX3_readLine 165 = .ok (.iconst 1, 1) := by decide +kernel
theorem dX3_readLine_166 : decode cX3_readLine 166 = .ok (.iadd, 1) := by decide +kernel
theorem dX3_readLine_167 : decode cX3_readLine 167 = .ok (.putfield 18, 3) := by decide +kernel
theorem dX3_readLine_170 : decode cX3_readLine 170 = .ok (.iconst 1, 1) := by decide +kernel
theorem dX3_readLine_171 : decode cX3_readLine 171 = .ok (.ireturn, 1) := by decide +kernel
def wp_X3_readLine_110 (l0 : Nat) (l1 : Nat) (l2 : Int32) (l3 : Nat) (s0 : Int32)  (h : PH) (Q : Int32 → PH → Prop) : Prop := ((s0 = (-1) → Q 0 h) ∧ (¬ (s0 = (-1)) → (wp_X7_takeSign l1 59 h (fun r39 h38 => ((¬ r39 = 0 → (∃ i41, i41 < 34 ∧ l3 = wd i41 ∧ ∀ v43 : Int32, v43 = (l2 * 7) + (q_wc 3 i41) → (∃ b44, qR h38 l0 0 = some b44 ∧ (vp_in v43 (qL h38 b44) ∧ ((¬ (qI h38 b44 v43.toNatClampNeg) = (-1) → (∀ h48, h48 = qsI h38 l0 2 ((qI h38 l0 2) + 1) → Q 1 h48)) ∧ ((qI h38 b44 v43.toNatClampNeg) = (-1) → (∃ b49, qR h38 l0 0 = some b49 ∧ (vp_in v43 (qL h38 b49) ∧ ∀ h51, h51 = qsI h38 b49 v43.toNatClampNeg s0 → (∀ h53, h53 = qsI h51 l0 2 ((qI h51 l0 2) + 1) → Q 1 h53))))))))) ∧ (r39 = 0 → Q 0 h38))))))
set_option maxHeartbeats 4000000 in
set_option maxRecDepth 100000 in
theorem sg_X3_readLine_110 (G : GT) (d : Nat) (h0 : PH) (l0 : Nat) (l1 : Nat) (l2 : Int32) (l3 : Nat) (s0 : Int32) (h : PH) (Q : Int32 → PH → Prop) (hex : qEx h0 h) (hnn : qn h = qn h0 + 0) (hzz : qz h = qz h0 + 0) (okl0 : qOK h 3 l0) (okl1 : qOK h 7 l1) (hwp : wp_X3_readLine_110 l0 l1 l2 l3 s0 h Q) : Ex G (qrm (2 + d) 0 0) mX3_readLine (qn h0) (qz h0) (ZN G h0 0 0 (qqb Q)) 110 [(0, .ref l0), (1, .ref l1), (2, .int l2), (3, .ref l3)] [.int s0] h := by
  unfold wp_X3_readLine_110 at hwp
  refine x_istore (lv2 := [(4, .int s0), (0, .ref l0), (1, .ref l1), (2, .int l2), (3, .ref l3)]) (pc := 110) dX3_readLine_110 (by decide) rfl ?_
  refine x_iload (pc := 112) dX3_readLine_112 rfl ?_
  refine x_iconst (v := (-1)) (pc := 114) dX3_readLine_114 (by decide) ?_
  refine x_icmp_eq (tgt := 127) (pc := 115) dX3_readLine_115 (by decide) (fun c37 => ?_) (fun c37 => ?_)
  · have hwp := hwp.1 c37
    refine x_iconst (v := 0) (pc := 127) dX3_readLine_127 (by decide) ?_
    exact x_zret (pc := 128) dX3_readLine_128 rfl hex hnn hzz (by decide) ⟨_, rfl, by decide, hwp⟩
  · have hwp := hwp.2 c37
    refine x_aload_n (pc := 118) dX3_readLine_118 rfl ?_
    refine x_bipush (v := 59) (pc := 119) dX3_readLine_119 (by decide) ?_
    refine x_invV (As := [.int 59]) (st := []) (pc := 121) dX3_readLine_121 lRX3_72 fX7_takeSign vX7_takeSign okl1 rfl (Nat.le_of_ble_eq_true rfl) (q_R (by omega) (by decide)) (q_C hnn hzz (by decide) (by decide)) (sn_X7_takeSign G (d + 0) l1 59 h _ okl1 hwp) (k_b (fun r39 h38 hwp zbr39 cxh38 => ?_))
    have hex := hex.tr cxh38.1
    have hnn : qn h38 = qn h0 + 0 := by have := cxh38.2.1; omega
    have hzz : qz h38 = qz h0 + 0 := by have := cxh38.2.2; omega
    have okl0 := okl0.ex cxh38.1
    have okl1 := okl1.ex cxh38.1
    refine x_if_ne (tgt := 129) (pc := 124) dX3_readLine_124 (by decide) (fun c40 => ?_) (fun c40 => ?_)
    · have hwp := hwp.1 c40
      refine x_iload_n (pc := 129) dX3_readLine_129 rfl ?_
      refine x_bipush (v := 7) (pc := 130) dX3_readLine_130 (by decide) ?_
      refine x_imul (pc := 132) dX3_readLine_132 ?_
      refine x_aload_n (pc := 133) dX3_readLine_133 rfl ?_
      obtain ⟨i41, hi41, e42, hwp⟩ := hwp
      refine x_wgetE (i := i41) (q := q_wt 3) e42 (pc := 134) dX3_readLine_134 hi41 (by simp [q_wt, qwF]) wRX3_63 ?_
      refine x_iadd (pc := 137) dX3_readLine_137 ?_
      refine x_nmI (fun v43 ev43 => ?_)
      have hwp := hwp v43 ev43
      refine x_istore (lv2 := [(5, .int v43), (4, .int s0), (0, .ref l0), (1, .ref l1), (2, .int l2), (3, .ref l3)]) (pc := 138) dX3_readLine_138 (by decide) rfl ?_
      refine x_aload_n (pc := 140) dX3_readLine_140 rfl ?_
      obtain ⟨b44, e45, hwp⟩ := hwp
      refine x_getR (pc := 141) dX3_readLine_141 qRX3_11 okl0 e45 (fun okb44 => ?_)
      refine x_iload (pc := 144) dX3_readLine_144 rfl ?_
      obtain ⟨i46, hwp⟩ := hwp
      refine x_iaload (pc := 146) dX3_readLine_146 okb44 i46 ?_
      refine x_iconst (v := (-1)) (pc := 147) dX3_readLine_147 (by decide) ?_
      refine x_icmp_ne (tgt := 160) (pc := 148) dX3_readLine_148 (by decide) (fun c47 => ?_) (fun c47 => ?_)
      · have hwp := hwp.1 c47
        refine x_aload_n (pc := 160) dX3_readLine_160 rfl ?_
        refine x_dup (pc := 161) dX3_readLine_161 rfl ?_
        refine x_getI (pc := 162) dX3_readLine_162 qRX3_18 okl0 (by decide) ?_
        refine x_iconst (v := 1) (pc := 165) dX3_readLine_165 (by decide) ?_
        refine x_iadd (pc := 166) dX3_readLine_166 ?_
        refine y_putI (pc := 167) dX3_readLine_167 qRX3_18 okl0 (fun h48 eh48 nxh48 => ?_)
        have hwp := hwp h48 eh48
        have hex := hex.tr nxh48.1
        have hnn := nxh48.2.1.trans hnn
        have hzz := nxh48.2.2.trans hzz
        have okl0 := okl0.ex nxh48.1
        have okl1 := okl1.ex nxh48.1
        have okb44 := okb44.ex nxh48.1
        refine x_iconst (v := 1) (pc := 170) dX3_readLine_170 (by decide) ?_
        exact x_zret (pc := 171) dX3_readLine_171 rfl hex hnn hzz (by decide) ⟨_, rfl, by decide, hwp⟩
      · have hwp := hwp.2 c47
        refine x_aload_n (pc := 151) dX3_readLine_151 rfl ?_
        obtain ⟨b49, e50, hwp⟩ := hwp
        refine x_getR (pc := 152) dX3_readLine_152 qRX3_11 okl0 e50 (fun okb49 => ?_)
        refine x_iload (pc := 155) dX3_readLine_155 rfl ?_
        refine x_iload (pc := 157) dX3_readLine_157 rfl ?_
        obtain ⟨i52, hwp⟩ := hwp
        refine y_iastore (pc := 159) dX3_readLine_159 okb49 i52 (fun h51 eh51 nxh51 => ?_)
        have hwp := hwp h51 eh51
        have hex := hex.tr nxh51.1
        have hnn := nxh51.2.1.trans hnn
        have hzz := nxh51.2.2.trans hzz
        have okl0 := okl0.ex nxh51.1
        have okl1 := okl1.ex nxh51.1
        have okb44 := okb44.ex nxh51.1
        have okb49 := okb49.ex nxh51.1
        refine x_aload_n (pc := 160) dX3_readLine_160 rfl ?_
        refine x_dup (pc := 161) dX3_readLine_161 rfl ?_
        refine x_getI (pc := 162) dX3_readLine_162 qRX3_18 okl0 (by decide) ?_
        refine x_iconst (v := 1) (pc := 165) dX3_readLine_165 (by decide) ?_
        refine x_iadd (pc := 166) dX3_readLine_166 ?_
        refine y_putI (pc := 167) dX3_readLine_167 qRX3_18 okl0 (fun h53 eh53 nxh53 => ?_)
        have hwp := hwp h53 eh53
        have hex := hex.tr nxh53.1
        have hnn := nxh53.2.1.trans hnn
        have hzz := nxh53.2.2.trans hzz
        have okl0 := okl0.ex nxh53.1
        have okl1 := okl1.ex nxh53.1
        have okb44 := okb44.ex nxh53.1
        have okb49 := okb49.ex nxh53.1
        refine x_iconst (v := 1) (pc := 170) dX3_readLine_170 (by decide) ?_
        exact x_zret (pc := 171) dX3_readLine_171 rfl hex hnn hzz (by decide) ⟨_, rfl, by decide, hwp⟩
    · have hwp := hwp.2 c40
      refine x_iconst (v := 0) (pc := 127) dX3_readLine_127 (by decide) ?_
      exact x_zret (pc := 128) dX3_readLine_128 rfl hex hnn hzz (by decide) ⟨_, rfl, by decide, hwp⟩
def wp_X3_readLine_25 (l0 : Nat) (l1 : Nat)  (h : PH) (Q : Int32 → PH → Prop) : Prop := (wp_X7_takeWord l1 (wd 27) h (fun r9 h8 => ((¬ r9 = 0 → (wp_X7_takeNumber l1 0 9 h8 (fun r12 h11 => ((r12 = (-1) → Q 0 h11) ∧ (¬ (r12 = (-1)) → (wp_X7_takeWord l1 (wd 28) h11 (fun r15 h14 => ((¬ r15 = 0 → (wp_X7_knownWord l1 h14 (fun r18 h17 => ((r18 = none → (wp_X7_fail l1 1 h17 (fun r22 h21 => ((r22 = 0 ∨ r22 = 1) ∧ Q r22 h21)))) ∧ (∀ b20 : Nat, r18 = some b20 → (∃ i24, i24 < 34 ∧ b20 = wd i24 ∧ ((¬ (q_wc 3 i24) = (-1) → (wp_X7_pass l1 h17 (fun h27 => (wp_X7_takeWord l1 (wd 29) h27 (fun r30 h29 => ((r30 = 0 → (wp_X3_readLine_110 l0 l1 r12 b20 (-1) h29 Q)) ∧ (¬ (r30 = 0) → (wp_X7_takeNumber l1 0 9 h29 (fun r33 h32 => (wp_X3_readLine_110 l0 l1 r12 b20 r33 h32 Q)))))))))) ∧ ((q_wc 3 i24) = (-1) → (wp_X7_fail l1 1 h17 (fun r35 h34 => ((r35 = 0 ∨ r35 = 1) ∧ Q r35 h34))))))))))) ∧ (r15 = 0 → Q 0 h14))))))))) ∧ (r9 = 0 → Q 0 h8))))
set_option maxHeartbeats 4000000 in
set_option maxRecDepth 100000 in
theorem sg_X3_readLine_25 (G : GT) (d : Nat) (h0 : PH) (l0 : Nat) (l1 : Nat) (h : PH) (Q : Int32 → PH → Prop) (hex : qEx h0 h) (hnn : qn h = qn h0 + 0) (hzz : qz h = qz h0 + 0) (okl0 : qOK h 3 l0) (okl1 : qOK h 7 l1) (hwp : wp_X3_readLine_25 l0 l1 h Q) : Ex G (qrm (2 + d) 0 0) mX3_readLine (qn h0) (qz h0) (ZN G h0 0 0 (qqb Q)) 25 [(0, .ref l0), (1, .ref l1)] [] h := by
  unfold wp_X3_readLine_25 at hwp
  refine x_aload_n (pc := 25) dX3_readLine_25 rfl ?_
  refine x_gets (pc := 26) dX3_readLine_26 (by decide) gRX3_35 ?_
  refine x_invV (As := [.ref (wd 27)]) (st := []) (pc := 29) dX3_readLine_29 lRX3_49 fX7_takeWord vX7_takeWord okl1 rfl (Nat.le_of_ble_eq_true rfl) (q_R (by omega) (by decide)) (q_C hnn hzz (by decide) (by decide)) (sn_X7_takeWord G (d + 0) l1 (wd 27) h _ okl1 hwp) (k_b (fun r9 h8 hwp zbr9 cxh8 => ?_))
  have hex := hex.tr cxh8.1
  have hnn : qn h8 = qn h0 + 0 := by have := cxh8.2.1; omega
  have hzz : qz h8 = qz h0 + 0 := by have := cxh8.2.2; omega
  have okl0 := okl0.ex cxh8.1
  have okl1 := okl1.ex cxh8.1
  refine x_if_ne (tgt := 37) (pc := 32) dX3_readLine_32 (by decide) (fun c10 => ?_) (fun c10 => ?_)
  · have hwp := hwp.1 c10
    refine x_aload_n (pc := 37) dX3_readLine_37 rfl ?_
    refine x_iconst (v := 0) (pc := 38) dX3_readLine_38 (by decide) ?_
    refine x_bipush (v := 9) (pc := 39) dX3_readLine_39 (by decide) ?_
    refine x_invV (As := [.int 0, .int 9]) (st := []) (pc := 41) dX3_readLine_41 lRX3_52 fX7_takeNumber vX7_takeNumber okl1 rfl (Nat.le_of_ble_eq_true rfl) (q_R (by omega) (by decide)) (q_C hnn hzz (by decide) (by decide)) (sn_X7_takeNumber G (d + 0) l1 0 9 h8 _ okl1 hwp) (k_i (fun r12 h11 hwp cxh11 => ?_))
    have hex := hex.tr cxh11.1
    have hnn : qn h11 = qn h0 + 0 := by have := cxh11.2.1; omega
    have hzz : qz h11 = qz h0 + 0 := by have := cxh11.2.2; omega
    have okl0 := okl0.ex cxh11.1
    have okl1 := okl1.ex cxh11.1
    refine x_istore_n (lv2 := [(2, .int r12), (0, .ref l0), (1, .ref l1)]) (pc := 44) dX3_readLine_44 (by decide) rfl ?_
    refine x_iload_n (pc := 45) dX3_readLine_45 rfl ?_
    refine x_iconst (v := (-1)) (pc := 46) dX3_readLine_46 (by decide) ?_
    refine x_icmp_eq (tgt := 60) (pc := 47) dX3_readLine_47 (by decide) (fun c13 => ?_) (fun c13 => ?_)
    · have hwp := hwp.1 c13
      refine x_iconst (v := 0) (pc := 60) dX3_readLine_60 (by decide) ?_
      exact x_zret (pc := 61) dX3_readLine_61 rfl hex hnn hzz (by decide) ⟨_, rfl, by decide, hwp⟩
    · have hwp := hwp.2 c13
      refine x_aload_n (pc := 50) dX3_readLine_50 rfl ?_
      refine x_gets (pc := 51) dX3_readLine_51 (by decide) gRX3_56 ?_
      refine x_invV (As := [.ref (wd 28)]) (st := []) (pc := 54) dX3_readLine_54 lRX3_49 fX7_takeWord vX7_takeWord okl1 rfl (Nat.le_of_ble_eq_true rfl) (q_R (by omega) (by decide)) (q_C hnn hzz (by decide) (by decide)) (sn_X7_takeWord G (d + 0) l1 (wd 28) h11 _ okl1 hwp) (k_b (fun r15 h14 hwp zbr15 cxh14 => ?_))
      have hex := hex.tr cxh14.1
      have hnn : qn h14 = qn h0 + 0 := by have := cxh14.2.1; omega
      have hzz : qz h14 = qz h0 + 0 := by have := cxh14.2.2; omega
      have okl0 := okl0.ex cxh14.1
      have okl1 := okl1.ex cxh14.1
      refine x_if_ne (tgt := 62) (pc := 57) dX3_readLine_57 (by decide) (fun c16 => ?_) (fun c16 => ?_)
      · have hwp := hwp.1 c16
        refine x_aload_n (pc := 62) dX3_readLine_62 rfl ?_
        refine x_invV (As := []) (st := []) (pc := 63) dX3_readLine_63 lRX3_59 fX7_knownWord vX7_knownWord okl1 rfl (Nat.le_of_ble_eq_true rfl) (q_R (by omega) (by decide)) (q_C hnn hzz (by decide) (by decide)) (sn_X7_knownWord G (d + 1) l1 h14 _ okl1 hwp) (k_r (fun r18 h17 hwp cxh17 => ?_))
        have hex := hex.tr cxh17.1
        have hnn : qn h17 = qn h0 + 0 := by have := cxh17.2.1; omega
        have hzz : qz h17 = qz h0 + 0 := by have := cxh17.2.2; omega
        have okl0 := okl0.ex cxh17.1
        have okl1 := okl1.ex cxh17.1
        refine x_astoreq_n (lv2 := [(3, va_rf r18), (2, .int r12), (0, .ref l0), (1, .ref l1)]) (pc := 66) dX3_readLine_66 (by decide) rfl ?_
        refine x_aloadq_n (pc := 67) dX3_readLine_67 rfl ?_
        refine x_ifnull (tgt := 79) (pc := 68) dX3_readLine_68 (by decide) (fun c19 => ?_) (fun b20 c19 => ?_)
        · have hwp := hwp.1 c19
          refine x_aload_n (pc := 79) dX3_readLine_79 rfl ?_
          refine x_iconst (v := 1) (pc := 80) dX3_readLine_80 (by decide) ?_
          refine x_invV (As := [.int 1]) (st := []) (pc := 81) dX3_readLine_81 lRX3_45 fX7_fail vX7_fail okl1 rfl (Nat.le_of_ble_eq_true rfl) (q_R (by omega) (by decide)) (q_C hnn hzz (by decide) (by decide)) (sn_X7_fail G (d + 1) l1 1 h17 _ okl1 hwp) (k_b (fun r22 h21 hwp zbr22 cxh21 => ?_))
          have hex := hex.tr cxh21.1
          have hnn : qn h21 = qn h0 + 0 := by have := cxh21.2.1; omega
          have hzz : qz h21 = qz h0 + 0 := by have := cxh21.2.2; omega
          have okl0 := okl0.ex cxh21.1
          have okl1 := okl1.ex cxh21.1
          exact x_zret (pc := 84) dX3_readLine_84 rfl hex hnn hzz hwp.1 ⟨_, rfl, hwp.1, hwp.2⟩
        · have hwp := hwp.2 b20 c19
          refine x_lvE (lv2 := [(3, .ref b20), (2, .int r12), (0, .ref l0), (1, .ref l1)]) (by rw [c19]; rfl) ?_
          refine x_aload_n (pc := 71) dX3_readLine_71 rfl ?_
          obtain ⟨i24, hi24, e25, hwp⟩ := hwp
          refine x_wgetE (i := i24) (q := q_wt 3) e25 (pc := 72) dX3_readLine_72 hi24 (by simp [q_wt, qwF]) wRX3_63 ?_
          refine x_iconst (v := (-1)) (pc := 75) dX3_readLine_75 (by decide) ?_
          refine x_icmp_ne (tgt := 85) (pc := 76) dX3_readLine_76 (by decide) (fun c26 => ?_) (fun c26 => ?_)
          · have hwp := hwp.1 c26
            refine x_aload_n (pc := 85) dX3_readLine_85 rfl ?_
            refine x_invV (As := []) (st := []) (pc := 86) dX3_readLine_86 lRX3_66 fX7_pass vX7_pass okl1 rfl (Nat.le_of_ble_eq_true rfl) (q_R (by omega) (by decide)) (q_C hnn hzz (by decide) (by decide)) (sn_X7_pass G (d + 1) l1 h17 _ okl1 hwp) (k_v (fun h27 hwp cxh27 => ?_))
            have hex := hex.tr cxh27.1
            have hnn : qn h27 = qn h0 + 0 := by have := cxh27.2.1; omega
            have hzz : qz h27 = qz h0 + 0 := by have := cxh27.2.2; omega
            have okl0 := okl0.ex cxh27.1
            have okl1 := okl1.ex cxh27.1
            refine x_aload_n (pc := 89) dX3_readLine_89 rfl ?_
            refine x_gets (pc := 90) dX3_readLine_90 (by decide) gRX3_69 ?_
            refine x_invV (As := [.ref (wd 29)]) (st := []) (pc := 93) dX3_readLine_93 lRX3_49 fX7_takeWord vX7_takeWord okl1 rfl (Nat.le_of_ble_eq_true rfl) (q_R (by omega) (by decide)) (q_C hnn hzz (by decide) (by decide)) (sn_X7_takeWord G (d + 0) l1 (wd 29) h27 _ okl1 hwp) (k_b (fun r30 h29 hwp zbr30 cxh29 => ?_))
            have hex := hex.tr cxh29.1
            have hnn : qn h29 = qn h0 + 0 := by have := cxh29.2.1; omega
            have hzz : qz h29 = qz h0 + 0 := by have := cxh29.2.2; omega
            have okl0 := okl0.ex cxh29.1
            have okl1 := okl1.ex cxh29.1
            refine x_if_eq (tgt := 109) (pc := 96) dX3_readLine_96 (by decide) (fun c31 => ?_) (fun c31 => ?_)
            · have hwp := hwp.1 c31
              refine x_iconst (v := (-1)) (pc := 109) dX3_readLine_109 (by decide) ?_
              refine x_sub [2, 3, 1, 0] rfl ?_
              exact sg_X3_readLine_110 G d h0 l0 l1 r12 b20 (-1) h29 Q hex hnn hzz okl0 okl1 hwp
            · have hwp := hwp.2 c31
              refine x_aload_n (pc := 99) dX3_readLine_99 rfl ?_
              refine x_iconst (v := 0) (pc := 100) dX3_readLine_100 (by decide) ?_
              refine x_bipush (v := 9) (pc := 101) dX3_readLine_101 (by decide) ?_
              refine x_invV (As := [.int 0, .int 9]) (st := []) (pc := 103) dX3_readLine_103 lRX3_52 fX7_takeNumber vX7_takeNumber okl1 rfl (Nat.le_of_ble_eq_true rfl) (q_R (by omega) (by decide)) (q_C hnn hzz (by decide) (by decide)) (sn_X7_takeNumber G (d + 0) l1 0 9 h29 _ okl1 hwp) (k_i (fun r33 h32 hwp cxh32 => ?_))
              have hex := hex.tr cxh32.1
              have hnn : qn h32 = qn h0 + 0 := by have := cxh32.2.1; omega
              have hzz : qz h32 = qz h0 + 0 := by have := cxh32.2.2; omega
              have okl0 := okl0.ex cxh32.1
              have okl1 := okl1.ex cxh32.1
              refine x_goto (tgt := 110) (pc := 106) dX3_readLine_106 (by decide) ?_
              refine x_sub [2, 3, 1, 0] rfl ?_
              exact sg_X3_readLine_110 G d h0 l0 l1 r12 b20 r33 h32 Q hex hnn hzz okl0 okl1 hwp
          · have hwp := hwp.2 c26
            refine x_aload_n (pc := 79) dX3_readLine_79 rfl ?_
            refine x_iconst (v := 1) (pc := 80) dX3_readLine_80 (by decide) ?_
            refine x_invV (As := [.int 1]) (st := []) (pc := 81) dX3_readLine_81 lRX3_45 fX7_fail vX7_fail okl1 rfl (Nat.le_of_ble_eq_true rfl) (q_R (by omega) (by decide)) (q_C hnn hzz (by decide) (by decide)) (sn_X7_fail G (d + 1) l1 1 h17 _ okl1 hwp) (k_b (fun r35 h34 hwp zbr35 cxh34 => ?_))
            have hex := hex.tr cxh34.1
            have hnn : qn h34 = qn h0 + 0 := by have := cxh34.2.1; omega
            have hzz : qz h34 = qz h0 + 0 := by have := cxh34.2.2; omega
            have okl0 := okl0.ex cxh34.1
            have okl1 := okl1.ex cxh34.1
            exact x_zret (pc := 84) dX3_readLine_84 rfl hex hnn hzz hwp.1 ⟨_, rfl, hwp.1, hwp.2⟩
      · have hwp := hwp.2 c16
        refine x_iconst (v := 0) (pc := 60) dX3_readLine_60 (by decide) ?_
        exact x_zret (pc := 61) dX3_readLine_61 rfl hex hnn hzz (by decide) ⟨_, rfl, by decide, hwp⟩
  · have hwp := hwp.2 c10
    refine x_iconst (v := 0) (pc := 35) dX3_readLine_35 (by decide) ?_
    exact x_zret (pc := 36) dX3_readLine_36 rfl hex hnn hzz (by decide) ⟨_, rfl, by decide, hwp⟩
def wp_X3_readLine (l0 : Nat) (l1 : Nat) (h : PH) (Q : Int32 → PH → Prop) : Prop := (wp_X7_isWord l1 (wd 27) h (fun r2 h1 => ((r2 = 0 → (wp_X3_readLine_25 l0 l1 h1 Q)) ∧ (¬ (r2 = 0) → (((qI h1 l0 2) < 20 → (wp_X3_readLine_25 l0 l1 h1 Q)) ∧ (¬ ((qI h1 l0 2) < 20) → (wp_X7_fail l1 4 h1 (fun r6 h5 => ((r6 = 0 ∨ r6 = 1) ∧ Q r6 h5)))))))))
set_option maxHeartbeats 4000000 in
set_option maxRecDepth 100000 in
theorem sn_X3_readLine (G : GT) (d : Nat) (l0 : Nat) (l1 : Nat) (h : PH) (Q : Int32 → PH → Prop) (okl0 : qOK h 3 l0) (okl1 : qOK h 7 l1) (hwp : wp_X3_readLine l0 l1 h Q) : Mt G (2 + d) 0 0 mX3_readLine [.ref l0, .ref l1] h (qqb Q) := by
  unfold wp_X3_readLine at hwp
  refine Mt.of (by decide) rfl (Nat.le_of_ble_eq_true rfl) ?_
  have hex := qEx.rf h
  have hnn : qn h = qn h + 0 := rfl
  have hzz : qz h = qz h + 0 := rfl
  refine x_lvE (lv2 := [(0, .ref l0), (1, .ref l1)]) rfl ?_
  refine x_aload_n (pc := 0) dX3_readLine_0 rfl ?_
  refine x_gets (pc := 1) dX3_readLine_1 (by decide) gRX3_35 ?_
  refine x_invV (As := [.ref (wd 27)]) (st := []) (pc := 4) dX3_readLine_4 lRX3_41 fX7_isWord vX7_isWord okl1 rfl (Nat.le_of_ble_eq_true rfl) (q_R (by omega) (by decide)) (q_C hnn hzz (by decide) (by decide)) (sn_X7_isWord G (d + 1) l1 (wd 27) h _ okl1 hwp) (k_b (fun r2 h1 hwp zbr2 cxh1 => ?_))
  have hex := hex.tr cxh1.1
  have hnn : qn h1 = qn h + 0 := by have := cxh1.2.1; omega
  have hzz : qz h1 = qz h + 0 := by have := cxh1.2.2; omega
  have okl0 := okl0.ex cxh1.1
  have okl1 := okl1.ex cxh1.1
  refine x_if_eq (tgt := 25) (pc := 7) dX3_readLine_7 (by decide) (fun c3 => ?_) (fun c3 => ?_)
  · have hwp := hwp.1 c3
    refine x_sub [0, 1] rfl ?_
    exact sg_X3_readLine_25 G d h l0 l1 h1 Q hex hnn hzz okl0 okl1 hwp
  · have hwp := hwp.2 c3
    refine x_aload_n (pc := 10) dX3_readLine_10 rfl ?_
    refine x_getI (pc := 11) dX3_readLine_11 qRX3_18 okl0 (by decide) ?_
    refine x_bipush (v := 20) (pc := 14) dX3_readLine_14 (by decide) ?_
    refine x_icmp_lt (tgt := 25) (pc := 16) dX3_readLine_16 (by decide) (fun c4 => ?_) (fun c4 => ?_)
    · have hwp := hwp.1 c4
      refine x_sub [0, 1] rfl ?_
      exact sg_X3_readLine_25 G d h l0 l1 h1 Q hex hnn hzz okl0 okl1 hwp
    · have hwp := hwp.2 c4
      refine x_aload_n (pc := 19) dX3_readLine_19 rfl ?_
      refine x_iconst (v := 4) (pc := 20) dX3_readLine_20 (by decide) ?_
      refine x_invV (As := [.int 4]) (st := []) (pc := 21) dX3_readLine_21 lRX3_45 fX7_fail vX7_fail okl1 rfl (Nat.le_of_ble_eq_true rfl) (q_R (by omega) (by decide)) (q_C hnn hzz (by decide) (by decide)) (sn_X7_fail G (d + 1) l1 4 h1 _ okl1 hwp) (k_b (fun r6 h5 hwp zbr6 cxh5 => ?_))
      have hex := hex.tr cxh5.1
      have hnn : qn h5 = qn h + 0 := by have := cxh5.2.1; omega
      have hzz : qz h5 = qz h + 0 := by have := cxh5.2.2; omega
      have okl0 := okl0.ex cxh5.1
      have okl1 := okl1.ex cxh5.1
      exact x_zret (pc := 24) dX3_readLine_24 rfl hex hnn hzz hwp.1 ⟨_, rfl, hwp.1, hwp.2⟩

theorem dX3_readFrom_0 : decode cX3_readFrom 0 = .ok (.aload_n 0, 1) := by decide +kernel
theorem dX3_readFrom_1 : decode cX3_readFrom 1 = .ok (.iconst 0, 1) := by decide +kernel
theorem dX3_readFrom_2 : decode cX3_readFrom 2 = .ok (.putfield 18, 3) := by decide +kernel
theorem dX3_readFrom_5 : decode cX3_readFrom 5 = .ok (.iconst 0, 1) := by decide +kernel
theorem dX3_readFrom_6 : decode cX3_readFrom 6 = .ok (.istore_n 2, 1) := by decide +kernel
theorem dX3_readFrom_7 : decode cX3_readFrom 7 = .ok (.iload_n 2, 1) := by decide +kernel
theorem dX3_readFrom_8 : decode cX3_readFrom 8 = .ok (.aload_n 0, 1) := by decide +kernel
theorem dX3_readFrom_9 : decode cX3_readFrom 9 = .ok (.getfield 11, 3) := by decide +kernel
theorem dX3_readFrom_12 : decode cX3_readFrom 12 = .ok (.arraylength, 1) := by decide +kernel
theorem dX3_readFrom_13 : decode cX3_readFrom 13 = .ok (.if_icmp .ge 16, 3) := by decide +kernel
theorem dX3_readFrom_16 : decode cX3_readFrom 16 = .ok (.aload_n 0, 1) := by decide +kernel
theorem dX3_readFrom_17 : decode cX3_readFrom 17 = .ok (.getfield 11, 3) := by decide +kernel
theorem dX3_readFrom_20 : decode cX3_readFrom 20 = .ok (.iload_n 2, 1) := by decide +kernel
theorem dX3_readFrom_21 : decode cX3_readFrom 21 = .ok (.iconst (-1), 1) := by decide +kernel
theorem dX3_readFrom_22 : decode cX3_readFrom 22 = .ok (.iastore, 1) := by decide +kernel
theorem dX3_readFrom_23 : decode cX3_readFrom 23 = .ok (.iinc 2 1, 3) := by decide +kernel
theorem dX3_readFrom_26 : decode cX3_readFrom 26 = .ok (.goto (-19), 3) := by decide +kernel
theorem dX3_readFrom_29 : decode cX3_readFrom 29 = .ok (.iconst 0, 1) := by decide +kernel
theorem dX3_readFrom_30 : decode cX3_readFrom 30 = .ok (.istore_n 2, 1) := by decide +kernel
theorem dX3_readFrom_31 : decode cX3_readFrom 31 = .ok (.iload_n 2, 1) := by decide +kernel
theorem dX3_readFrom_32 : decode cX3_readFrom 32 = .ok (.sipush 640, 3) := by decide +kernel
theorem dX3_readFrom_35 : decode cX3_readFrom 35 = .ok (.if_icmp .ge 26, 3) := by decide +kernel
theorem dX3_readFrom_38 : decode cX3_readFrom 38 = .ok (.aload_n 1, 1) := by decide +kernel
theorem dX3_readFrom_39 : decode cX3_readFrom 39 = .ok (.invokevirtual 22, 3) := by decide +kernel
theorem dX3_readFrom_42 : decode cX3_readFrom 42 = .ok (.ifCond .ne 19, 3) := by decide +kernel
theorem dX3_readFrom_45 : decode cX3_readFrom 45 = .ok (.aload_n 0, 1) := by decide +kernel
theorem dX3_readFrom_46 : decode cX3_readFrom 46 = .ok (.aload_n 1, 1) := by decide +kernel
theorem dX3_readFrom_47 : decode cX3_readFrom 47 = .ok (.invokevirtual 28, 3) := by decide +kernel
theorem dX3_readFrom_50 : decode cX3_readFrom 50 = .ok (.ifCond .ne 5, 3) := by decide +kernel
theorem dX3_readFrom_53 : decode cX3_readFrom 53 = .ok (.iconst 0, 1) := by decide +kernel
theorem dX3_readFrom_54 : decode cX3_readFrom 54 = .ok (.ireturn, 1) := by decide +kernel
theorem dX3_readFrom_55 : decode cX3_readFrom 55 = .ok (.iinc 2 1, 3) := by decide +kernel
theorem dX3_readFrom_58 : decode cX3_readFrom 58 = .ok (.goto (-27), 3) := by decide +kernel
theorem dX3_readFrom_61 : decode cX3_readFrom 61 = .ok (.aload_n 1, 1) := by decide +kernel
theorem dX3_readFrom_62 : decode cX3_readFrom 62 = .ok (.invokevirtual 32, 3) := by decide +kernel
theorem dX3_readFrom_65 : decode cX3_readFrom 65 = .ok (.ireturn, 1) := by decide +kernel
def E_X3_readFrom_7 (G : GT) (d : Nat) (h0 hb : PH) (l0 : Nat) (l1 : Nat) (Q : Int32 → PH → Prop) (s : Int32 × PH) : Prop := qEx hb s.2 ∧ qn s.2 = qn hb ∧ qz s.2 = qz hb → Ex G (qrm (3 + d) 0 0) mX3_readFrom (qn h0) (qz h0) (ZN G h0 0 0 (qqb Q)) 7 [(0, .ref l0), (1, .ref l1), (2, .int s.1)] [] s.2
def E_X3_readFrom_31 (G : GT) (d : Nat) (h0 hb : PH) (l0 : Nat) (l1 : Nat) (Q : Int32 → PH → Prop) (s : Int32 × PH) : Prop := qEx hb s.2 ∧ qn s.2 = qn hb ∧ qz s.2 = qz hb → Ex G (qrm (3 + d) 0 0) mX3_readFrom (qn h0) (qz h0) (ZN G h0 0 0 (qqb Q)) 31 [(0, .ref l0), (1, .ref l1), (2, .int s.1)] [] s.2
def wb_X3_readFrom_31 (l0 : Nat) (l1 : Nat)  (Q : Int32 → PH → Prop) (bk31 : Int32 × PH → Prop) (l2 : Int32) (h : PH) : Prop := ((640 ≤ l2 → (wp_X7_takeEnd l1 h (fun r12 h11 => ((r12 = 0 ∨ r12 = 1) ∧ Q r12 h11)))) ∧ (¬ (640 ≤ l2) → (wp_X7_isEnd l1 h (fun r15 h14 => ((¬ r15 = 0 → (wp_X7_takeEnd l1 h14 (fun r18 h17 => ((r18 = 0 ∨ r18 = 1) ∧ Q r18 h17)))) ∧ (r15 = 0 → (wp_X3_readLine l0 l1 h14 (fun r21 h20 => ((¬ r21 = 0 → ∀ v23 : Int32, v23 = l2 + 1 → bk31 (v23, h20)) ∧ (r21 = 0 → Q 0 h20))))))))))
def wp_X3_readFrom_31 (l0 : Nat) (l1 : Nat)  (Q : Int32 → PH → Prop) (bk31 : Int32 × PH → Prop) (s : Int32 × PH) : Prop := wb_X3_readFrom_31 l0 l1 Q bk31 s.1 s.2
set_option maxHeartbeats 4000000 in
set_option maxRecDepth 100000 in
theorem bd_X3_readFrom_31 (G : GT) (d : Nat) (h0 hb : PH) (l0 : Nat) (l1 : Nat) (Q : Int32 → PH → Prop)  (hex : qEx h0 hb) (hnn : qn hb = qn h0 + 0) (hzz : qz hb = qz h0 + 0) (okl0 : qOK hb 3 l0) (okl1 : qOK hb 7 l1) (bk31 : Int32 × PH → Prop) (hbk31 : ∀ s2, bk31 s2 → E_X3_readFrom_31 G d h0 hb l0 l1 Q s2) (l2 : Int32) (h : PH) (hwp : wb_X3_readFrom_31 l0 l1 Q bk31 l2 h) (hx31 : qEx hb h) (hn31 : qn h = qn hb) (hz31 : qz h = qz hb) : Ex G (qrm (3 + d) 0 0) mX3_readFrom (qn h0) (qz h0) (ZN G h0 0 0 (qqb Q)) 31 [(0, .ref l0), (1, .ref l1), (2, .int l2)] [] h := by
  unfold wb_X3_readFrom_31 at hwp
  have hex := hex.tr hx31
  have hnn := hn31.trans hnn
  have hzz := hz31.trans hzz
  have okl0 := okl0.ex hx31
  have okl1 := okl1.ex hx31
  refine x_iload_n (pc := 31) dX3_readFrom_31 rfl ?_
  refine x_sipush (v := 640) (pc := 32) dX3_readFrom_32 (by decide) ?_
  refine x_icmp_ge (tgt := 61) (pc := 35) dX3_readFrom_35 (by decide) (fun c10 => ?_) (fun c10 => ?_)
  · have hwp := hwp.1 c10
    refine x_aload_n (pc := 61) dX3_readFrom_61 rfl ?_
    refine x_invV (As := []) (st := []) (pc := 62) dX3_readFrom_62 lRX3_32 fX7_takeEnd vX7_takeEnd okl1 rfl (Nat.le_of_ble_eq_true rfl) (q_R (by omega) (by decide)) (q_C hnn hzz (by decide) (by decide)) (sn_X7_takeEnd G (d + 1) l1 h _ okl1 hwp) (k_b (fun r12 h11 hwp zbr12 cxh11 => ?_))
    have hex := hex.tr cxh11.1
    have hnn : qn h11 = qn h0 + 0 := by have := cxh11.2.1; omega
    have hzz : qz h11 = qz h0 + 0 := by have := cxh11.2.2; omega
    have hx31 := hx31.tr cxh11.1
    have hn31 : qn h11 = qn hb := by have := cxh11.2.1; omega
    have hz31 : qz h11 = qz hb := by have := cxh11.2.2; omega
    have okl0 := okl0.ex cxh11.1
    have okl1 := okl1.ex cxh11.1
    exact x_zret (pc := 65) dX3_readFrom_65 rfl hex hnn hzz hwp.1 ⟨_, rfl, hwp.1, hwp.2⟩
  · have hwp := hwp.2 c10
    refine x_aload_n (pc := 38) dX3_readFrom_38 rfl ?_
    refine x_invV (As := []) (st := []) (pc := 39) dX3_readFrom_39 lRX3_22 fX7_isEnd vX7_isEnd okl1 rfl (Nat.le_of_ble_eq_true rfl) (q_R (by omega) (by decide)) (q_C hnn hzz (by decide) (by decide)) (sn_X7_isEnd G (d + 2) l1 h _ okl1 hwp) (k_b (fun r15 h14 hwp zbr15 cxh14 => ?_))
    have hex := hex.tr cxh14.1
    have hnn : qn h14 = qn h0 + 0 := by have := cxh14.2.1; omega
    have hzz : qz h14 = qz h0 + 0 := by have := cxh14.2.2; omega
    have hx31 := hx31.tr cxh14.1
    have hn31 : qn h14 = qn hb := by have := cxh14.2.1; omega
    have hz31 : qz h14 = qz hb := by have := cxh14.2.2; omega
    have okl0 := okl0.ex cxh14.1
    have okl1 := okl1.ex cxh14.1
    refine x_if_ne (tgt := 61) (pc := 42) dX3_readFrom_42 (by decide) (fun c16 => ?_) (fun c16 => ?_)
    · have hwp := hwp.1 c16
      refine x_aload_n (pc := 61) dX3_readFrom_61 rfl ?_
      refine x_invV (As := []) (st := []) (pc := 62) dX3_readFrom_62 lRX3_32 fX7_takeEnd vX7_takeEnd okl1 rfl (Nat.le_of_ble_eq_true rfl) (q_R (by omega) (by decide)) (q_C hnn hzz (by decide) (by decide)) (sn_X7_takeEnd G (d + 1) l1 h14 _ okl1 hwp) (k_b (fun r18 h17 hwp zbr18 cxh17 => ?_))
      have hex := hex.tr cxh17.1
      have hnn : qn h17 = qn h0 + 0 := by have := cxh17.2.1; omega
      have hzz : qz h17 = qz h0 + 0 := by have := cxh17.2.2; omega
      have hx31 := hx31.tr cxh17.1
      have hn31 : qn h17 = qn hb := by have := cxh17.2.1; omega
      have hz31 : qz h17 = qz hb := by have := cxh17.2.2; omega
      have okl0 := okl0.ex cxh17.1
      have okl1 := okl1.ex cxh17.1
      exact x_zret (pc := 65) dX3_readFrom_65 rfl hex hnn hzz hwp.1 ⟨_, rfl, hwp.1, hwp.2⟩
    · have hwp := hwp.2 c16
      refine x_aload_n (pc := 45) dX3_readFrom_45 rfl ?_
      refine x_aload_n (pc := 46) dX3_readFrom_46 rfl ?_
      refine x_invV (As := [.ref l1]) (st := []) (pc := 47) dX3_readFrom_47 lRX3_28 fX3_readLine vX3_readLine okl0 rfl (Nat.le_of_ble_eq_true rfl) (q_R (by omega) (by decide)) (q_C hnn hzz (by decide) (by decide)) (sn_X3_readLine G (d + 0) l0 l1 h14 _ okl0 okl1 hwp) (k_b (fun r21 h20 hwp zbr21 cxh20 => ?_))
      have hex := hex.tr cxh20.1
      have hnn : qn h20 = qn h0 + 0 := by have := cxh20.2.1; omega
      have hzz : qz h20 = qz h0 + 0 := by have := cxh20.2.2; omega
      have hx31 := hx31.tr cxh20.1
      have hn31 : qn h20 = qn hb := by have := cxh20.2.1; omega
      have hz31 : qz h20 = qz hb := by have := cxh20.2.2; omega
      have okl0 := okl0.ex cxh20.1
      have okl1 := okl1.ex cxh20.1
      refine x_if_ne (tgt := 55) (pc := 50) dX3_readFrom_50 (by decide) (fun c22 => ?_) (fun c22 => ?_)
      · have hwp := hwp.1 c22
        refine y_iinc (c := 1) (pc := 55) dX3_readFrom_55 rfl (by decide) (by decide) (fun v23 ev23 => ?_)
        have hwp := hwp v23 ev23
        refine x_lvE (lv2 := [(2, .int v23), (0, .ref l0), (1, .ref l1)]) rfl ?_
        refine x_goto (tgt := 31) (pc := 58) dX3_readFrom_58 (by decide) ?_
        refine x_sub [1, 2, 0] rfl ?_
        exact hbk31 _ hwp ⟨hx31, hn31, hz31⟩
      · have hwp := hwp.2 c22
        refine x_iconst (v := 0) (pc := 53) dX3_readFrom_53 (by decide) ?_
        exact x_zret (pc := 54) dX3_readFrom_54 rfl hex hnn hzz (by decide) ⟨_, rfl, by decide, hwp⟩
theorem lp_X3_readFrom_31 (G : GT) (d : Nat) (h0 hb : PH) (l0 : Nat) (l1 : Nat) (Q : Int32 → PH → Prop)  (hex : qEx h0 hb) (hnn : qn hb = qn h0 + 0) (hzz : qz hb = qz h0 + 0) (okl0 : qOK hb 3 l0) (okl1 : qOK hb 7 l1) {s : Int32 × PH} (hwp : qLoop (wp_X3_readFrom_31 l0 l1 Q) s) : E_X3_readFrom_31 G d h0 hb l0 l1 Q s :=
  qLoop.use (E := E_X3_readFrom_31 G d h0 hb l0 l1 Q) (fun back s hbk hw hx => bd_X3_readFrom_31 G d h0 hb l0 l1 Q hex hnn hzz okl0 okl1 back hbk s.1 s.2 hw hx.1 hx.2.1 hx.2.2) hwp
def wb_X3_readFrom_7 (l0 : Nat) (l1 : Nat)  (Q : Int32 → PH → Prop) (bk7 : Int32 × PH → Prop) (l2 : Int32) (h : PH) : Prop := (∃ b2, qR h l0 0 = some b2 ∧ (((nI (qL h b2)) ≤ l2 → (qLoop (wp_X3_readFrom_31 l0 l1 Q) (0, h))) ∧ (¬ ((nI (qL h b2)) ≤ l2) → (∃ b5, qR h l0 0 = some b5 ∧ (vp_in l2 (qL h b5) ∧ ∀ h7, h7 = qsI h b5 l2.toNatClampNeg (-1) → ∀ v9 : Int32, v9 = l2 + 1 → bk7 (v9, h7))))))
def wp_X3_readFrom_7 (l0 : Nat) (l1 : Nat)  (Q : Int32 → PH → Prop) (bk7 : Int32 × PH → Prop) (s : Int32 × PH) : Prop := wb_X3_readFrom_7 l0 l1 Q bk7 s.1 s.2
set_option maxHeartbeats 4000000 in
set_option maxRecDepth 100000 in
theorem bd_X3_readFrom_7 (G : GT) (d : Nat) (h0 hb : PH) (l0 : Nat) (l1 : Nat) (Q : Int32 → PH → Prop)  (hex : qEx h0 hb) (hnn : qn hb = qn h0 + 0) (hzz : qz hb = qz h0 + 0) (okl0 : qOK hb 3 l0) (okl1 : qOK hb 7 l1) (bk7 : Int32 × PH → Prop) (hbk7 : ∀ s2, bk7 s2 → E_X3_readFrom_7 G d h0 hb l0 l1 Q s2) (l2 : Int32) (h : PH) (hwp : wb_X3_readFrom_7 l0 l1 Q bk7 l2 h) (hx7 : qEx hb h) (hn7 : qn h = qn hb) (hz7 : qz h = qz hb) : Ex G (qrm (3 + d) 0 0) mX3_readFrom (qn h0) (qz h0) (ZN G h0 0 0 (qqb Q)) 7 [(0, .ref l0), (1, .ref l1), (2, .int l2)] [] h := by
  unfold wb_X3_readFrom_7 at hwp
  have hex := hex.tr hx7
  have hnn := hn7.trans hnn
  have hzz := hz7.trans hzz
  have okl0 := okl0.ex hx7
  have okl1 := okl1.ex hx7
  refine x_iload_n (pc := 7) dX3_readFrom_7 rfl ?_
  refine x_aload_n (pc := 8) dX3_readFrom_8 rfl ?_
  obtain ⟨b2, e3, hwp⟩ := hwp
  refine x_getR (pc := 9) dX3_readFrom_9 qRX3_11 okl0 e3 (fun okb2 => ?_)
  refine x_alen (pc := 12) dX3_readFrom_12 okb2 (by decide) ?_
  refine x_icmp_ge (tgt := 29) (pc := 13) dX3_readFrom_13 (by decide) (fun c4 => ?_) (fun c4 => ?_)
  · have hwp := hwp.1 c4
    refine x_iconst (v := 0) (pc := 29) dX3_readFrom_29 (by decide) ?_
    refine x_istore_n (lv2 := [(2, .int 0), (0, .ref l0), (1, .ref l1)]) (pc := 30) dX3_readFrom_30 (by decide) rfl ?_
    refine x_sub [1, 2, 0] rfl ?_
    exact lp_X3_readFrom_31 G d h0 h l0 l1 Q hex hnn hzz okl0 okl1 hwp ⟨qEx.rf _, rfl, rfl⟩
  · have hwp := hwp.2 c4
    refine x_aload_n (pc := 16) dX3_readFrom_16 rfl ?_
    obtain ⟨b5, e6, hwp⟩ := hwp
    refine x_getR (pc := 17) dX3_readFrom_17 qRX3_11 okl0 e6 (fun okb5 => ?_)
    refine x_iload_n (pc := 20) dX3_readFrom_20 rfl ?_
    refine x_iconst (v := (-1)) (pc := 21) dX3_readFrom_21 (by decide) ?_
    obtain ⟨i8, hwp⟩ := hwp
    refine y_iastore (pc := 22) dX3_readFrom_22 okb5 i8 (fun h7 eh7 nxh7 => ?_)
    have hwp := hwp h7 eh7
    have hex := hex.tr nxh7.1
    have hnn := nxh7.2.1.trans hnn
    have hzz := nxh7.2.2.trans hzz
    have hx7 := hx7.tr nxh7.1
    have hn7 := nxh7.2.1.trans hn7
    have hz7 := nxh7.2.2.trans hz7
    have okl0 := okl0.ex nxh7.1
    have okl1 := okl1.ex nxh7.1
    have okb2 := okb2.ex nxh7.1
    have okb5 := okb5.ex nxh7.1
    refine y_iinc (c := 1) (pc := 23) dX3_readFrom_23 rfl (by decide) (by decide) (fun v9 ev9 => ?_)
    have hwp := hwp v9 ev9
    refine x_lvE (lv2 := [(2, .int v9), (0, .ref l0), (1, .ref l1)]) rfl ?_
    refine x_goto (tgt := 7) (pc := 26) dX3_readFrom_26 (by decide) ?_
    refine x_sub [1, 2, 0] rfl ?_
    exact hbk7 _ hwp ⟨hx7, hn7, hz7⟩
theorem lp_X3_readFrom_7 (G : GT) (d : Nat) (h0 hb : PH) (l0 : Nat) (l1 : Nat) (Q : Int32 → PH → Prop)  (hex : qEx h0 hb) (hnn : qn hb = qn h0 + 0) (hzz : qz hb = qz h0 + 0) (okl0 : qOK hb 3 l0) (okl1 : qOK hb 7 l1) {s : Int32 × PH} (hwp : qLoop (wp_X3_readFrom_7 l0 l1 Q) s) : E_X3_readFrom_7 G d h0 hb l0 l1 Q s :=
  qLoop.use (E := E_X3_readFrom_7 G d h0 hb l0 l1 Q) (fun back s hbk hw hx => bd_X3_readFrom_7 G d h0 hb l0 l1 Q hex hnn hzz okl0 okl1 back hbk s.1 s.2 hw hx.1 hx.2.1 hx.2.2) hwp
def wp_X3_readFrom (l0 : Nat) (l1 : Nat) (h : PH) (Q : Int32 → PH → Prop) : Prop := (∀ h1, h1 = qsI h l0 2 0 → (qLoop (wp_X3_readFrom_7 l0 l1 Q) (0, h1)))
set_option maxHeartbeats 4000000 in
set_option maxRecDepth 100000 in
theorem sn_X3_readFrom (G : GT) (d : Nat) (l0 : Nat) (l1 : Nat) (h : PH) (Q : Int32 → PH → Prop) (okl0 : qOK h 3 l0) (okl1 : qOK h 7 l1) (hwp : wp_X3_readFrom l0 l1 h Q) : Mt G (3 + d) 0 0 mX3_readFrom [.ref l0, .ref l1] h (qqb Q) := by
  unfold wp_X3_readFrom at hwp
  refine Mt.of (by decide) rfl (Nat.le_of_ble_eq_true rfl) ?_
  have hex := qEx.rf h
  have hnn : qn h = qn h + 0 := rfl
  have hzz : qz h = qz h + 0 := rfl
  refine x_lvE (lv2 := [(0, .ref l0), (1, .ref l1)]) rfl ?_
  refine x_aload_n (pc := 0) dX3_readFrom_0 rfl ?_
  refine x_iconst (v := 0) (pc := 1) dX3_readFrom_1 (by decide) ?_
  refine y_putI (pc := 2) dX3_readFrom_2 qRX3_18 okl0 (fun h1 eh1 nxh1 => ?_)
  have hwp := hwp h1 eh1
  have hex := hex.tr nxh1.1
  have hnn := nxh1.2.1.trans hnn
  have hzz := nxh1.2.2.trans hzz
  have okl0 := okl0.ex nxh1.1
  have okl1 := okl1.ex nxh1.1
  refine x_iconst (v := 0) (pc := 5) dX3_readFrom_5 (by decide) ?_
  refine x_istore_n (lv2 := [(2, .int 0), (0, .ref l0), (1, .ref l1)]) (pc := 6) dX3_readFrom_6 (by decide) rfl ?_
  refine x_sub [1, 2, 0] rfl ?_
  exact lp_X3_readFrom_7 G d h h1 l0 l1 Q hex hnn hzz okl0 okl1 hwp ⟨qEx.rf _, rfl, rfl⟩

theorem dX3_stateAfter_0 : decode cX3_stateAfter 0 = .ok (.aload_n 0, 1) := by decide +kernel
theorem dX3_stateAfter_1 : decode cX3_stateAfter 1 = .ok (.getfield 11, 3) := by decide +kernel
theorem dX3_stateAfter_4 : decode cX3_stateAfter 4 = .ok (.iload_n 1, 1) := by decide +kernel
theorem dX3_stateAfter_5 : decode cX3_stateAfter 5 = .ok (.bipush 7, 2) := by decide +kernel
theorem dX3_stateAfter_7 : decode cX3_stateAfter 7 = .ok (.imul, 1) := by decide +kernel
theorem dX3_stateAfter_8 : decode cX3_stateAfter 8 = .ok (.iload_n 2, 1) := by decide +kernel
theorem dX3_stateAfter_9 : decode cX3_stateAfter 9 = .ok (.iadd, 1) := by decide +kernel
theorem dX3_stateAfter_10 : decode cX3_stateAfter 10 = .ok (.iaload, 1) := by decide +kernel
theorem dX3_stateAfter_11 : decode cX3_stateAfter 11 = .ok (.istore_n 3, 1) := by decide +kernel
theorem dX3_stateAfter_12 : decode cX3_stateAfter 12 = .ok (.iload_n 3, 1) := by decide +kernel
theorem dX3_stateAfter_13 : decode cX3_stateAfter 13 = .ok (.iconst (-1), 1) := by decide +kernel
theorem dX3_stateAfter_14 : decode cX3_stateAfter 14 = .ok (.if_icmp .ne 7, 3) := by decide +kernel
theorem dX3_stateAfter_17 : decode cX3_stateAfter 17 = .ok (.iload_n 1, 1) := by decide +kernel
theorem dX3_stateAfter_18 : decode cX3_stateAfter 18 = .ok (.goto 4, 3) := by decide +kernel
theorem dX3_stateAfter_21 : decode cX3_stateAfter 21 = .ok (.iload_n 3, 1) := by decide +kernel
theorem dX3_stateAfter_22 : decode cX3_stateAfter 22 = .ok (.ireturn, 1) := by decide +kernel
def wp_X3_stateAfter (l0 : Nat) (l1 : Int32) (l2 : Int32) (h : PH) (Q : Int32 → PH → Prop) : Prop := (∃ b1, qR h l0 0 = some b1 ∧ (vp_in ((l1 * 7) + l2) (qL h b1) ∧ ∀ v4 : Int32, v4 = qI h b1 ((l1 * 7) + l2).toNatClampNeg → ((¬ v4 = (-1) → Q v4 h) ∧ (v4 = (-1) → Q l1 h))))
set_option maxHeartbeats 4000000 in
set_option maxRecDepth 100000 in
theorem sn_X3_stateAfter (G : GT) (d : Nat) (l0 : Nat) (l1 : Int32) (l2 : Int32) (h : PH) (Q : Int32 → PH → Prop) (okl0 : qOK h 3 l0) (hwp : wp_X3_stateAfter l0 l1 l2 h Q) : Mt G (0 + d) 0 0 mX3_stateAfter [.ref l0, .int l1, .int l2] h (qqi Q) := by
  unfold wp_X3_stateAfter at hwp
  refine Mt.of (by decide) rfl (Nat.le_of_ble_eq_true rfl) ?_
  have hex := qEx.rf h
  have hnn : qn h = qn h + 0 := rfl
  have hzz : qz h = qz h + 0 := rfl
  refine x_lvE (lv2 := [(0, .ref l0), (1, .int l1), (2, .int l2)]) rfl ?_
  refine x_aload_n (pc := 0) dX3_stateAfter_0 rfl ?_
  obtain ⟨b1, e2, hwp⟩ := hwp
  refine x_getR (pc := 1) dX3_stateAfter_1 qRX3_11 okl0 e2 (fun okb1 => ?_)
  refine x_iload_n (pc := 4) dX3_stateAfter_4 rfl ?_
  refine x_bipush (v := 7) (pc := 5) dX3_stateAfter_5 (by decide) ?_
  refine x_imul (pc := 7) dX3_stateAfter_7 ?_
  refine x_iload_n (pc := 8) dX3_stateAfter_8 rfl ?_
  refine x_iadd (pc := 9) dX3_stateAfter_9 ?_
  obtain ⟨i3, hwp⟩ := hwp
  refine x_iaload (pc := 10) dX3_stateAfter_10 okb1 i3 ?_
  refine x_nmI (fun v4 ev4 => ?_)
  have hwp := hwp v4 ev4
  refine x_istore_n (lv2 := [(3, .int v4), (0, .ref l0), (1, .int l1), (2, .int l2)]) (pc := 11) dX3_stateAfter_11 (by decide) rfl ?_
  refine x_iload_n (pc := 12) dX3_stateAfter_12 rfl ?_
  refine x_iconst (v := (-1)) (pc := 13) dX3_stateAfter_13 (by decide) ?_
  refine x_icmp_ne (tgt := 21) (pc := 14) dX3_stateAfter_14 (by decide) (fun c5 => ?_) (fun c5 => ?_)
  · have hwp := hwp.1 c5
    refine x_iload_n (pc := 21) dX3_stateAfter_21 rfl ?_
    exact x_iret (pc := 22) dX3_stateAfter_22 rfl hex hnn hzz ⟨_, rfl, hwp⟩
  · have hwp := hwp.2 c5
    refine x_iload_n (pc := 17) dX3_stateAfter_17 rfl ?_
    refine x_goto (tgt := 22) (pc := 18) dX3_stateAfter_18 (by decide) ?_
    exact x_iret (pc := 22) dX3_stateAfter_22 rfl hex hnn hzz ⟨_, rfl, hwp⟩

theorem dX3_farBySaying_0 : decode cX3_farBySaying 0 = .ok (.sipush 1000, 3) := by decide +kernel
theorem dX3_farBySaying_3 : decode cX3_farBySaying 3 = .ok (.istore_n 3, 1) := by decide +kernel
theorem dX3_farBySaying_4 : decode cX3_farBySaying 4 = .ok (.iconst 0, 1) := by decide +kernel
theorem dX3_farBySaying_5 : decode cX3_farBySaying 5 = .ok (.istore 4, 2) := by decide +kernel
theorem dX3_farBySaying_7 : decode cX3_farBySaying 7 = .ok (.iload 4, 2) := by decide +kernel
theorem dX3_farBySaying_9 : decode cX3_farBySaying 9 = .ok (.bipush 7, 2) := by decide +kernel
theorem dX3_farBySaying_11 : decode cX3_farBySaying 11 = .ok (.if_icmp .ge 37, 3) := by decide +kernel
theorem dX3_farBySaying_14 : decode cX3_farBySaying 14 = .ok (.iload_n 2, 1) := by decide +kernel
theorem dX3_farBySaying_15 : decode cX3_farBySaying 15 = .ok (.iload 4, 2) := by decide +kernel
theorem dX3_farBySaying_17 : decode cX3_farBySaying 17 = .ok (.iushr, 1) := by decide +kernel
theorem dX3_farBySaying_18 : decode cX3_farBySaying 18 = .ok (.iconst 1, 1) := by decide +kernel
theorem dX3_farBySaying_19 : decode cX3_farBySaying 19 = .ok (.iand, 1) := by decide +kernel
theorem dX3_farBySaying_20 : decode cX3_farBySaying 20 = .ok (.ifCond .eq 22, 3) := by decide +kernel
theorem dX3_farBySaying_23 : decode cX3_farBySaying 23 = .ok (.iload_n 3, 1) := by decide +kernel
theorem dX3_farBySaying_24 : decode cX3_farBySaying 24 = .ok (.aload_n 0, 1) := by decide +kernel
theorem dX3_farBySaying_25 : decode cX3_farBySaying 25 = .ok (.getfield 15, 3) := by decide +kernel
theorem dX3_farBySaying_28 : decode cX3_farBySaying 28 = .ok (.aload_n 0, 1) := by decide +kernel
theorem dX3_farBySaying_29 : decode cX3_farBySaying 29 = .ok (.iload_n 1, 1) := by decide +kernel
theorem dX3_farBySaying_30 : decode cX3_farBySaying 30 = .ok (.iload 4, 2) := by decide +kernel
theorem dX3_farBySaying_32 : decode cX3_farBySaying 32 = .ok (.invokevirtual 83, 3) := by decide +kernel
theorem dX3_farBySaying_35 : decode cX3_farBySaying 35 = .ok (.iaload, 1) := by decide +kernel
theorem dX3_farBySaying_36 : decode cX3_farBySaying 36 = .ok (.iconst 1, 1) := by decide +kernel
theorem dX3_farBySaying_37 : decode cX3_farBySaying 37 = .ok (.iadd, 1) := by decide +kernel
theorem dX3_farBySaying_38 : decode cX3_farBySaying 38 = .ok (.invokestatic 78, 3) := by decide +kernel
theorem dX3_farBySaying_41 : decode cX3_farBySaying 41 = .ok (.istore_n 3, 1) := by decide +kernel
theorem dX3_farBySaying_42 : decode cX3_farBySaying 42 = .ok (.iinc 4 1, 3) := by decide +kernel
theorem dX3_farBySaying_45 : decode cX3_farBySaying 45 = .ok (.goto (-38), 3) := by decide +kernel
theorem dX3_farBySaying_48 : decode cX3_farBySaying 48 = .ok (.iload_n 3, 1) := by decide +kernel
theorem dX3_farBySaying_49 : decode cX3_farBySaying 49 = .ok (.ireturn, 1) := by decide +kernel
def E_X3_farBySaying_7 (G : GT) (d : Nat) (h0 hb : PH) (l0 : Nat) (l1 : Int32) (l2 : Int32) (Q : Int32 → PH → Prop) (s : Int32 × Int32 × PH) : Prop := qEx hb s.2.2 ∧ qn s.2.2 = qn hb ∧ qz s.2.2 = qz hb → Ex G (qrm (1 + d) 0 0) mX3_farBySaying (qn h0) (qz h0) (ZN G h0 0 0 (qqi Q)) 7 [(0, .ref l0), (1, .int l1), (2, .int l2), (3, .int s.1), (4, .int s.2.1)] [] s.2.2
def wb_X3_farBySaying_7 (l0 : Nat) (l1 : Int32) (l2 : Int32)  (Q : Int32 → PH → Prop) (bk7 : Int32 × Int32 × PH → Prop) (l3 : Int32) (l4 : Int32) (h : PH) : Prop := ((7 ≤ l4 → Q l3 h) ∧ (¬ (7 ≤ l4) → ((((q_ushr l2 l4) &&& 1) = 0 → ∀ v3 : Int32, v3 = l4 + 1 → bk7 (l3, v3, h)) ∧ (¬ (((q_ushr l2 l4) &&& 1) = 0) → (∃ b4, qR h l0 1 = some b4 ∧ (wp_X3_stateAfter l0 l1 l4 h (fun r7 h6 => (vp_in r7 (qL h6 b4) ∧ (wp_J9_min_7cf53 l3 ((qI h6 b4 r7.toNatClampNeg) + 1) h6 (fun r10 h9 => ∀ v11 : Int32, v11 = l4 + 1 → bk7 (r10, v11, h9)))))))))))
def wp_X3_farBySaying_7 (l0 : Nat) (l1 : Int32) (l2 : Int32)  (Q : Int32 → PH → Prop) (bk7 : Int32 × Int32 × PH → Prop) (s : Int32 × Int32 × PH) : Prop := wb_X3_farBySaying_7 l0 l1 l2 Q bk7 s.1 s.2.1 s.2.2
set_option maxHeartbeats 4000000 in
set_option maxRecDepth 100000 in
theorem bd_X3_farBySaying_7 (G : GT) (d : Nat) (h0 hb : PH) (l0 : Nat) (l1 : Int32) (l2 : Int32) (Q : Int32 → PH → Prop)  (hex : qEx h0 hb) (hnn : qn hb = qn h0 + 0) (hzz : qz hb = qz h0 + 0) (okl0 : qOK hb 3 l0) (bk7 : Int32 × Int32 × PH → Prop) (hbk7 : ∀ s2, bk7 s2 → E_X3_farBySaying_7 G d h0 hb l0 l1 l2 Q s2) (l3 : Int32) (l4 : Int32) (h : PH) (hwp : wb_X3_farBySaying_7 l0 l1 l2 Q bk7 l3 l4 h) (hx7 : qEx hb h) (hn7 : qn h = qn hb) (hz7 : qz h = qz hb) : Ex G (qrm (1 + d) 0 0) mX3_farBySaying (qn h0) (qz h0) (ZN G h0 0 0 (qqi Q)) 7 [(0, .ref l0), (1, .int l1), (2, .int l2), (3, .int l3), (4, .int l4)] [] h := by
  unfold wb_X3_farBySaying_7 at hwp
  have hex := hex.tr hx7
  have hnn := hn7.trans hnn
  have hzz := hz7.trans hzz
  have okl0 := okl0.ex hx7
  refine x_iload (pc := 7) dX3_farBySaying_7 rfl ?_
  refine x_bipush (v := 7) (pc := 9) dX3_farBySaying_9 (by decide) ?_
  refine x_icmp_ge (tgt := 48) (pc := 11) dX3_farBySaying_11 (by decide) (fun c1 => ?_) (fun c1 => ?_)
  · have hwp := hwp.1 c1
    refine x_iload_n (pc := 48) dX3_farBySaying_48 rfl ?_
    exact x_iret (pc := 49) dX3_farBySaying_49 rfl hex hnn hzz ⟨_, rfl, hwp⟩
  · have hwp := hwp.2 c1
    refine x_iload_n (pc := 14) dX3_farBySaying_14 rfl ?_
    refine x_iload (pc := 15) dX3_farBySaying_15 rfl ?_
    refine x_iushr (pc := 17) dX3_farBySaying_17 ?_
    refine x_iconst (v := 1) (pc := 18) dX3_farBySaying_18 (by decide) ?_
    refine x_iand (pc := 19) dX3_farBySaying_19 ?_
    refine x_if_eq (tgt := 42) (pc := 20) dX3_farBySaying_20 (by decide) (fun c2 => ?_) (fun c2 => ?_)
    · have hwp := hwp.1 c2
      refine y_iinc (c := 1) (pc := 42) dX3_farBySaying_42 rfl (by decide) (by decide) (fun v3 ev3 => ?_)
      have hwp := hwp v3 ev3
      refine x_lvE (lv2 := [(4, .int v3), (0, .ref l0), (1, .int l1), (2, .int l2), (3, .int l3)]) rfl ?_
      refine x_goto (tgt := 7) (pc := 45) dX3_farBySaying_45 (by decide) ?_
      refine x_sub [1, 2, 3, 4, 0] rfl ?_
      exact hbk7 _ hwp ⟨hx7, hn7, hz7⟩
    · have hwp := hwp.2 c2
      refine x_iload_n (pc := 23) dX3_farBySaying_23 rfl ?_
      refine x_aload_n (pc := 24) dX3_farBySaying_24 rfl ?_
      obtain ⟨b4, e5, hwp⟩ := hwp
      refine x_getR (pc := 25) dX3_farBySaying_25 qRX3_15 okl0 e5 (fun okb4 => ?_)
      refine x_aload_n (pc := 28) dX3_farBySaying_28 rfl ?_
      refine x_iload_n (pc := 29) dX3_farBySaying_29 rfl ?_
      refine x_iload (pc := 30) dX3_farBySaying_30 rfl ?_
      refine x_invV (As := [.int l1, .int l4]) (st := [.ref b4, .int l3]) (pc := 32) dX3_farBySaying_32 lRX3_83 fX3_stateAfter vX3_stateAfter okl0 rfl (Nat.le_of_ble_eq_true rfl) (q_R (by omega) (by decide)) (q_C hnn hzz (by decide) (by decide)) (sn_X3_stateAfter G (d + 0) l0 l1 l4 h _ okl0 hwp) (k_i (fun r7 h6 hwp cxh6 => ?_))
      have hex := hex.tr cxh6.1
      have hnn : qn h6 = qn h0 + 0 := by have := cxh6.2.1; omega
      have hzz : qz h6 = qz h0 + 0 := by have := cxh6.2.2; omega
      have hx7 := hx7.tr cxh6.1
      have hn7 : qn h6 = qn hb := by have := cxh6.2.1; omega
      have hz7 : qz h6 = qz hb := by have := cxh6.2.2; omega
      have okl0 := okl0.ex cxh6.1
      have okb4 := okb4.ex cxh6.1
      obtain ⟨i8, hwp⟩ := hwp
      refine x_iaload (pc := 35) dX3_farBySaying_35 okb4 i8 ?_
      refine x_iconst (v := 1) (pc := 36) dX3_farBySaying_36 (by decide) ?_
      refine x_iadd (pc := 37) dX3_farBySaying_37 ?_
      refine x_invS (As := [.int l3, .int ((qI h6 b4 r7.toNatClampNeg) + 1)]) (st := []) (pc := 38) dX3_farBySaying_38 lRX3_78 fJ9_min_7cf53 sJ9_min_7cf53 rfl (Nat.le_of_ble_eq_true rfl) (q_R (by omega) (by decide)) (q_C hnn hzz (by decide) (by decide)) (sn_J9_min_7cf53 G (d + 0) l3 ((qI h6 b4 r7.toNatClampNeg) + 1) h6 _  hwp) (k_i (fun r10 h9 hwp cxh9 => ?_))
      have hex := hex.tr cxh9.1
      have hnn : qn h9 = qn h0 + 0 := by have := cxh9.2.1; omega
      have hzz : qz h9 = qz h0 + 0 := by have := cxh9.2.2; omega
      have hx7 := hx7.tr cxh9.1
      have hn7 : qn h9 = qn hb := by have := cxh9.2.1; omega
      have hz7 : qz h9 = qz hb := by have := cxh9.2.2; omega
      have okl0 := okl0.ex cxh9.1
      have okb4 := okb4.ex cxh9.1
      refine x_istore_n (lv2 := [(3, .int r10), (0, .ref l0), (1, .int l1), (2, .int l2), (4, .int l4)]) (pc := 41) dX3_farBySaying_41 (by decide) rfl ?_
      refine y_iinc (c := 1) (pc := 42) dX3_farBySaying_42 rfl (by decide) (by decide) (fun v11 ev11 => ?_)
      have hwp := hwp v11 ev11
      refine x_lvE (lv2 := [(4, .int v11), (3, .int r10), (0, .ref l0), (1, .int l1), (2, .int l2)]) rfl ?_
      refine x_goto (tgt := 7) (pc := 45) dX3_farBySaying_45 (by decide) ?_
      refine x_sub [2, 3, 4, 1, 0] rfl ?_
      exact hbk7 _ hwp ⟨hx7, hn7, hz7⟩
theorem lp_X3_farBySaying_7 (G : GT) (d : Nat) (h0 hb : PH) (l0 : Nat) (l1 : Int32) (l2 : Int32) (Q : Int32 → PH → Prop)  (hex : qEx h0 hb) (hnn : qn hb = qn h0 + 0) (hzz : qz hb = qz h0 + 0) (okl0 : qOK hb 3 l0) {s : Int32 × Int32 × PH} (hwp : qLoop (wp_X3_farBySaying_7 l0 l1 l2 Q) s) : E_X3_farBySaying_7 G d h0 hb l0 l1 l2 Q s :=
  qLoop.use (E := E_X3_farBySaying_7 G d h0 hb l0 l1 l2 Q) (fun back s hbk hw hx => bd_X3_farBySaying_7 G d h0 hb l0 l1 l2 Q hex hnn hzz okl0 back hbk s.1 s.2.1 s.2.2 hw hx.1 hx.2.1 hx.2.2) hwp
def wp_X3_farBySaying (l0 : Nat) (l1 : Int32) (l2 : Int32) (h : PH) (Q : Int32 → PH → Prop) : Prop := (qLoop (wp_X3_farBySaying_7 l0 l1 l2 Q) (1000, 0, h))
set_option maxHeartbeats 4000000 in
set_option maxRecDepth 100000 in
theorem sn_X3_farBySaying (G : GT) (d : Nat) (l0 : Nat) (l1 : Int32) (l2 : Int32) (h : PH) (Q : Int32 → PH → Prop) (okl0 : qOK h 3 l0) (hwp : wp_X3_farBySaying l0 l1 l2 h Q) : Mt G (1 + d) 0 0 mX3_farBySaying [.ref l0, .int l1, .int l2] h (qqi Q) := by
  unfold wp_X3_farBySaying at hwp
  refine Mt.of (by decide) rfl (Nat.le_of_ble_eq_true rfl) ?_
  have hex := qEx.rf h
  have hnn : qn h = qn h + 0 := rfl
  have hzz : qz h = qz h + 0 := rfl
  refine x_lvE (lv2 := [(0, .ref l0), (1, .int l1), (2, .int l2)]) rfl ?_
  refine x_sipush (v := 1000) (pc := 0) dX3_farBySaying_0 (by decide) ?_
  refine x_istore_n (lv2 := [(3, .int 1000), (0, .ref l0), (1, .int l1), (2, .int l2)]) (pc := 3) dX3_farBySaying_3 (by decide) rfl ?_
  refine x_iconst (v := 0) (pc := 4) dX3_farBySaying_4 (by decide) ?_
  refine x_istore (lv2 := [(4, .int 0), (3, .int 1000), (0, .ref l0), (1, .int l1), (2, .int l2)]) (pc := 5) dX3_farBySaying_5 (by decide) rfl ?_
  refine x_sub [2, 3, 4, 1, 0] rfl ?_
  exact lp_X3_farBySaying_7 G d h h l0 l1 l2 Q hex hnn hzz okl0 hwp ⟨qEx.rf _, rfl, rfl⟩

theorem dX3_measure_0 : decode cX3_measure 0 = .ok (.iconst 0, 1) := by decide +kernel
theorem dX3_measure_1 : decode cX3_measure 1 = .ok (.istore_n 2, 1) := by decide +kernel
theorem dX3_measure_2 : decode cX3_measure 2 = .ok (.iload_n 2, 1) := by decide +kernel
theorem dX3_measure_3 : decode cX3_measure 3 = .ok (.bipush 10, 2) := by decide +kernel
theorem dX3_measure_5 : decode cX3_measure 5 = .ok (.if_icmp .ge 28, 3) := by decide +kernel
theorem dX3_measure_8 : decode cX3_measure 8 = .ok (.aload_n 0, 1) := by decide +kernel
theorem dX3_measure_9 : decode cX3_measure 9 = .ok (.getfield 15, 3) := by decide +kernel
theorem dX3_measure_12 : decode cX3_measure 12 = .ok (.iload_n 2, 1) := by decide +kernel
theorem dX3_measure_13 : decode cX3_measure 13 = .ok (.iload_n 2, 1) := by decide +kernel
theorem dX3_measure_14 : decode cX3_measure 14 = .ok (.bipush 9, 2) := by decide +kernel
theorem dX3_measure_16 : decode cX3_measure 16 = .ok (.if_icmp .ne 7, 3) := by decide +kernel
theorem dX3_measure_19 : decode cX3_measure 19 = .ok (.iconst 0, 1) := by decide +kernel
theorem dX3_measure_20 : decode cX3_measure 20 = .ok (.goto 6, 3) := by decide +kernel
theorem dX3_measure_23 : decode cX3_measure 23 = .ok (.sipush 1000, 3) := by decide +kernel
theorem dX3_measure_26 : decode cX3_measure 26 = .ok (.iastore, 1) := by decide +kernel
theorem dX3_measure_27 : decode cX3_measure 27 = .ok (.iinc 2 1, 3) := by decide +kernel
theorem dX3_measure_30 : decode cX3_measure 30 = .ok (.goto (-28), 3) := by decide +kernel
theorem dX3_measure_33 : decode cX3_measure 33 = .ok (.iconst 0, 1) := by decide +kernel
theorem dX3_measure_34 : decode cX3_measure 34 = .ok (.istore_n 2, 1) := by decide +kernel
theorem dX3_measure_35 : decode cX3_measure 35 = .ok (.iload_n 2, 1) := by decide +kernel
theorem dX3_measure_36 : decode cX3_measure 36 = .ok (.bipush 10, 2) := by decide +kernel
theorem dX3_measure_38 : decode cX3_measure 38 = .ok (.if_icmp .ge 44, 3) := by decide +kernel
theorem dX3_measure_41 : decode cX3_measure 41 = .ok (.iconst 0, 1) := by decide +kernel
theorem dX3_measure_42 : decode cX3_measure 42 = .ok (.istore_n 3, 1) := by decide +kernel
theorem dX3_measure_43 : decode cX3_measure 43 = .ok (.iload_n 3, 1) := by decide +kernel
theorem dX3_measure_44 : decode cX3_measure 44 = .ok (.bipush 9, 2) := by decide +kernel
theorem dX3_measure_46 : decode cX3_measure 46 = .ok (.if_icmp .ge 30, 3) := by decide +kernel
theorem dX3_measure_49 : decode cX3_measure 49 = .ok (.aload_n 0, 1) := by decide +kernel
theorem dX3_measure_50 : decode cX3_measure 50 = .ok (.getfield 15, 3) := by decide +kernel
theorem dX3_measure_53 : decode cX3_measure 53 = .ok (.iload_n 3, 1) := by decide +kernel
theorem dX3_measure_54 : decode cX3_measure 54 = .ok (.aload_n 0, 1) := by decide +kernel
theorem dX3_measure_55 : decode cX3_measure 55 = .ok (.getfield 15, 3) := by decide +kernel
theorem dX3_measure_58 : decode cX3_measure 58 = .ok (.iload_n 3, 1) := by decide +kernel
theorem dX3_measure_59 : decode cX3_measure 59 = .ok (.iaload, 1) := by decide +kernel
theorem dX3_measure_60 : decode cX3_measure 60 = .ok (.aload_n 0, 1) := by decide +kernel
theorem dX3_measure_61 : decode cX3_measure 61 = .ok (.iload_n 3, 1) := by decide +kernel
theorem dX3_measure_62 : decode cX3_measure 62 = .ok (.iload_n 1, 1) := by decide +kernel
theorem dX3_measure_63 : decode cX3_measure 63 = .ok (.invokevirtual 75, 3) := by decide +kernel
theorem dX3_measure_66 : decode cX3_measure 66 = .ok (.invokestatic 78, 3) := by decide +kernel
theorem dX3_measure_69 : decode cX3_measure 69 = .ok (.iastore, 1) := by decide +kernel
theorem dX3_measure_70 : decode cX3_measure 70 = .ok (.iinc 3 1, 3) := by decide +kernel
theorem dX3_measure_73 : decode cX3_measure 73 = .ok (.goto (-30), 3) := by decide +kernel
theorem dX3_measure_76 : decode cX3_measure 76 = .ok (.iinc 2 1, 3) := by decide +kernel
theorem dX3_measure_79 : decode cX3_measure 79 = .ok (.goto (-44), 3) := by decide +kernel
theorem dX3_measure_82 : decode cX3_measure 82 = .ok (.return_, 1) := by decide +kernel
def E_X3_measure_2 (G : GT) (d : Nat) (h0 hb : PH) (l0 : Nat) (l1 : Int32) (Q : PH → Prop) (s : Int32 × PH) : Prop := qEx hb s.2 ∧ qn s.2 = qn hb ∧ qz s.2 = qz hb → Ex G (qrm (2 + d) 0 0) mX3_measure (qn h0) (qz h0) (ZN G h0 0 0 (qqv Q)) 2 [(0, .ref l0), (1, .int l1), (2, .int s.1)] [] s.2
def E_X3_measure_35 (G : GT) (d : Nat) (h0 hb : PH) (l0 : Nat) (l1 : Int32) (Q : PH → Prop) (s : Int32 × PH) : Prop := qEx hb s.2 ∧ qn s.2 = qn hb ∧ qz s.2 = qz hb → Ex G (qrm (2 + d) 0 0) mX3_measure (qn h0) (qz h0) (ZN G h0 0 0 (qqv Q)) 35 [(0, .ref l0), (1, .int l1), (2, .int s.1)] [] s.2
def E_X3_measure_43 (G : GT) (d : Nat) (h0 hb : PH) (l0 : Nat) (l1 : Int32) (l2 : Int32) (Q : PH → Prop) (s : Int32 × PH) : Prop := qEx hb s.2 ∧ qn s.2 = qn hb ∧ qz s.2 = qz hb → Ex G (qrm (2 + d) 0 0) mX3_measure (qn h0) (qz h0) (ZN G h0 0 0 (qqv Q)) 43 [(0, .ref l0), (1, .int l1), (2, .int l2), (3, .int s.1)] [] s.2
def wb_X3_measure_43 (l0 : Nat) (l1 : Int32) (l2 : Int32) (bk35 : Int32 × PH → Prop) (Q : PH → Prop) (bk43 : Int32 × PH → Prop) (l3 : Int32) (h : PH) : Prop := ((9 ≤ l3 → ∀ v13 : Int32, v13 = l2 + 1 → bk35 (v13, h)) ∧ (¬ (9 ≤ l3) → (∃ b14, qR h l0 1 = some b14 ∧ (∃ b16, qR h l0 1 = some b16 ∧ (vp_in l3 (qL h b16) ∧ (wp_X3_farBySaying l0 l3 l1 h (fun r20 h19 => (wp_J9_min_7cf53 (qI h b16 l3.toNatClampNeg) r20 h19 (fun r22 h21 => (vp_in l3 (qL h21 b14) ∧ ∀ h23, h23 = qsI h21 b14 l3.toNatClampNeg r22 → ∀ v25 : Int32, v25 = l3 + 1 → bk43 (v25, h23)))))))))))
def wp_X3_measure_43 (l0 : Nat) (l1 : Int32) (l2 : Int32) (bk35 : Int32 × PH → Prop) (Q : PH → Prop) (bk43 : Int32 × PH → Prop) (s : Int32 × PH) : Prop := wb_X3_measure_43 l0 l1 l2 bk35 Q bk43 s.1 s.2
set_option maxHeartbeats 4000000 in
set_option maxRecDepth 100000 in
theorem bd_X3_measure_43 (G : GT) (d : Nat) (h0 hb : PH) (l0 : Nat) (l1 : Int32) (l2 : Int32) (Q : PH → Prop) (hb35 : PH) (bk35 : Int32 × PH → Prop) (hbk35 : ∀ s2, bk35 s2 → E_X3_measure_35 G d h0 hb35 l0 l1 Q s2) (hx35 : qEx hb35 hb) (hn35 : qn hb = qn hb35) (hz35 : qz hb = qz hb35) (hex : qEx h0 hb) (hnn : qn hb = qn h0 + 0) (hzz : qz hb = qz h0 + 0) (okl0 : qOK hb 3 l0) (bk43 : Int32 × PH → Prop) (hbk43 : ∀ s2, bk43 s2 → E_X3_measure_43 G d h0 hb l0 l1 l2 Q s2) (l3 : Int32) (h : PH) (hwp : wb_X3_measure_43 l0 l1 l2 bk35 Q bk43 l3 h) (hx43 : qEx hb h) (hn43 : qn h = qn hb) (hz43 : qz h = qz hb) : Ex G (qrm (2 + d) 0 0) mX3_measure (qn h0) (qz h0) (ZN G h0 0 0 (qqv Q)) 43 [(0, .ref l0), (1, .int l1), (2, .int l2), (3, .int l3)] [] h := by
  unfold wb_X3_measure_43 at hwp
  have hex := hex.tr hx43
  have hnn := hn43.trans hnn
  have hzz := hz43.trans hzz
  have hx35 := hx35.tr hx43
  have hn35 := hn43.trans hn35
  have hz35 := hz43.trans hz35
  have okl0 := okl0.ex hx43
  refine x_iload_n (pc := 43) dX3_measure_43 rfl ?_
  refine x_bipush (v := 9) (pc := 44) dX3_measure_44 (by decide) ?_
  refine x_icmp_ge (tgt := 76) (pc := 46) dX3_measure_46 (by decide) (fun c12 => ?_) (fun c12 => ?_)
  · have hwp := hwp.1 c12
    refine y_iinc (c := 1) (pc := 76) dX3_measure_76 rfl (by decide) (by decide) (fun v13 ev13 => ?_)
    have hwp := hwp v13 ev13
    refine x_lvE (lv2 := [(2, .int v13), (0, .ref l0), (1, .int l1), (3, .int l3)]) rfl ?_
    refine x_goto (tgt := 35) (pc := 79) dX3_measure_79 (by decide) ?_
    refine x_sub [1, 2, 0] rfl ?_
    exact hbk35 _ hwp ⟨hx35, hn35, hz35⟩
  · have hwp := hwp.2 c12
    refine x_aload_n (pc := 49) dX3_measure_49 rfl ?_
    obtain ⟨b14, e15, hwp⟩ := hwp
    refine x_getR (pc := 50) dX3_measure_50 qRX3_15 okl0 e15 (fun okb14 => ?_)
    refine x_iload_n (pc := 53) dX3_measure_53 rfl ?_
    refine x_aload_n (pc := 54) dX3_measure_54 rfl ?_
    obtain ⟨b16, e17, hwp⟩ := hwp
    refine x_getR (pc := 55) dX3_measure_55 qRX3_15 okl0 e17 (fun okb16 => ?_)
    refine x_iload_n (pc := 58) dX3_measure_58 rfl ?_
    obtain ⟨i18, hwp⟩ := hwp
    refine x_iaload (pc := 59) dX3_measure_59 okb16 i18 ?_
    refine x_aload_n (pc := 60) dX3_measure_60 rfl ?_
    refine x_iload_n (pc := 61) dX3_measure_61 rfl ?_
    refine x_iload_n (pc := 62) dX3_measure_62 rfl ?_
    refine x_invV (As := [.int l3, .int l1]) (st := [.int (qI h b16 l3.toNatClampNeg), .int l3, .ref b14]) (pc := 63) dX3_measure_63 lRX3_75 fX3_farBySaying vX3_farBySaying okl0 rfl (Nat.le_of_ble_eq_true rfl) (q_R (by omega) (by decide)) (q_C hnn hzz (by decide) (by decide)) (sn_X3_farBySaying G (d + 0) l0 l3 l1 h _ okl0 hwp) (k_i (fun r20 h19 hwp cxh19 => ?_))
    have hex := hex.tr cxh19.1
    have hnn : qn h19 = qn h0 + 0 := by have := cxh19.2.1; omega
    have hzz : qz h19 = qz h0 + 0 := by have := cxh19.2.2; omega
    have hx35 := hx35.tr cxh19.1
    have hn35 : qn h19 = qn hb35 := by have := cxh19.2.1; omega
    have hz35 : qz h19 = qz hb35 := by have := cxh19.2.2; omega
    have hx43 := hx43.tr cxh19.1
    have hn43 : qn h19 = qn hb := by have := cxh19.2.1; omega
    have hz43 : qz h19 = qz hb := by have := cxh19.2.2; omega
    have okl0 := okl0.ex cxh19.1
    have okb14 := okb14.ex cxh19.1
    have okb16 := okb16.ex cxh19.1
    refine x_invS (As := [.int (qI h b16 l3.toNatClampNeg), .int r20]) (st := [.int l3, .ref b14]) (pc := 66) dX3_measure_66 lRX3_78 fJ9_min_7cf53 sJ9_min_7cf53 rfl (Nat.le_of_ble_eq_true rfl) (q_R (by omega) (by decide)) (q_C hnn hzz (by decide) (by decide)) (sn_J9_min_7cf53 G (d + 1) (qI h b16 l3.toNatClampNeg) r20 h19 _  hwp) (k_i (fun r22 h21 hwp cxh21 => ?_))
    have hex := hex.tr cxh21.1
    have hnn : qn h21 = qn h0 + 0 := by have := cxh21.2.1; omega
    have hzz : qz h21 = qz h0 + 0 := by have := cxh21.2.2; omega
    have hx35 := hx35.tr cxh21.1
    have hn35 : qn h21 = qn hb35 := by have := cxh21.2.1; omega
    have hz35 : qz h21 = qz hb35 := by have := cxh21.2.2; omega
    have hx43 := hx43.tr cxh21.1
    have hn43 : qn h21 = qn hb := by have := cxh21.2.1; omega
    have hz43 : qz h21 = qz hb := by have := cxh21.2.2; omega
    have okl0 := okl0.ex cxh21.1
    have okb14 := okb14.ex cxh21.1
    have okb16 := okb16.ex cxh21.1
    obtain ⟨i24, hwp⟩ := hwp
    refine y_iastore (pc := 69) dX3_measure_69 okb14 i24 (fun h23 eh23 nxh23 => ?_)
    have hwp := hwp h23 eh23
    have hex := hex.tr nxh23.1
    have hnn := nxh23.2.1.trans hnn
    have hzz := nxh23.2.2.trans hzz
    have hx35 := hx35.tr nxh23.1
    have hn35 := nxh23.2.1.trans hn35
    have hz35 := nxh23.2.2.trans hz35
    have hx43 := hx43.tr nxh23.1
    have hn43 := nxh23.2.1.trans hn43
    have hz43 := nxh23.2.2.trans hz43
    have okl0 := okl0.ex nxh23.1
    have okb14 := okb14.ex nxh23.1
    have okb16 := okb16.ex nxh23.1
    refine y_iinc (c := 1) (pc := 70) dX3_measure_70 rfl (by decide) (by decide) (fun v25 ev25 => ?_)
    have hwp := hwp v25 ev25
    refine x_lvE (lv2 := [(3, .int v25), (0, .ref l0), (1, .int l1), (2, .int l2)]) rfl ?_
    refine x_goto (tgt := 43) (pc := 73) dX3_measure_73 (by decide) ?_
    refine x_sub [1, 2, 3, 0] rfl ?_
    exact hbk43 _ hwp ⟨hx43, hn43, hz43⟩
theorem lp_X3_measure_43 (G : GT) (d : Nat) (h0 hb : PH) (l0 : Nat) (l1 : Int32) (l2 : Int32) (Q : PH → Prop) (hb35 : PH) (bk35 : Int32 × PH → Prop) (hbk35 : ∀ s2, bk35 s2 → E_X3_measure_35 G d h0 hb35 l0 l1 Q s2) (hx35 : qEx hb35 hb) (hn35 : qn hb = qn hb35) (hz35 : qz hb = qz hb35) (hex : qEx h0 hb) (hnn : qn hb = qn h0 + 0) (hzz : qz hb = qz h0 + 0) (okl0 : qOK hb 3 l0) {s : Int32 × PH} (hwp : qLoop (wp_X3_measure_43 l0 l1 l2 bk35 Q) s) : E_X3_measure_43 G d h0 hb l0 l1 l2 Q s :=
  qLoop.use (E := E_X3_measure_43 G d h0 hb l0 l1 l2 Q) (fun back s hbk hw hx => bd_X3_measure_43 G d h0 hb l0 l1 l2 Q hb35 bk35 hbk35 hx35 hn35 hz35 hex hnn hzz okl0 back hbk s.1 s.2 hw hx.1 hx.2.1 hx.2.2) hwp
def wb_X3_measure_35 (l0 : Nat) (l1 : Int32)  (Q : PH → Prop) (bk35 : Int32 × PH → Prop) (l2 : Int32) (h : PH) : Prop := ((10 ≤ l2 → Q h) ∧ (¬ (10 ≤ l2) → (qLoop (wp_X3_measure_43 l0 l1 l2 bk35 Q) (0, h))))
def wp_X3_measure_35 (l0 : Nat) (l1 : Int32)  (Q : PH → Prop) (bk35 : Int32 × PH → Prop) (s : Int32 × PH) : Prop := wb_X3_measure_35 l0 l1 Q bk35 s.1 s.2
set_option maxHeartbeats 4000000 in
set_option maxRecDepth 100000 in
theorem bd_X3_measure_35 (G : GT) (d : Nat) (h0 hb : PH) (l0 : Nat) (l1 : Int32) (Q : PH → Prop)  (hex : qEx h0 hb) (hnn : qn hb = qn h0 + 0) (hzz : qz hb = qz h0 + 0) (okl0 : qOK hb 3 l0) (bk35 : Int32 × PH → Prop) (hbk35 : ∀ s2, bk35 s2 → E_X3_measure_35 G d h0 hb l0 l1 Q s2) (l2 : Int32) (h : PH) (hwp : wb_X3_measure_35 l0 l1 Q bk35 l2 h) (hx35 : qEx hb h) (hn35 : qn h = qn hb) (hz35 : qz h = qz hb) : Ex G (qrm (2 + d) 0 0) mX3_measure (qn h0) (qz h0) (ZN G h0 0 0 (qqv Q)) 35 [(0, .ref l0), (1, .int l1), (2, .int l2)] [] h := by
  unfold wb_X3_measure_35 at hwp
  have hex := hex.tr hx35
  have hnn := hn35.trans hnn
  have hzz := hz35.trans hzz
  have okl0 := okl0.ex hx35
  refine x_iload_n (pc := 35) dX3_measure_35 rfl ?_
  refine x_bipush (v := 10) (pc := 36) dX3_measure_36 (by decide) ?_
  refine x_icmp_ge (tgt := 82) (pc := 38) dX3_measure_38 (by decide) (fun c11 => ?_) (fun c11 => ?_)
  · have hwp := hwp.1 c11
    exact x_vret (pc := 82) dX3_measure_82 rfl hex hnn hzz ⟨rfl, hwp⟩
  · have hwp := hwp.2 c11
    refine x_iconst (v := 0) (pc := 41) dX3_measure_41 (by decide) ?_
    refine x_istore_n (lv2 := [(3, .int 0), (0, .ref l0), (1, .int l1), (2, .int l2)]) (pc := 42) dX3_measure_42 (by decide) rfl ?_
    refine x_sub [1, 2, 3, 0] rfl ?_
    exact lp_X3_measure_43 G d h0 h l0 l1 l2 Q hb bk35 hbk35 hx35 hn35 hz35 hex hnn hzz okl0 hwp ⟨qEx.rf _, rfl, rfl⟩
theorem lp_X3_measure_35 (G : GT) (d : Nat) (h0 hb : PH) (l0 : Nat) (l1 : Int32) (Q : PH → Prop)  (hex : qEx h0 hb) (hnn : qn hb = qn h0 + 0) (hzz : qz hb = qz h0 + 0) (okl0 : qOK hb 3 l0) {s : Int32 × PH} (hwp : qLoop (wp_X3_measure_35 l0 l1 Q) s) : E_X3_measure_35 G d h0 hb l0 l1 Q s :=
  qLoop.use (E := E_X3_measure_35 G d h0 hb l0 l1 Q) (fun back s hbk hw hx => bd_X3_measure_35 G d h0 hb l0 l1 Q hex hnn hzz okl0 back hbk s.1 s.2 hw hx.1 hx.2.1 hx.2.2) hwp
def wb_X3_measure_2 (l0 : Nat) (l1 : Int32)  (Q : PH → Prop) (bk2 : Int32 × PH → Prop) (l2 : Int32) (h : PH) : Prop := ((10 ≤ l2 → (qLoop (wp_X3_measure_35 l0 l1 Q) (0, h))) ∧ (¬ (10 ≤ l2) → (∃ b2, qR h l0 1 = some b2 ∧ ((¬ l2 = 9 → (vp_in l2 (qL h b2) ∧ ∀ h5, h5 = qsI h b2 l2.toNatClampNeg 1000 → ∀ v7 : Int32, v7 = l2 + 1 → bk2 (v7, h5))) ∧ (l2 = 9 → (vp_in l2 (qL h b2) ∧ ∀ h8, h8 = qsI h b2 l2.toNatClampNeg 0 → ∀ v10 : Int32, v10 = l2 + 1 → bk2 (v10, h8)))))))
def wp_X3_measure_2 (l0 : Nat) (l1 : Int32)  (Q : PH → Prop) (bk2 : Int32 × PH → Prop) (s : Int32 × PH) : Prop := wb_X3_measure_2 l0 l1 Q bk2 s.1 s.2
set_option maxHeartbeats 4000000 in
set_option maxRecDepth 100000 in
theorem bd_X3_measure_2 (G : GT) (d : Nat) (h0 hb : PH) (l0 : Nat) (l1 : Int32) (Q : PH → Prop)  (hex : qEx h0 hb) (hnn : qn hb = qn h0 + 0) (hzz : qz hb = qz h0 + 0) (okl0 : qOK hb 3 l0) (bk2 : Int32 × PH → Prop) (hbk2 : ∀ s2, bk2 s2 → E_X3_measure_2 G d h0 hb l0 l1 Q s2) (l2 : Int32) (h : PH) (hwp : wb_X3_measure_2 l0 l1 Q bk2 l2 h) (hx2 : qEx hb h) (hn2 : qn h = qn hb) (hz2 : qz h = qz hb) : Ex G (qrm (2 + d) 0 0) mX3_measure (qn h0) (qz h0) (ZN G h0 0 0 (qqv Q)) 2 [(0, .ref l0), (1, .int l1), (2, .int l2)] [] h := by
  unfold wb_X3_measure_2 at hwp
  have hex := hex.tr hx2
  have hnn := hn2.trans hnn
  have hzz := hz2.trans hzz
  have okl0 := okl0.ex hx2
  refine x_iload_n (pc := 2) dX3_measure_2 rfl ?_
  refine x_bipush (v := 10) (pc := 3) dX3_measure_3 (by decide) ?_
  refine x_icmp_ge (tgt := 33) (pc := 5) dX3_measure_5 (by decide) (fun c1 => ?_) (fun c1 => ?_)
  · have hwp := hwp.1 c1
    refine x_iconst (v := 0) (pc := 33) dX3_measure_33 (by decide) ?_
    refine x_istore_n (lv2 := [(2, .int 0), (0, .ref l0), (1, .int l1)]) (pc := 34) dX3_measure_34 (by decide) rfl ?_
    refine x_sub [1, 2, 0] rfl ?_
    exact lp_X3_measure_35 G d h0 h l0 l1 Q hex hnn hzz okl0 hwp ⟨qEx.rf _, rfl, rfl⟩
  · have hwp := hwp.2 c1
    refine x_aload_n (pc := 8) dX3_measure_8 rfl ?_
    obtain ⟨b2, e3, hwp⟩ := hwp
    refine x_getR (pc := 9) dX3_measure_9 qRX3_15 okl0 e3 (fun okb2 => ?_)
    refine x_iload_n (pc := 12) dX3_measure_12 rfl ?_
    refine x_iload_n (pc := 13) dX3_measure_13 rfl ?_
    refine x_bipush (v := 9) (pc := 14) dX3_measure_14 (by decide) ?_
    refine x_icmp_ne (tgt := 23) (pc := 16) dX3_measure_16 (by decide) (fun c4 => ?_) (fun c4 => ?_)
    · have hwp := hwp.1 c4
      refine x_sipush (v := 1000) (pc := 23) dX3_measure_23 (by decide) ?_
      obtain ⟨i6, hwp⟩ := hwp
      refine y_iastore (pc := 26) dX3_measure_26 okb2 i6 (fun h5 eh5 nxh5 => ?_)
      have hwp := hwp h5 eh5
      have hex := hex.tr nxh5.1
      have hnn := nxh5.2.1.trans hnn
      have hzz := nxh5.2.2.trans hzz
      have hx2 := hx2.tr nxh5.1
      have hn2 := nxh5.2.1.trans hn2
      have hz2 := nxh5.2.2.trans hz2
      have okl0 := okl0.ex nxh5.1
      have okb2 := okb2.ex nxh5.1
      refine y_iinc (c := 1) (pc := 27) dX3_measure_27 rfl (by decide) (by decide) (fun v7 ev7 => ?_)
      have hwp := hwp v7 ev7
      refine x_lvE (lv2 := [(2, .int v7), (0, .ref l0), (1, .int l1)]) rfl ?_
      refine x_goto (tgt := 2) (pc := 30) dX3_measure_30 (by decide) ?_
      refine x_sub [1, 2, 0] rfl ?_
      exact hbk2 _ hwp ⟨hx2, hn2, hz2⟩
    · have hwp := hwp.2 c4
      refine x_iconst (v := 0) (pc := 19) dX3_measure_19 (by decide) ?_
      refine x_goto (tgt := 26) (pc := 20) dX3_measure_20 (by decide) ?_
      obtain ⟨i9, hwp⟩ := hwp
      refine y_iastore (pc := 26) dX3_measure_26 okb2 i9 (fun h8 eh8 nxh8 => ?_)
      have hwp := hwp h8 eh8
      have hex := hex.tr nxh8.1
      have hnn := nxh8.2.1.trans hnn
      have hzz := nxh8.2.2.trans hzz
      have hx2 := hx2.tr nxh8.1
      have hn2 := nxh8.2.1.trans hn2
      have hz2 := nxh8.2.2.trans hz2
      have okl0 := okl0.ex nxh8.1
      have okb2 := okb2.ex nxh8.1
      refine y_iinc (c := 1) (pc := 27) dX3_measure_27 rfl (by decide) (by decide) (fun v10 ev10 => ?_)
      have hwp := hwp v10 ev10
      refine x_lvE (lv2 := [(2, .int v10), (0, .ref l0), (1, .int l1)]) rfl ?_
      refine x_goto (tgt := 2) (pc := 30) dX3_measure_30 (by decide) ?_
      refine x_sub [1, 2, 0] rfl ?_
      exact hbk2 _ hwp ⟨hx2, hn2, hz2⟩
theorem lp_X3_measure_2 (G : GT) (d : Nat) (h0 hb : PH) (l0 : Nat) (l1 : Int32) (Q : PH → Prop)  (hex : qEx h0 hb) (hnn : qn hb = qn h0 + 0) (hzz : qz hb = qz h0 + 0) (okl0 : qOK hb 3 l0) {s : Int32 × PH} (hwp : qLoop (wp_X3_measure_2 l0 l1 Q) s) : E_X3_measure_2 G d h0 hb l0 l1 Q s :=
  qLoop.use (E := E_X3_measure_2 G d h0 hb l0 l1 Q) (fun back s hbk hw hx => bd_X3_measure_2 G d h0 hb l0 l1 Q hex hnn hzz okl0 back hbk s.1 s.2 hw hx.1 hx.2.1 hx.2.2) hwp
def wp_X3_measure (l0 : Nat) (l1 : Int32) (h : PH) (Q : PH → Prop) : Prop := (qLoop (wp_X3_measure_2 l0 l1 Q) (0, h))
set_option maxHeartbeats 4000000 in
set_option maxRecDepth 100000 in
theorem sn_X3_measure (G : GT) (d : Nat) (l0 : Nat) (l1 : Int32) (h : PH) (Q : PH → Prop) (okl0 : qOK h 3 l0) (hwp : wp_X3_measure l0 l1 h Q) : Mt G (2 + d) 0 0 mX3_measure [.ref l0, .int l1] h (qqv Q) := by
  unfold wp_X3_measure at hwp
  refine Mt.of (by decide) rfl (Nat.le_of_ble_eq_true rfl) ?_
  have hex := qEx.rf h
  have hnn : qn h = qn h + 0 := rfl
  have hzz : qz h = qz h + 0 := rfl
  refine x_lvE (lv2 := [(0, .ref l0), (1, .int l1)]) rfl ?_
  refine x_iconst (v := 0) (pc := 0) dX3_measure_0 (by decide) ?_
  refine x_istore_n (lv2 := [(2, .int 0), (0, .ref l0), (1, .int l1)]) (pc := 1) dX3_measure_1 (by decide) rfl ?_
  refine x_sub [1, 2, 0] rfl ?_
  exact lp_X3_measure_2 G d h h l0 l1 Q hex hnn hzz okl0 hwp ⟨qEx.rf _, rfl, rfl⟩

theorem dX3_nearingSaying_0 : decode cX3_nearingSaying 0 = .ok (.iconst 0, 1) := by decide +kernel
theorem dX3_nearingSaying_1 : decode cX3_nearingSaying 1 = .ok (.istore_n 3, 1) := by decide +kernel
theorem dX3_nearingSaying_2 : decode cX3_nearingSaying 2 = .ok (.iload_n 3, 1) := by decide +kernel
theorem dX3_nearingSaying_3 : decode cX3_nearingSaying 3 = .ok (.bipush 7, 2) := by decide +kernel
theorem dX3_nearingSaying_5 : decode cX3_nearingSaying 5 = .ok (.if_icmp .ge 51, 3) := by decide +kernel
theorem dX3_nearingSaying_8 : decode cX3_nearingSaying 8 = .ok (.iload_n 2, 1) := by decide +kernel
theorem dX3_nearingSaying_9 : decode cX3_nearingSaying 9 = .ok (.iload_n 3, 1) := by decide +kernel
theorem dX3_nearingSaying_10 : decode cX3_nearingSaying 10 = .ok (.iushr, 1) := by decide +kernel
theorem dX3_nearingSaying_11 : decode cX3_nearingSaying 11 = .ok (.iconst 1, 1) := by decide +kernel
theorem dX3_nearingSaying_12 : decode cX3_nearingSaying 12 = .ok (.iand, 1) := by decide +kernel
theorem dX3_nearingSaying_13 : decode cX3_nearingSaying 13 = .ok (.ifCond .eq 7, 3) := by decide +kernel
theorem dX3_nearingSaying_16 : decode cX3_nearingSaying 16 = .ok (.iconst 1, 1) := by decide +kernel
theorem dX3_nearingSaying_17 : decode cX3_nearingSaying 17 = .ok (.goto 4, 3) := by decide +kernel
theorem dX3_nearingSaying_20 : decode cX3_nearingSaying 20 = .ok (.iconst 0, 1) := by decide +kernel
theorem dX3_nearingSaying_21 : decode cX3_nearingSaying 21 = .ok (.istore 4, 2) := by decide +kernel
theorem dX3_nearingSaying_23 : decode cX3_nearingSaying 23 = .ok (.iload 4, 2) := by decide +kernel
theorem dX3_nearingSaying_25 : decode cX3_nearingSaying 25 = .ok (.ifCond .eq 25, 3) := by decide +kernel
theorem dX3_nearingSaying_28 : decode cX3_nearingSaying 28 = .ok (.aload_n 0, 1) := by decide +kernel
theorem dX3_nearingSaying_29 : decode cX3_nearingSaying 29 = .ok (.getfield 15, 3) := by decide +kernel
theorem dX3_nearingSaying_32 : decode cX3_nearingSaying 32 = .ok (.aload_n 0, 1) := by decide +kernel
theorem dX3_nearingSaying_33 : decode cX3_nearingSaying 33 = .ok (.iload_n 1, 1) := by decide +kernel
theorem dX3_nearingSaying_34 : decode cX3_nearingSaying 34 = .ok (.iload_n 3, 1) := by decide +kernel
theorem dX3_nearingSaying_35 : decode cX3_nearingSaying 35 = .ok (.invokevirtual 83, 3) := by decide +kernel
theorem dX3_nearingSaying_38 : decode cX3_nearingSaying 38 = .ok (.iaload, 1) := by decide +kernel
theorem dX3_nearingSaying_39 : decode cX3_nearingSaying 39 = .ok (.aload_n 0, 1) := by decide +kernel
theorem dX3_nearingSaying_40 : decode cX3_nearingSaying 40 = .ok (.getfield 15, 3) := by decide +kernel
theorem dX3_nearingSaying_43 : decode cX3_nearingSaying 43 = .ok (.iload_n 1, 1) := by decide +kernel
theorem dX3_nearingSaying_44 : decode cX3_nearingSaying 44 = .ok (.iaload, 1) := by decide +kernel
theorem dX3_nearingSaying_45 : decode cX3_nearingSaying 45 = .ok (.if_icmp .ge 5, 3) := by decide +kernel
theorem dX3_nearingSaying_48 : decode cX3_nearingSaying 48 = .ok (.iload_n 3, 1) := by decide +kernel
theorem dX3_nearingSaying_49 : decode cX3_nearingSaying 49 = .ok (.ireturn, 1) := by decide +kernel
theorem dX3_nearingSaying_50 : decode cX3_nearingSaying 50 = .ok (.iinc 3 1, 3) := by decide +kernel
theorem dX3_nearingSaying_53 : decode cX3_nearingSaying 53 = .ok (.goto (-51), 3) := by decide +kernel
theorem dX3_nearingSaying_56 : decode cX3_nearingSaying 56 = .ok (.iconst 0, 1) := by decide +kernel
theorem dX3_nearingSaying_57 : decode cX3_nearingSaying 57 = .ok (.ireturn, 1) := by decide +kernel
def E_X3_nearingSaying_2 (G : GT) (d : Nat) (h0 hb : PH) (l0 : Nat) (l1 : Int32) (l2 : Int32) (Q : Int32 → PH → Prop) (s : Int32 × PH) : Prop := qEx hb s.2 ∧ qn s.2 = qn hb ∧ qz s.2 = qz hb → Ex G (qrm (1 + d) 0 0) mX3_nearingSaying (qn h0) (qz h0) (ZN G h0 0 0 (qqi Q)) 2 [(0, .ref l0), (1, .int l1), (2, .int l2), (3, .int s.1)] [] s.2
def wp_X3_nearingSaying_21 (l0 : Nat) (l1 : Int32) (l2 : Int32) (l3 : Int32) (s0 : Int32) (bk2 : Int32 × PH → Prop) (h : PH) (Q : Int32 → PH → Prop) : Prop := ((s0 = 0 → ∀ v4 : Int32, v4 = l3 + 1 → bk2 (v4, h)) ∧ (¬ (s0 = 0) → (∃ b5, qR h l0 1 = some b5 ∧ (wp_X3_stateAfter l0 l1 l3 h (fun r8 h7 => (vp_in r8 (qL h7 b5) ∧ (∃ b10, qR h7 l0 1 = some b10 ∧ (vp_in l1 (qL h7 b10) ∧ (((qI h7 b10 l1.toNatClampNeg) ≤ (qI h7 b5 r8.toNatClampNeg) → ∀ v14 : Int32, v14 = l3 + 1 → bk2 (v14, h7)) ∧ (¬ ((qI h7 b10 l1.toNatClampNeg) ≤ (qI h7 b5 r8.toNatClampNeg)) → Q l3 h7))))))))))
set_option maxHeartbeats 4000000 in
set_option maxRecDepth 100000 in
theorem sg_X3_nearingSaying_21 (G : GT) (d : Nat) (h0 : PH) (l0 : Nat) (l1 : Int32) (l2 : Int32) (l3 : Int32) (s0 : Int32) (h : PH) (Q : Int32 → PH → Prop) (hb2 : PH) (bk2 : Int32 × PH → Prop) (hbk2 : ∀ s2, bk2 s2 → E_X3_nearingSaying_2 G d h0 hb2 l0 l1 l2 Q s2) (hx2 : qEx hb2 h) (hn2 : qn h = qn hb2) (hz2 : qz h = qz hb2) (hex : qEx h0 h) (hnn : qn h = qn h0 + 0) (hzz : qz h = qz h0 + 0) (okl0 : qOK h 3 l0) (hwp : wp_X3_nearingSaying_21 l0 l1 l2 l3 s0 bk2 h Q) : Ex G (qrm (1 + d) 0 0) mX3_nearingSaying (qn h0) (qz h0) (ZN G h0 0 0 (qqi Q)) 21 [(0, .ref l0), (1, .int l1), (2, .int l2), (3, .int l3)] [.int s0] h := by
  unfold wp_X3_nearingSaying_21 at hwp
  refine x_istore (lv2 := [(4, .int s0), (0, .ref l0), (1, .int l1), (2, .int l2), (3, .int l3)]) (pc := 21) dX3_nearingSaying_21 (by decide) rfl ?_
  refine x_iload (pc := 23) dX3_nearingSaying_23 rfl ?_
  refine x_if_eq (tgt := 50) (pc := 25) dX3_nearingSaying_25 (by decide) (fun c3 => ?_) (fun c3 => ?_)
  · have hwp := hwp.1 c3
    refine y_iinc (c := 1) (pc := 50) dX3_nearingSaying_50 rfl (by decide) (by decide) (fun v4 ev4 => ?_)
    have hwp := hwp v4 ev4
    refine x_lvE (lv2 := [(3, .int v4), (4, .int s0), (0, .ref l0), (1, .int l1), (2, .int l2)]) rfl ?_
    refine x_goto (tgt := 2) (pc := 53) dX3_nearingSaying_53 (by decide) ?_
    refine x_sub [2, 3, 4, 0] rfl ?_
    exact hbk2 _ hwp ⟨hx2, hn2, hz2⟩
  · have hwp := hwp.2 c3
    refine x_aload_n (pc := 28) dX3_nearingSaying_28 rfl ?_
    obtain ⟨b5, e6, hwp⟩ := hwp
    refine x_getR (pc := 29) dX3_nearingSaying_29 qRX3_15 okl0 e6 (fun okb5 => ?_)
    refine x_aload_n (pc := 32) dX3_nearingSaying_32 rfl ?_
    refine x_iload_n (pc := 33) dX3_nearingSaying_33 rfl ?_
    refine x_iload_n (pc := 34) dX3_nearingSaying_34 rfl ?_
    refine x_invV (As := [.int l1, .int l3]) (st := [.ref b5]) (pc := 35) dX3_nearingSaying_35 lRX3_83 fX3_stateAfter vX3_stateAfter okl0 rfl (Nat.le_of_ble_eq_true rfl) (q_R (by omega) (by decide)) (q_C hnn hzz (by decide) (by decide)) (sn_X3_stateAfter G (d + 0) l0 l1 l3 h _ okl0 hwp) (k_i (fun r8 h7 hwp cxh7 => ?_))
    have hex := hex.tr cxh7.1
    have hnn : qn h7 = qn h0 + 0 := by have := cxh7.2.1; omega
    have hzz : qz h7 = qz h0 + 0 := by have := cxh7.2.2; omega
    have hx2 := hx2.tr cxh7.1
    have hn2 : qn h7 = qn hb2 := by have := cxh7.2.1; omega
    have hz2 : qz h7 = qz hb2 := by have := cxh7.2.2; omega
    have okl0 := okl0.ex cxh7.1
    have okb5 := okb5.ex cxh7.1
    obtain ⟨i9, hwp⟩ := hwp
    refine x_iaload (pc := 38) dX3_nearingSaying_38 okb5 i9 ?_
    refine x_aload_n (pc := 39) dX3_nearingSaying_39 rfl ?_
    obtain ⟨b10, e11, hwp⟩ := hwp
    refine x_getR (pc := 40) dX3_nearingSaying_40 qRX3_15 okl0 e11 (fun okb10 => ?_)
    refine x_iload_n (pc := 43) dX3_nearingSaying_43 rfl ?_
    obtain ⟨i12, hwp⟩ := hwp
    refine x_iaload (pc := 44) dX3_nearingSaying_44 okb10 i12 ?_
    refine x_icmp_ge (tgt := 50) (pc := 45) dX3_nearingSaying_45 (by decide) (fun c13 => ?_) (fun c13 => ?_)
    · have hwp := hwp.1 c13
      refine y_iinc (c := 1) (pc := 50) dX3_nearingSaying_50 rfl (by decide) (by decide) (fun v14 ev14 => ?_)
      have hwp := hwp v14 ev14
      refine x_lvE (lv2 := [(3, .int v14), (4, .int s0), (0, .ref l0), (1, .int l1), (2, .int l2)]) rfl ?_
      refine x_goto (tgt := 2) (pc := 53) dX3_nearingSaying_53 (by decide) ?_
      refine x_sub [2, 3, 4, 0] rfl ?_
      exact hbk2 _ hwp ⟨hx2, hn2, hz2⟩
    · have hwp := hwp.2 c13
      refine x_iload_n (pc := 48) dX3_nearingSaying_48 rfl ?_
      exact x_iret (pc := 49) dX3_nearingSaying_49 rfl hex hnn hzz ⟨_, rfl, hwp⟩
def wb_X3_nearingSaying_2 (l0 : Nat) (l1 : Int32) (l2 : Int32)  (Q : Int32 → PH → Prop) (bk2 : Int32 × PH → Prop) (l3 : Int32) (h : PH) : Prop := ((7 ≤ l3 → Q 0 h) ∧ (¬ (7 ≤ l3) → ((((q_ushr l2 l3) &&& 1) = 0 → (wp_X3_nearingSaying_21 l0 l1 l2 l3 0 bk2 h Q)) ∧ (¬ (((q_ushr l2 l3) &&& 1) = 0) → (wp_X3_nearingSaying_21 l0 l1 l2 l3 1 bk2 h Q)))))
def wp_X3_nearingSaying_2 (l0 : Nat) (l1 : Int32) (l2 : Int32)  (Q : Int32 → PH → Prop) (bk2 : Int32 × PH → Prop) (s : Int32 × PH) : Prop := wb_X3_nearingSaying_2 l0 l1 l2 Q bk2 s.1 s.2
set_option maxHeartbeats 4000000 in
set_option maxRecDepth 100000 in
theorem bd_X3_nearingSaying_2 (G : GT) (d : Nat) (h0 hb : PH) (l0 : Nat) (l1 : Int32) (l2 : Int32) (Q : Int32 → PH → Prop)  (hex : qEx h0 hb) (hnn : qn hb = qn h0 + 0) (hzz : qz hb = qz h0 + 0) (okl0 : qOK hb 3 l0) (bk2 : Int32 × PH → Prop) (hbk2 : ∀ s2, bk2 s2 → E_X3_nearingSaying_2 G d h0 hb l0 l1 l2 Q s2) (l3 : Int32) (h : PH) (hwp : wb_X3_nearingSaying_2 l0 l1 l2 Q bk2 l3 h) (hx2 : qEx hb h) (hn2 : qn h = qn hb) (hz2 : qz h = qz hb) : Ex G (qrm (1 + d) 0 0) mX3_nearingSaying (qn h0) (qz h0) (ZN G h0 0 0 (qqi Q)) 2 [(0, .ref l0), (1, .int l1), (2, .int l2), (3, .int l3)] [] h := by
  unfold wb_X3_nearingSaying_2 at hwp
  have hex := hex.tr hx2
  have hnn := hn2.trans hnn
  have hzz := hz2.trans hzz
  have okl0 := okl0.ex hx2
  refine x_iload_n (pc := 2) dX3_nearingSaying_2 rfl ?_
  refine x_bipush (v := 7) (pc := 3) dX3_nearingSaying_3 (by decide) ?_
  refine x_icmp_ge (tgt := 56) (pc := 5) dX3_nearingSaying_5 (by decide) (fun c1 => ?_) (fun c1 => ?_)
  · have hwp := hwp.1 c1
    refine x_iconst (v := 0) (pc := 56) dX3_nearingSaying_56 (by decide) ?_
    exact x_iret (pc := 57) dX3_nearingSaying_57 rfl hex hnn hzz ⟨_, rfl, hwp⟩
  · have hwp := hwp.2 c1
    refine x_iload_n (pc := 8) dX3_nearingSaying_8 rfl ?_
    refine x_iload_n (pc := 9) dX3_nearingSaying_9 rfl ?_
    refine x_iushr (pc := 10) dX3_nearingSaying_10 ?_
    refine x_iconst (v := 1) (pc := 11) dX3_nearingSaying_11 (by decide) ?_
    refine x_iand (pc := 12) dX3_nearingSaying_12 ?_
    refine x_if_eq (tgt := 20) (pc := 13) dX3_nearingSaying_13 (by decide) (fun c2 => ?_) (fun c2 => ?_)
    · have hwp := hwp.1 c2
      refine x_iconst (v := 0) (pc := 20) dX3_nearingSaying_20 (by decide) ?_
      refine x_sub [0, 1, 2, 3] rfl ?_
      exact sg_X3_nearingSaying_21 G d h0 l0 l1 l2 l3 0 h Q hb bk2 hbk2 hx2 hn2 hz2 hex hnn hzz okl0 hwp
    · have hwp := hwp.2 c2
      refine x_iconst (v := 1) (pc := 16) dX3_nearingSaying_16 (by decide) ?_
      refine x_goto (tgt := 21) (pc := 17) dX3_nearingSaying_17 (by decide) ?_
      refine x_sub [0, 1, 2, 3] rfl ?_
      exact sg_X3_nearingSaying_21 G d h0 l0 l1 l2 l3 1 h Q hb bk2 hbk2 hx2 hn2 hz2 hex hnn hzz okl0 hwp
theorem lp_X3_nearingSaying_2 (G : GT) (d : Nat) (h0 hb : PH) (l0 : Nat) (l1 : Int32) (l2 : Int32) (Q : Int32 → PH → Prop)  (hex : qEx h0 hb) (hnn : qn hb = qn h0 + 0) (hzz : qz hb = qz h0 + 0) (okl0 : qOK hb 3 l0) {s : Int32 × PH} (hwp : qLoop (wp_X3_nearingSaying_2 l0 l1 l2 Q) s) : E_X3_nearingSaying_2 G d h0 hb l0 l1 l2 Q s :=
  qLoop.use (E := E_X3_nearingSaying_2 G d h0 hb l0 l1 l2 Q) (fun back s hbk hw hx => bd_X3_nearingSaying_2 G d h0 hb l0 l1 l2 Q hex hnn hzz okl0 back hbk s.1 s.2 hw hx.1 hx.2.1 hx.2.2) hwp
def wp_X3_nearingSaying (l0 : Nat) (l1 : Int32) (l2 : Int32) (h : PH) (Q : Int32 → PH → Prop) : Prop := (qLoop (wp_X3_nearingSaying_2 l0 l1 l2 Q) (0, h))
set_option maxHeartbeats 4000000 in
set_option maxRecDepth 100000 in
theorem sn_X3_nearingSaying (G : GT) (d : Nat) (l0 : Nat) (l1 : Int32) (l2 : Int32) (h : PH) (Q : Int32 → PH → Prop) (okl0 : qOK h 3 l0) (hwp : wp_X3_nearingSaying l0 l1 l2 h Q) : Mt G (1 + d) 0 0 mX3_nearingSaying [.ref l0, .int l1, .int l2] h (qqi Q) := by
  unfold wp_X3_nearingSaying at hwp
  refine Mt.of (by decide) rfl (Nat.le_of_ble_eq_true rfl) ?_
  have hex := qEx.rf h
  have hnn : qn h = qn h + 0 := rfl
  have hzz : qz h = qz h + 0 := rfl
  refine x_lvE (lv2 := [(0, .ref l0), (1, .int l1), (2, .int l2)]) rfl ?_
  refine x_iconst (v := 0) (pc := 0) dX3_nearingSaying_0 (by decide) ?_
  refine x_istore_n (lv2 := [(3, .int 0), (0, .ref l0), (1, .int l1), (2, .int l2)]) (pc := 1) dX3_nearingSaying_1 (by decide) rfl ?_
  refine x_sub [1, 2, 3, 0] rfl ?_
  exact lp_X3_nearingSaying_2 G d h h l0 l1 l2 Q hex hnn hzz okl0 hwp ⟨qEx.rf _, rfl, rfl⟩

theorem dX3_tellShortest_0 : decode cX3_tellShortest 0 = .ok (.iconst 0, 1) := by decide +kernel
theorem dX3_tellShortest_1 : decode cX3_tellShortest 1 = .ok (.istore_n 3, 1) := by decide +kernel
theorem dX3_tellShortest_2 : decode cX3_tellShortest 2 = .ok (.iconst 0, 1) := by decide +kernel
theorem dX3_tellShortest_3 : decode cX3_tellShortest 3 = .ok (.istore 4, 2) := by decide +kernel
theorem dX3_tellShortest_5 : decode cX3_tellShortest 5 = .ok (.iload 4, 2) := by decide +kernel
theorem dX3_tellShortest_7 : decode cX3_tellShortest 7 = .ok (.aload_n 2, 1) := by decide +kernel
theorem dX3_tellShortest_8 : decode cX3_tellShortest 8 = .ok (.arraylength, 1) := by decide +kernel
theorem dX3_tellShortest_9 : decode cX3_tellShortest 9 = .ok (.if_icmp .ge 35, 3) := by decide +kernel
theorem dX3_tellShortest_12 : decode cX3_tellShortest 12 = .ok (.iload_n 3, 1) := by decide +kernel
theorem dX3_tellShortest_13 : decode cX3_tellShortest 13 = .ok (.bipush 9, 2) := by decide +kernel
theorem dX3_tellShortest_15 : decode cX3_tellShortest 15 = .ok (.if_icmp .eq 29, 3) := by decide +kernel
theorem dX3_tellShortest_18 : decode cX3_tellShortest 18 = .ok (.aload_n 2, 1) := by decide +kernel
theorem dX3_tellShortest_19 : decode cX3_tellShortest 19 = .ok (.iload 4, 2) := by decide +kernel
theorem dX3_tellShortest_21 : decode cX3_tellShortest 21 = .ok (.aload_n 0, 1) := by decide +kernel
theorem dX3_tellShortest_22 : decode cX3_tellShortest 22 = .ok (.iload_n 3, 1) := by decide +kernel
theorem dX3_tellShortest_23 : decode cX3_tellShortest 23 = .ok (.iload_n 1, 1) := by decide +kernel
theorem dX3_tellShortest_24 : decode cX3_tellShortest 24 = .ok (.invokevirtual 86, 3) := by decide +kernel
theorem dX3_tellShortest_27 : decode cX3_tellShortest 27 = .ok (.iastore, 1) := by decide +kernel
theorem dX3_tellShortest_28 : decode cX3_tellShortest 28 = .ok (.aload_n 0, 1) := by decide +kernel
theorem dX3_tellShortest_29 : decode cX3_tellShortest 29 = .ok (.iload_n 3, 1) := by decide +kernel
theorem dX3_tellShortest_30 : decode cX3_tellShortest 30 = .ok (.aload_n 2, 1) := by decide +kernel
theorem dX3_tellShortest_31 : decode cX3_tellShortest 31 = .ok (.iload 4, 2) := by decide +kernel
theorem dX3_tellShortest_33 : decode cX3_tellShortest 33 = .ok (.iaload, 1) := by decide +kernel
theorem dX3_tellShortest_34 : decode cX3_tellShortest 34 = .ok (.invokevirtual 83, 3) := by decide +kernel
theorem dX3_tellShortest_37 : decode cX3_tellShortest 37 = .ok (.istore_n 3, 1) := by decide +kernel
theorem dX3_tellShortest_38 : decode cX3_tellShortest 38 = .ok (.iinc 4 1, 3) := by decide +kernel
theorem dX3_tellShortest_41 : decode cX3_tellShortest 41 = .ok (.goto (-36), 3) := by decide +kernel
theorem dX3_tellShortest_44 : decode cX3_tellShortest 44 = .ok (.return_, 1) := by decide +kernel
def E_X3_tellShortest_5 (G : GT) (d : Nat) (h0 hb : PH) (l0 : Nat) (l1 : Int32) (l2 : Nat) (Q : PH → Prop) (s : Int32 × Int32 × PH) : Prop := qEx hb s.2.2 ∧ qn s.2.2 = qn hb ∧ qz s.2.2 = qz hb → Ex G (qrm (2 + d) 0 0) mX3_tellShortest (qn h0) (qz h0) (ZN G h0 0 0 (qqv Q)) 5 [(0, .ref l0), (1, .int l1), (2, .ref l2), (3, .int s.1), (4, .int s.2.1)] [] s.2.2
def wb_X3_tellShortest_5 (l0 : Nat) (l1 : Int32) (l2 : Nat)  (Q : PH → Prop) (bk5 : Int32 × Int32 × PH → Prop) (l3 : Int32) (l4 : Int32) (h : PH) : Prop := (((nI (qL h l2)) ≤ l4 → Q h) ∧ (¬ ((nI (qL h l2)) ≤ l4) → ((l3 = 9 → Q h) ∧ (¬ (l3 = 9) → (wp_X3_nearingSaying l0 l3 l1 h (fun r4 h3 => (vp_in l4 (qL h3 l2) ∧ ∀ h5, h5 = qsI h3 l2 l4.toNatClampNeg r4 → (vp_in l4 (qL h5 l2) ∧ (wp_X3_stateAfter l0 l3 (qI h5 l2 l4.toNatClampNeg) h5 (fun r9 h8 => ∀ v10 : Int32, v10 = l4 + 1 → bk5 (r9, v10, h8)))))))))))
def wp_X3_tellShortest_5 (l0 : Nat) (l1 : Int32) (l2 : Nat)  (Q : PH → Prop) (bk5 : Int32 × Int32 × PH → Prop) (s : Int32 × Int32 × PH) : Prop := wb_X3_tellShortest_5 l0 l1 l2 Q bk5 s.1 s.2.1 s.2.2
set_option maxHeartbeats 4000000 in
set_option maxRecDepth 100000 in
theorem bd_X3_tellShortest_5 (G : GT) (d : Nat) (h0 hb : PH) (l0 : Nat) (l1 : Int32) (l2 : Nat) (Q : PH → Prop)  (hex : qEx h0 hb) (hnn : qn hb = qn h0 + 0) (hzz : qz hb = qz h0 + 0) (okl0 : qOK hb 3 l0) (okl2 : qOK hb 14 l2) (bk5 : Int32 × Int32 × PH → Prop) (hbk5 : ∀ s2, bk5 s2 → E_X3_tellShortest_5 G d h0 hb l0 l1 l2 Q s2) (l3 : Int32) (l4 : Int32) (h : PH) (hwp : wb_X3_tellShortest_5 l0 l1 l2 Q bk5 l3 l4 h) (hx5 : qEx hb h) (hn5 : qn h = qn hb) (hz5 : qz h = qz hb) : Ex G (qrm (2 + d) 0 0) mX3_tellShortest (qn h0) (qz h0) (ZN G h0 0 0 (qqv Q)) 5 [(0, .ref l0), (1, .int l1), (2, .ref l2), (3, .int l3), (4, .int l4)] [] h := by
  unfold wb_X3_tellShortest_5 at hwp
  have hex := hex.tr hx5
  have hnn := hn5.trans hnn
  have hzz := hz5.trans hzz
  have okl0 := okl0.ex hx5
  have okl2 := okl2.ex hx5
  refine x_iload (pc := 5) dX3_tellShortest_5 rfl ?_
  refine x_aload_n (pc := 7) dX3_tellShortest_7 rfl ?_
  refine x_alen (pc := 8) dX3_tellShortest_8 okl2 (by decide) ?_
  refine x_icmp_ge (tgt := 44) (pc := 9) dX3_tellShortest_9 (by decide) (fun c1 => ?_) (fun c1 => ?_)
  · have hwp := hwp.1 c1
    exact x_vret (pc := 44) dX3_tellShortest_44 rfl hex hnn hzz ⟨rfl, hwp⟩
  · have hwp := hwp.2 c1
    refine x_iload_n (pc := 12) dX3_tellShortest_12 rfl ?_
    refine x_bipush (v := 9) (pc := 13) dX3_tellShortest_13 (by decide) ?_
    refine x_icmp_eq (tgt := 44) (pc := 15) dX3_tellShortest_15 (by decide) (fun c2 => ?_) (fun c2 => ?_)
    · have hwp := hwp.1 c2
      exact x_vret (pc := 44) dX3_tellShortest_44 rfl hex hnn hzz ⟨rfl, hwp⟩
    · have hwp := hwp.2 c2
      refine x_aload_n (pc := 18) dX3_tellShortest_18 rfl ?_
      refine x_iload (pc := 19) dX3_tellShortest_19 rfl ?_
      refine x_aload_n (pc := 21) dX3_tellShortest_21 rfl ?_
      refine x_iload_n (pc := 22) dX3_tellShortest_22 rfl ?_
      refine x_iload_n (pc := 23) dX3_tellShortest_23 rfl ?_
      refine x_invV (As := [.int l3, .int l1]) (st := [.int l4, .ref l2]) (pc := 24) dX3_tellShortest_24 lRX3_86 fX3_nearingSaying vX3_nearingSaying okl0 rfl (Nat.le_of_ble_eq_true rfl) (q_R (by omega) (by decide)) (q_C hnn hzz (by decide) (by decide)) (sn_X3_nearingSaying G (d + 0) l0 l3 l1 h _ okl0 hwp) (k_i (fun r4 h3 hwp cxh3 => ?_))
      have hex := hex.tr cxh3.1
      have hnn : qn h3 = qn h0 + 0 := by have := cxh3.2.1; omega
      have hzz : qz h3 = qz h0 + 0 := by have := cxh3.2.2; omega
      have hx5 := hx5.tr cxh3.1
      have hn5 : qn h3 = qn hb := by have := cxh3.2.1; omega
      have hz5 : qz h3 = qz hb := by have := cxh3.2.2; omega
      have okl0 := okl0.ex cxh3.1
      have okl2 := okl2.ex cxh3.1
      obtain ⟨i6, hwp⟩ := hwp
      refine y_iastore (pc := 27) dX3_tellShortest_27 okl2 i6 (fun h5 eh5 nxh5 => ?_)
      have hwp := hwp h5 eh5
      have hex := hex.tr nxh5.1
      have hnn := nxh5.2.1.trans hnn
      have hzz := nxh5.2.2.trans hzz
      have hx5 := hx5.tr nxh5.1
      have hn5 := nxh5.2.1.trans hn5
      have hz5 := nxh5.2.2.trans hz5
      have okl0 := okl0.ex nxh5.1
      have okl2 := okl2.ex nxh5.1
      refine x_aload_n (pc := 28) dX3_tellShortest_28 rfl ?_
      refine x_iload_n (pc := 29) dX3_tellShortest_29 rfl ?_
      refine x_aload_n (pc := 30) dX3_tellShortest_30 rfl ?_
      refine x_iload (pc := 31) dX3_tellShortest_31 rfl ?_
      obtain ⟨i7, hwp⟩ := hwp
      refine x_iaload (pc := 33) dX3_tellShortest_33 okl2 i7 ?_
      refine x_invV (As := [.int l3, .int (qI h5 l2 l4.toNatClampNeg)]) (st := []) (pc := 34) dX3_tellShortest_34 lRX3_83 fX3_stateAfter vX3_stateAfter okl0 rfl (Nat.le_of_ble_eq_true rfl) (q_R (by omega) (by decide)) (q_C hnn hzz (by decide) (by decide)) (sn_X3_stateAfter G (d + 1) l0 l3 (qI h5 l2 l4.toNatClampNeg) h5 _ okl0 hwp) (k_i (fun r9 h8 hwp cxh8 => ?_))
      have hex := hex.tr cxh8.1
      have hnn : qn h8 = qn h0 + 0 := by have := cxh8.2.1; omega
      have hzz : qz h8 = qz h0 + 0 := by have := cxh8.2.2; omega
      have hx5 := hx5.tr cxh8.1
      have hn5 : qn h8 = qn hb := by have := cxh8.2.1; omega
      have hz5 : qz h8 = qz hb := by have := cxh8.2.2; omega
      have okl0 := okl0.ex cxh8.1
      have okl2 := okl2.ex cxh8.1
      refine x_istore_n (lv2 := [(3, .int r9), (0, .ref l0), (1, .int l1), (2, .ref l2), (4, .int l4)]) (pc := 37) dX3_tellShortest_37 (by decide) rfl ?_
      refine y_iinc (c := 1) (pc := 38) dX3_tellShortest_38 rfl (by decide) (by decide) (fun v10 ev10 => ?_)
      have hwp := hwp v10 ev10
      refine x_lvE (lv2 := [(4, .int v10), (3, .int r9), (0, .ref l0), (1, .int l1), (2, .ref l2)]) rfl ?_
      refine x_goto (tgt := 5) (pc := 41) dX3_tellShortest_41 (by decide) ?_
      refine x_sub [2, 3, 4, 1, 0] rfl ?_
      exact hbk5 _ hwp ⟨hx5, hn5, hz5⟩
theorem lp_X3_tellShortest_5 (G : GT) (d : Nat) (h0 hb : PH) (l0 : Nat) (l1 : Int32) (l2 : Nat) (Q : PH → Prop)  (hex : qEx h0 hb) (hnn : qn hb = qn h0 + 0) (hzz : qz hb = qz h0 + 0) (okl0 : qOK hb 3 l0) (okl2 : qOK hb 14 l2) {s : Int32 × Int32 × PH} (hwp : qLoop (wp_X3_tellShortest_5 l0 l1 l2 Q) s) : E_X3_tellShortest_5 G d h0 hb l0 l1 l2 Q s :=
  qLoop.use (E := E_X3_tellShortest_5 G d h0 hb l0 l1 l2 Q) (fun back s hbk hw hx => bd_X3_tellShortest_5 G d h0 hb l0 l1 l2 Q hex hnn hzz okl0 okl2 back hbk s.1 s.2.1 s.2.2 hw hx.1 hx.2.1 hx.2.2) hwp
def wp_X3_tellShortest (l0 : Nat) (l1 : Int32) (l2 : Nat) (h : PH) (Q : PH → Prop) : Prop := (qLoop (wp_X3_tellShortest_5 l0 l1 l2 Q) (0, 0, h))
set_option maxHeartbeats 4000000 in
set_option maxRecDepth 100000 in
theorem sn_X3_tellShortest (G : GT) (d : Nat) (l0 : Nat) (l1 : Int32) (l2 : Nat) (h : PH) (Q : PH → Prop) (okl0 : qOK h 3 l0) (okl2 : qOK h 14 l2) (hwp : wp_X3_tellShortest l0 l1 l2 h Q) : Mt G (2 + d) 0 0 mX3_tellShortest [.ref l0, .int l1, .ref l2] h (qqv Q) := by
  unfold wp_X3_tellShortest at hwp
  refine Mt.of (by decide) rfl (Nat.le_of_ble_eq_true rfl) ?_
  have hex := qEx.rf h
  have hnn : qn h = qn h + 0 := rfl
  have hzz : qz h = qz h + 0 := rfl
  refine x_lvE (lv2 := [(0, .ref l0), (1, .int l1), (2, .ref l2)]) rfl ?_
  refine x_iconst (v := 0) (pc := 0) dX3_tellShortest_0 (by decide) ?_
  refine x_istore_n (lv2 := [(3, .int 0), (0, .ref l0), (1, .int l1), (2, .ref l2)]) (pc := 1) dX3_tellShortest_1 (by decide) rfl ?_
  refine x_iconst (v := 0) (pc := 2) dX3_tellShortest_2 (by decide) ?_
  refine x_istore (lv2 := [(4, .int 0), (3, .int 0), (0, .ref l0), (1, .int l1), (2, .ref l2)]) (pc := 3) dX3_tellShortest_3 (by decide) rfl ?_
  refine x_sub [2, 3, 4, 1, 0] rfl ?_
  exact lp_X3_tellShortest_5 G d h h l0 l1 l2 Q hex hnn hzz okl0 okl2 hwp ⟨qEx.rf _, rfl, rfl⟩
